/-! ===== the law's beginning ===== -/
theorem n_newL {X : xC} {E : cE} {own : String} {cc : ByteArray} {nc ns pc : Nat} {lv : List (Nat × Value)} {st : List Value} {w : va_W} (F : mF X E own cc bG) (hc : nc + 1 ≤ X.1.2.2.2.cells) (hs : ns + 1 ≤ X.1.2.2.2.slots) (hd : decode cc pc = .ok (.newarray .long, 2))
    (kk : ∀ (q : Nat) (cL : ClassId), va_K X.2.2.2.2 vwCl [(cL, .long)] X.2.1.1 → cW X (nc + 1) (ns + 1) (pc + 2) lv (.ref q :: st) (w ++ [(q, outE cL 0)])) : cW X nc ns pc lv (iV 1 :: st) w := by
  intro H locs ls hP hD hS hlv
  refine va_newa (atype := .long) (ty := .long) F.hx F.hb (F.ht _ wd1193) rfl F.hK hP hD hS F.hA (n := Int32.ofInt 1) (N' := 1) (a0 := (1, .inr (.inl (fun _ => Int64.ofInt 0)))) (fun cA => rfl) (by decide) (by decide) (by decide) hc hs hd (fun q cA H1 hK1 hP1 hD1 hS1 => ?_)
  exact kk q cA (hK1.sub [3] rfl) H1 locs ls hP1 hD1 hS1 hlv
set_option maxHeartbeats 4000000 in
set_option maxRecDepth 100000 in
theorem l_begin {X : xC} {E0 : cE} {b L : Nat} {xs : Nat → Int32} (F : mF X E0 RL code bG) (hC : sC X.2.1.1) (h1 : va_Nc "java/lang/IllegalArgumentException" "java/lang/IndexOutOfBoundsException" X.2.1.1) (h2 : va_Nc "java/lang/IllegalStateException" "java/lang/IllegalArgumentException" X.2.1.1) (hX : sX X b L xs) (hfl : X.1.2.1.stackTraces = false) (hN : X.2.2.1.2.2.2 = 9) (hfr : 60 ≤ X.1.2.2.2.frames ∧ 6000 ≤ X.1.2.2.2.locals) (hcs : 601024 ≤ X.1.2.2.2.cells ∧ 7293034 ≤ X.1.2.2.2.slots)
    (fin : ∀ (E : cE) (i : Int) (w : va_W), cW X 601024 7293034 1326 (lv0 E b i) [] w) : cW X 0 0 0 [(0, .ref b)] [] [] := by
  have c1 := hcs.1
  have c2 := hcs.2
  refine n_newO F (ci := 9) rfl ib11 tyX11 tyX11_ok wd27 wd28 wd1 [.null, .null, .null, .null, .null, .null, .null, .null, .null] (fun j hj => by rcases (show j = 0 ∨ j = 1 ∨ j = 2 ∨ j = 3 ∨ j = 4 ∨ j = 5 ∨ j = 6 ∨ j = 7 ∨ j = 8 by omega) with rfl | rfl | rfl | rfl | rfl | rfl | rfl | rfl | rfl <;> rfl) (by omega) (by omega) dL_law_0 (fun q => ?_)
  refine q_dup F dL_law_3 rfl ?_
  refine n_callI (w := []) (wf := wMill E0) F hC (kn11 (E := E0)) rfl wd29 wd30 wd1 wd31 ⟨rfl, rfl⟩ (niy _) (rm_c hfr (by decide) (by decide)) (Nat.le_of_ble_eq_true rfl) dL_law_4 ⟨by omega, by omega⟩ (fun u hu => ?_)
  refine q_astore_n (lv' := [(0, .ref b), (1, .ref q)]) F [1, 0] dL_law_7 rfl (q_n hN (by decide)) rfl ?_
  refine n_newO F (ci := 10) rfl ib12 tyX12 tyX12_ok wd867 wd868 wd13 [iV 0, .null, iV 0, iV 0, .null, .null, .null, iV 0, iV 0, .null, iV 0, iV 0, iV 0, iV 0, iV 0, .null, .null, .null, .null, .null, .null, .null, .null, .null, iV 0, iV 0, .null, iV 0, iV 0, .null, .null, iV 0, iV 0, iV 0, iV 0, iV 0, iV 0, .null, .null, .null, .null, .null, .null, iV 0] (fun j hj => by rcases (show j = 0 ∨ j = 1 ∨ j = 2 ∨ j = 3 ∨ j = 4 ∨ j = 5 ∨ j = 6 ∨ j = 7 ∨ j = 8 ∨ j = 9 ∨ j = 10 ∨ j = 11 ∨ j = 12 ∨ j = 13 ∨ j = 14 ∨ j = 15 ∨ j = 16 ∨ j = 17 ∨ j = 18 ∨ j = 19 ∨ j = 20 ∨ j = 21 ∨ j = 22 ∨ j = 23 ∨ j = 24 ∨ j = 25 ∨ j = 26 ∨ j = 27 ∨ j = 28 ∨ j = 29 ∨ j = 30 ∨ j = 31 ∨ j = 32 ∨ j = 33 ∨ j = 34 ∨ j = 35 ∨ j = 36 ∨ j = 37 ∨ j = 38 ∨ j = 39 ∨ j = 40 ∨ j = 41 ∨ j = 42 ∨ j = 43 by omega) with rfl | rfl | rfl | rfl | rfl | rfl | rfl | rfl | rfl | rfl | rfl | rfl | rfl | rfl | rfl | rfl | rfl | rfl | rfl | rfl | rfl | rfl | rfl | rfl | rfl | rfl | rfl | rfl | rfl | rfl | rfl | rfl | rfl | rfl | rfl | rfl | rfl | rfl | rfl | rfl | rfl | rfl | rfl | rfl <;> rfl) (by omega) (by omega) dL_law_8 (fun q2 => ?_)
  refine q_dup F dL_law_11 rfl ?_
  refine n_callI (wf := wM12 E0) F hC (kn12 (E := E0)) rfl wd869 wd870 wd13 wd871 ⟨rfl, rfl⟩ (niy _) (rm_c hfr (by decide) (by decide)) (Nat.le_of_ble_eq_true rfl) dL_law_12 ⟨by omega, by omega⟩ (fun u2 _ => ?_)
  refine q_astore_n (lv' := [(0, .ref b), (1, .ref q), (2, .ref q2)]) F [1, 2, 0] dL_law_15 rfl (q_n hN (by decide)) rfl ?_
  refine q_iconst F dL_law_16 ?_
  refine n_newL F (by omega) (by omega) dL_law_17 (fun o cL hL => ?_)
  refine q_astore_n (lv' := [(0, .ref b), (1, .ref q), (2, .ref q2), (3, .ref o)]) F [1, 2, 3, 0] dL_law_19 rfl (q_n hN (by decide)) rfl ?_
  refine q_iconst F dL_law_20 ?_
  obtain ⟨z, hz⟩ : ∃ z : Nat → Nat, z = fun i => if i = 2000 then o else if i = 1000 then q2 else u2 i := ⟨_, rfl⟩
  have hz1 : adMill q u z 1000 = q2 := by subst hz; rfl
  have hz2 : adMill q u z 2000 = o := by subst hz; rfl
  have hz0 : adMill q u z 0 = q := rfl
  refine q_istore (lv' := lv0 (adMill q u z, E0.2) b 0) F [1, 2, 3, 4, 0] dL_law_21 (q_n hN (by decide)) (by show [(0, Value.ref b), (1, .ref q), (2, .ref q2), (3, .ref o), (4, iV 0)] = [(0, .ref b), (1, .ref (adMill q u z 0)), (2, .ref (adMill q u z 1000)), (3, .ref (adMill q u z 2000)), (4, iV 0)]; rw [hz0, hz1, hz2]) ?_
  have e12 : nEq (wM12 E0 q2 u2) (gw (adMill q u z) mIds (mef (adMill q u z, E0.2) J00)) := by subst hz; exact nEq_e rfl
  have eo : nEq [(o, outE cL 0)] [(adMill q u z 2000, outE cL 0)] := nEq_e (by rw [hz2])
  refine n_eq (nEq_a (nEq_a (mill_eq (z := z) (E := E0) hu.1 hu.2) e12) eo) ?_
  have pm : (gw (adMill q u z) idsM (eM E0 q u z)).Perm (gw (adMill q u z) cIds (eM E0 q u z)) := idsM_p.map _
  have pc : List.Perm ((gw (adMill q u z) cIds (eM E0 q u z) ++ gw (adMill q u z) mIds (mef (adMill q u z, E0.2) J00)) ++ [(adMill q u z 2000, outE cL 0)]) (gw (adMill q u z) cIds (eM E0 q u z) ++ ([(adMill q u z 2000, outE cL 0)] ++ gw (adMill q u z) mIds (mef (adMill q u z, E0.2) J00))) := by
    rw [List.append_assoc]
    exact List.Perm.append_left _ List.perm_append_comm
  refine n_perm (((pm.append_right _).append_right _).trans pc) ?_
  have F' : mF X (adMill q u z, E0.2) RL code bG := F
  refine l_join (E := (adMill q u z, E0.2)) ?_
  exact l_loop F' ⟨hL, h1, h2⟩ hX hfl hN hfr 601024 7293034 (fin _) 513 _ _ 0 0 I00 R00 J00 (Int.le_refl 0) (by have := hX.2.2.2; omega) (by omega) (by omega) c1 c2 (by omega) cM_00 mM_00 INV_00
