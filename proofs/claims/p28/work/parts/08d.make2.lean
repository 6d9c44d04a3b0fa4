/-! ===== constructors: a search, a puzzle ===== -/
section N2
variable {X : xC} {E : cE} {own : String} {cc : ByteArray} {nc ns pc index : Nat} {lv : List (Nat × Value)} {st : List Value} {w : va_W}
theorem n_mna (F : mF X E own cc bG) (ho : va_AOA .int X.2.1.1) (hl : Cond.classLink own index "[[I" ∈ bG) {x y : Int} (n k : Nat) (hx : x = n) (hy : y = k) (hn : n ≤ 10000) (hk : k ≤ 10000) (hc : nc + (1 + n) ≤ X.1.2.2.2.cells) (hs : ns + (n + n * k) ≤ X.1.2.2.2.slots) (hd : decode cc pc = .ok (.multianewarray index 2, 4))
    (kk : ∀ (q : Nat) (r : Nat → Nat), cW X (nc + 1 + n) (ns + n + n * k) (pc + 4) lv (.ref q :: st) ((w ++ [(q, .inl (yA E, n, .inr (.inr (.inr (.inr (fun i => if i < n then some (r i) else none))))))]) ++ (List.range n).map (fun i => (r i, iA E k (fun _ => 0))))) : cW X nc ns pc lv (iV y :: iV x :: st) w := by
  intro H locs ls hP hD hS hlv
  subst hx; subst hy
  have hrn : inR (n : Int) := by unfold inR; omega
  have hrk : inR (k : Int) := by unfold inR; omega
  have e0 : w ++ va_pl [] (fun _ => iA E 0 (fun _ => 0)) = w := List.append_nil w
  rw [← e0] at hP hD
  have hcy : X.2.1.1.vm.findClass (FieldType.array .int).toString = some (yI E) := (F.hK.2 0 (yI E, .int) rfl).2
  refine va_mna (ty := .int) (cy := yI E) (z := (k, .inl (fun _ => Int32.ofInt 0))) (N' := n) (K' := k) F.hx F.hb F.ho (F.ht _ hl) ho (F.ht _ wd44) hcy F.hK hP hD hS F.hA (n := Int32.ofInt n) (k := Int32.ofInt k) (fun z => ?_) (fun z => ?_) ((ti_cl hrn).trans (by omega)) ((ti_cl hrk).trans (by omega)) (by omega) (by show k * 4 ≤ _; omega) (by omega) rfl rfl hc hs (fun c => arrV_new c k (.int 0)) hd (fun q r cA H1 hri hrn' hK1 hP1 hD1 hS1 => ?_)
  · have : Int32.ofInt (n : Int) < Int32.ofInt 0 := z
    rw [ti_lt hrn ti_0] at this
    omega
  · have : Int32.ofInt (k : Int) < Int32.ofInt 0 := z
    rw [ti_lt hrk ti_0] at this
    omega
  · have hcA : cA = yA E := by
      have h1 := (hK1.2 (cty E).length (cA, .array .int) (by rw [List.getElem?_append_right (Nat.le_refl _), Nat.sub_self]; rfl)).2
      have h2 := (F.hK.2 2 (yA E, .array .int) rfl).2
      exact Option.some.inj (h1.symm.trans h2)
    rw [hcA] at hP1 hD1
    have e1 := vr_rows (L := []) (l := (List.range n).map r) (f := fun _ => iA E 0 (fun _ => 0)) (e := .inl (yI E, (k, .inl (fun _ => Int32.ofInt 0)))) (fun a _ h => nomatch h)
    rw [← e1] at hP1 hD1
    have e2 : va_pl [] (fun _ => iA E 0 (fun _ => 0)) ++ ((List.range n).map r).map (fun a => (a, (.inl (yI E, (k, .inl (fun _ => Int32.ofInt 0))) : va_E))) = (List.range n).map (fun i => (r i, iA E k (fun _ => 0))) := by
      rw [List.map_map]; rfl
    rw [e2] at hP1 hD1
    exact kk q r H1 locs ls hP1 hD1 hS1 hlv
theorem nshift {a r x : va_W} : ((a ++ r) ++ x).Perm ((a ++ x) ++ r) := by
  rw [List.append_assoc, List.append_assoc]
  exact List.Perm.append_left a List.perm_append_comm
theorem n_alen (F : mF X E own cc bG) (q0 t0 : Nat) {a n : Nat} {cA : ClassId} {ty : FieldType} {f : Nat → Option Nat} (he : w[q0]? = some (a, .inl (cA, n, .inr (.inr (.inr (.inr f)))))) (ht : (cty E)[t0]? = some (cA, ty)) (hd : decode cc pc = .ok (.arraylength, 1)) (kk : cW X nc ns (pc + 1) lv (iV n :: st) w) : cW X nc ns pc lv (.ref a :: st) w := fun H locs ls hP hD hS hlv =>
  va_alen F.hx F.hb F.hK hP q0 t0 he ht (Int32.ofInt_eq_ofNat.symm) hd (kk H locs ls hP hD hS hlv)
theorem n_ast (F : mF X E own cc bG) (q0 qk : Nat) {a n v : Nat} {f : Nat → Option Nat} {fs : List Value} (he : w[q0]? = some (a, .inl (yR E, n, .inr (.inr (.inr (.inr f)))))) (hv : w[qk]? = some (v, .inr (5, fs))) {x : Nat} (h1 : x < n) (hn : n < 2147483648) (hd : decode cc pc = .ok (.aastore, 1)) {w' : va_W} (hw : w.set q0 (a, .inl (yR E, n, .inr (.inr (.inr (.inr (va_up f x (some v))))))) = w') (kk : cW X nc ns (pc + 1) lv st w') : cW X nc ns pc lv (.ref v :: iV x :: .ref a :: st) w := fun H locs ls hP hD hS hlv =>
  va_astq (r := (RX7, TX7, 6)) F.hx F.hb F.hK hP hD hS q0 1 qk 5 he rfl hv rfl (ti_in (by omega) (by omega) hn) hd (fun H1 locs1 hP1 hD1 hS1 => by
    rw [ti_cln (by omega) (by omega : (x : Int) < n) hn, show ((x : Int)).toNat = x by omega, hw] at hP1 hD1
    exact kk H1 locs1 ls hP1 hD1 hS1 hlv)
end N2
abbrev rowO (E : cE) (n : Nat) (r : Nat → Nat) : va_E := .inl (yA E, n, .inr (.inr (.inr (.inr (fun i => if i < n then some (r i) else none)))))
def wS8 (E : cE) (h0 : Nat) (u : Nat × Nat × Nat × Nat × (Nat → Nat)) : va_W := [(h0, .inr (6, [.ref u.1, iV 0, iV 0, .ref u.2.1, .ref u.2.2.1, .ref u.2.2.2.1, iV 0, iV 0, iV 0])), (u.1, rowO E 30 u.2.2.2.2), (u.2.1, iA E 25 (fun _ => 0)), (u.2.2.1, iA E 25 (fun _ => 0)), (u.2.2.2.1, iA E 25 (fun _ => 0))] ++ (List.range 30).map (fun i => (u.2.2.2.2 i, iA E 25 (fun _ => 0)))
def vX8_init : List Cond := Cond.code yX8_init cX8_init 1 none :: bG
set_option maxHeartbeats 4000000 in
set_option maxRecDepth 100000 in
theorem kn8 {l : Launch} {D : va_G} {E : cE} : nM l D E yX8_init vX8_init (rmK 1 34 855) (.inr (6, [.null, iV 0, iV 0, .null, .null, .null, iV 0, iV 0, iV 0])) (wS8 E) (fun _ => True) 34 855 := by
  refine n_ofW (own := RX8) (cc := cX8_init) (maxL := 1) (by decide) rfl rfl rfl (by decide) (fun X h0 hl hR hN hD F K => ?_)
  have hR1 : 1 ≤ X.1.2.2.2.frames ∧ 20 ≤ X.1.2.2.2.locals := by rw [hR]; exact ⟨by decide, by decide⟩
  refine q_aload_n F 0 dX8_init_0 rfl rfl ?_
  refine n_objI F hR1 wd82 dX8_init_1 ?_
  refine q_aload_n F 0 dX8_init_4 rfl rfl ?_
  refine q_bipush F dX8_init_5 (by decide) ?_
  refine q_bipush F dX8_init_7 (by decide) ?_
  refine n_mna F K.2.2.2.2.2.2.2.2.2.2.2.2.2 wd83 30 25 rfl rfl (by decide) (by decide) (by rw [hR]; decide) (by rw [hR]; decide) dX8_init_9 (fun q r => ?_)
  obtain ⟨rows, hrows⟩ : ∃ z, z = (List.range 30).map (fun i => (r i, iA (nE h0 E) 25 (fun _ => 0))) := ⟨_, rfl⟩
  rw [← hrows]
  refine n_putF F K.2.2.2.1 0 rfl (ci := 6) rfl ib8 tyX8 tyX8_ok nmX8 0 (by decide) wd85 rfl rfl (ty := .array (.array .int)) rfl rfl rfl (Nat.le_of_ble_eq_true rfl) dX8_init_13 (w' := [(h0, .inr (6, [.ref q, iV 0, iV 0, .null, .null, .null, iV 0, iV 0, iV 0])), (q, rowO E 30 r)] ++ rows) rfl ?_
  refine q_aload_n F 0 dX8_init_16 rfl rfl ?_
  refine q_bipush F dX8_init_17 (by decide) ?_
  refine n_newI F 25 rfl (by decide) (by rw [hR]; decide) (by rw [hR]; decide) dX8_init_19 (fun v => ?_)
  refine n_perm nshift ?_
  refine n_putF F K.2.2.2.1 0 rfl (ci := 6) rfl ib8 tyX8 tyX8_ok nmX8 3 (by decide) wd92 rfl rfl (ty := .array .int) rfl rfl rfl (Nat.le_of_ble_eq_true rfl) dX8_init_21 (w' := [(h0, .inr (6, [.ref q, iV 0, iV 0, .ref v, .null, .null, iV 0, iV 0, iV 0])), (q, rowO E 30 r), (v, iA E 25 (fun _ => 0))] ++ rows) rfl ?_
  refine q_aload_n F 0 dX8_init_24 rfl rfl ?_
  refine q_bipush F dX8_init_25 (by decide) ?_
  refine n_newI F 25 rfl (by decide) (by rw [hR]; decide) (by rw [hR]; decide) dX8_init_27 (fun o => ?_)
  refine n_perm nshift ?_
  refine n_putF F K.2.2.2.1 0 rfl (ci := 6) rfl ib8 tyX8 tyX8_ok nmX8 4 (by decide) wd93 rfl rfl (ty := .array .int) rfl rfl rfl (Nat.le_of_ble_eq_true rfl) dX8_init_29 (w' := [(h0, .inr (6, [.ref q, iV 0, iV 0, .ref v, .ref o, .null, iV 0, iV 0, iV 0])), (q, rowO E 30 r), (v, iA E 25 (fun _ => 0)), (o, iA E 25 (fun _ => 0))] ++ rows) rfl ?_
  refine q_aload_n F 0 dX8_init_32 rfl rfl ?_
  refine q_bipush F dX8_init_33 (by decide) ?_
  refine n_newI F 25 rfl (by decide) (by rw [hR]; decide) (by rw [hR]; decide) dX8_init_35 (fun f => ?_)
  refine n_perm nshift ?_
  refine n_putF F K.2.2.2.1 0 rfl (ci := 6) rfl ib8 tyX8 tyX8_ok nmX8 5 (by decide) wd94 rfl rfl (ty := .array .int) rfl rfl rfl (Nat.le_of_ble_eq_true rfl) dX8_init_37 (w' := [(h0, .inr (6, [.ref q, iV 0, iV 0, .ref v, .ref o, .ref f, iV 0, iV 0, iV 0])), (q, rowO E 30 r), (v, iA E 25 (fun _ => 0)), (o, iA E 25 (fun _ => 0)), (f, iA E 25 (fun _ => 0))] ++ rows) rfl ?_
  rw [hrows]
  exact n_ret (u := (q, v, o, f, r)) F K dX8_init_40 trivial
abbrev rowL (E : cE) (L : List (Nat × Nat)) : va_E := .inl (yR E, 65, .inr (.inr (.inr (.inr (fun j => (L[j]?).map (fun p => p.1))))))
abbrev rulW (E : cE) (L : List (Nat × Nat)) : va_W := L.flatMap (fun p => [(p.1, .inr (5, [.ref (E.2.1 0 0), iV 0, iV 0, iV 0, .ref p.2, iV 0])), (p.2, iA E 5 (fun _ => 0))])
def wS4 (E : cE) (h0 : Nat) (u : Nat × Nat × Nat × List (Nat × Nat)) : va_W := [(h0, .inr (2, [iV 0, iV 0, iV 0, .ref u.1, .ref u.2.1, iV 0, .ref u.2.2.1])), (u.1, iA E 25 (fun _ => 0)), (u.2.1, rowL E u.2.2.2), (u.2.2.1, iA E 25 (fun _ => 0))] ++ rulW E u.2.2.2
def vX4_init : List Cond := Cond.code yX4_init cX4_init 2 none :: bG
set_option maxHeartbeats 4000000 in
set_option maxRecDepth 100000 in
theorem kn4 {l : Launch} {D : va_G} {E : cE} : nM l D E yX4_init vX4_init (rmK 2 133 830) (.inr (2, [iV 0, iV 0, iV 0, .null, .null, iV 0, .null])) (wS4 E) (fun u => u.2.2.2.length = 65) 133 830 := by
  refine n_ofW (own := RX4) (cc := cX4_init) (maxL := 2) (by decide) rfl rfl rfl (by decide) (fun X h0 hl hR hN hD F K => ?_)
  have hR1 : 1 ≤ X.1.2.2.2.frames ∧ 20 ≤ X.1.2.2.2.locals := by rw [hR]; exact ⟨by decide, by decide⟩
  refine q_aload_n F 0 dX4_init_0 rfl rfl ?_
  refine n_objI F hR1 wd132 dX4_init_1 ?_
  refine q_aload_n F 0 dX4_init_4 rfl rfl ?_
  refine q_bipush F dX4_init_5 (by decide) ?_
  refine n_newI F 25 rfl (by decide) (by rw [hR]; decide) (by rw [hR]; decide) dX4_init_7 (fun g => ?_)
  refine n_putF F K.2.2.2.1 0 rfl (ci := 2) rfl ib4 tyX4 tyX4_ok nmX4 3 (by decide) wd180 rfl rfl (ty := .array .int) rfl rfl rfl (Nat.le_of_ble_eq_true rfl) dX4_init_9 rfl ?_
  refine q_aload_n F 0 dX4_init_12 rfl rfl ?_
  refine q_bipush F dX4_init_13 (by decide) ?_
  refine n_newR F K.2.2.2.2.2.2.2.2.2.2.2.2.1 wd133 65 rfl (by decide) (by rw [hR]; decide) (by rw [hR]; decide) dX4_init_15 (fun rs => ?_)
  refine n_putF F K.2.2.2.1 0 rfl (ci := 2) rfl ib4 tyX4 tyX4_ok nmX4 4 (by decide) wd184 rfl rfl (ty := .array (.object "RiddleMill$Rule")) rfl rfl rfl (Nat.le_of_ble_eq_true rfl) dX4_init_18 rfl ?_
  refine q_aload_n F 0 dX4_init_21 rfl rfl ?_
  refine q_bipush F dX4_init_22 (by decide) ?_
  refine n_newI F 25 rfl (by decide) (by rw [hR]; decide) (by rw [hR]; decide) dX4_init_24 (fun pl => ?_)
  refine n_putF F K.2.2.2.1 0 rfl (ci := 2) rfl ib4 tyX4 tyX4_ok nmX4 6 (by decide) wd193 rfl rfl (ty := .array .int) rfl rfl rfl (Nat.le_of_ble_eq_true rfl) dX4_init_26 (w' := wS4 E h0 (g, rs, pl, [])) rfl ?_
  refine q_iconst F dX4_init_29 ?_
  refine q_istore_n (lv' := [(0, .ref h0), (1, iV 0)]) F [1, 0] dX4_init_30 rfl (by rw [hN]; decide) rfl ?_
  have key : ∀ (m : Nat) (L : List (Nat × Nat)), L.length + m = 65 → cW X (3 + 2 * L.length) (115 + 11 * L.length) 31 [(0, .ref h0), (1, iV (L.length : Int))] [] (wS4 E h0 (g, rs, pl, L)) := by
    intro m
    induction m with
    | zero =>
      intro L hL
      have hL' : L.length = 65 := by omega
      refine q_iload_n F 1 dX4_init_31 rfl rfl ?_
      refine q_aload_n F 0 dX4_init_32 rfl rfl ?_
      refine n_get F 0 rfl (ci := 2) rfl ib4 4 (by decide) wd184 rfl rfl dX4_init_33 ?_
      refine n_alen F 2 1 rfl rfl dX4_init_36 ?_
      refine q_icmp_ge F (by unfold inR; omega) (by unfold inR; omega) 59 dX4_init_37 (by decide) (fun hc => ?_) (fun hc => ?_)
      · refine q_wide (nc' := 133) (ns' := 830) (by omega) (by omega) ?_
        exact n_ret (u := (g, rs, pl, L)) F K dX4_init_59 hL'
      · omega
    | succ m ih =>
      intro L hL
      refine q_iload_n F 1 dX4_init_31 rfl rfl ?_
      refine q_aload_n F 0 dX4_init_32 rfl rfl ?_
      refine n_get F 0 rfl (ci := 2) rfl ib4 4 (by decide) wd184 rfl rfl dX4_init_33 ?_
      refine n_alen F 2 1 rfl rfl dX4_init_36 ?_
      refine q_icmp_ge F (by unfold inR; omega) (by unfold inR; omega) 59 dX4_init_37 (by decide) (fun hc => ?_) (fun hc => ?_)
      · omega
      · refine q_aload_n F 0 dX4_init_40 rfl rfl ?_
        refine n_get F 0 rfl (ci := 2) rfl ib4 4 (by decide) wd184 rfl rfl dX4_init_41 ?_
        refine q_iload_n F 1 dX4_init_44 rfl rfl ?_
        refine n_newO F (ci := 5) rfl ib7 tyX7 tyX7_ok wd133 wd135 wd10 [.null, iV 0, iV 0, iV 0, .null, iV 0] (fun j hj => by rcases (show j = 0 ∨ j = 1 ∨ j = 2 ∨ j = 3 ∨ j = 4 ∨ j = 5 by omega) with rfl | rfl | rfl | rfl | rfl | rfl <;> rfl) (by rw [hR]; show _ ≤ 133; omega) (by rw [hR]; show _ ≤ 830; omega) dX4_init_45 (fun r => ?_)
        refine q_dup F dX4_init_48 rfl ?_
        refine n_callN (mc := 1) (ms := 5) F K.2.2.2.2 (by rw [hl, hD]; exact kn7 (E := E)) rfl K.2.2.2.2.2.2.2.2.2.2.2.1 wd137 wd10 wd138 ⟨rfl, rfl⟩ (niy _) (rmK_le hR (by decide) (by decide)) (Nat.le_of_ble_eq_true rfl) dX4_init_49 (by rw [hR]; exact ⟨by show _ ≤ 133; omega, by show _ ≤ 830; omega⟩) (fun c _ => ?_)
        have el : (wS4 E h0 (g, rs, pl, L) ++ [(r, .inr (5, [.ref (E.2.1 0 0), iV 0, iV 0, iV 0, .ref c, iV 0])), (c, iA E 5 (fun _ => 0))])[(wS4 E h0 (g, rs, pl, L)).length]? = some (r, .inr (5, [.ref (E.2.1 0 0), iV 0, iV 0, iV 0, .ref c, iV 0])) := by
          rw [List.getElem?_append_right (Nat.le_refl _), Nat.sub_self]; rfl
        have ew : (wS4 E h0 (g, rs, pl, L) ++ [(r, .inr (5, [.ref (E.2.1 0 0), iV 0, iV 0, iV 0, .ref c, iV 0])), (c, iA E 5 (fun _ => 0))]).set 2 (rs, .inl (yR E, 65, .inr (.inr (.inr (.inr (va_up (fun j => (L[j]?).map (fun p => p.1)) L.length (some r))))))) = wS4 E h0 (g, rs, pl, L ++ [(r, c)]) := by
          have ef : va_up (fun j => (L[j]?).map (fun p => p.1)) L.length (some r) = fun j => ((L ++ [(r, c)])[j]?).map (fun p => p.1) := by
            funext j
            unfold va_up
            by_cases hj : j = L.length
            · rw [if_pos hj, hj, List.getElem?_append_right (Nat.le_refl _), Nat.sub_self]; rfl
            · rw [if_neg hj]
              by_cases hj2 : j < L.length
              · rw [List.getElem?_append_left hj2]
              · have n1 : L[j]? = none := List.getElem?_eq_none (by omega)
                have n2 : (L ++ [(r, c)])[j]? = none := List.getElem?_eq_none (by rw [List.length_append]; show L.length + 1 ≤ j; omega)
                show (L[j]?).map (fun p => p.1) = ((L ++ [(r, c)])[j]?).map (fun p => p.1)
                rw [n1, n2]
          have er : rulW E (L ++ [(r, c)]) = rulW E L ++ [(r, .inr (5, [.ref (E.2.1 0 0), iV 0, iV 0, iV 0, .ref c, iV 0])), (c, iA E 5 (fun _ => 0))] := by
            show List.flatMap _ _ = _
            rw [List.flatMap_append]; rfl
          unfold wS4
          rw [ef, er, ← List.append_assoc]
          rfl
        refine n_ast F 2 _ rfl el (by omega) (by decide) dX4_init_52 ew ?_
        refine q_iinc (lv' := [(0, .ref h0), (1, iV (((L ++ [(r, c)]).length : Nat) : Int))]) F 1 [1, 0] dX4_init_53 rfl (by rw [hN]; decide) (by rw [List.length_append]; rfl) rfl ?_
        refine q_goto F 31 dX4_init_56 (by decide) ?_
        have e9 : (L ++ [(r, c)]).length = L.length + 1 := by rw [List.length_append]; rfl
        refine q_wide (by rw [e9]; omega) (by rw [e9]; omega) (ih (L ++ [(r, c)]) (by rw [e9]; omega))
  exact key 65 [] rfl
