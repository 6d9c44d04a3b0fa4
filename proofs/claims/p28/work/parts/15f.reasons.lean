/-! ===== the law: solutions, sets, reasoning ===== -/
/-- a puzzle whose solutions are these -/
def SS (J : cI) (rds : List rdT) (g : Int → Int) (L : List (Int → Int)) (x4 : Int) : Prop := PZ J rds ∧ gJ J = g ∧ aS (sPr 30 4 rds.length (-1) (RU rds) g (fun _ => 1)) 4 0 (fun _ => 0) = L ∧ x4 = (if (L.length : Int) < 30 then (L.length : Int) else 30) ∧ J 1000 28 = x4 ∧ ∀ i c, 0 ≤ i → i < x4 → 0 ≤ c → c < 25 → J 1029 (25 * i + c) = L.getD i.toNat (fun _ => 0) c
theorem gJ_fr {J J' : cI} (f : ∀ b x, b ≠ 1030 → ¬ (b = 1000 ∧ (x = 31 ∨ x = 32)) → J' b x = J b x) : gJ J' = gJ J := by
  funext c
  unfold gJ vM
  rw [f 1000 11 (by decide) (by omega), f 1000 12 (by decide) (by omega), f 1020 c (by decide) (by omega)]
theorem PZ_fr {J J' : cI} {rds : List rdT} (h : PZ J rds) (f : ∀ b x, b ≠ 1030 → ¬ (b = 1000 ∧ (x = 31 ∨ x = 32)) → J' b x = J b x) : PZ J' rds :=
  ⟨by rw [f _ _ (by decide) (by omega)]; exact h.1, by rw [f _ _ (by decide) (by omega)]; exact h.2.1, by rw [f _ _ (by decide) (by omega)]; exact h.2.2.1, by rw [f _ _ (by decide) (by omega)]; exact h.2.2.2.1, by rw [mr_fr (fun a x z1 z2 => f a x (by omega) (by omega))]; exact h.2.2.2.2⟩
theorem SS_fr {J J' : cI} {rds : List rdT} {g : Int → Int} {L : List (Int → Int)} {x4 : Int} (h : SS J rds g L x4) (f : ∀ b x, b ≠ 1030 → ¬ (b = 1000 ∧ (x = 31 ∨ x = 32)) → J' b x = J b x) : SS J' rds g L x4 :=
  ⟨PZ_fr h.1 f, by rw [gJ_fr f]; exact h.2.1, h.2.2.1, h.2.2.2.1, by rw [f _ _ (by decide) (by omega)]; exact h.2.2.2.2.1, fun i c i0 i1 c0 c1 => by rw [f _ _ (by decide) (by omega)]; exact h.2.2.2.2.2 i c i0 i1 c0 c1⟩
theorem ST_in2 {rds : List rdT} {i : Int} (hr : ∀ r ∈ rds, r ∈ ST) (i0 : 0 ≤ i) (i1 : i < rds.length) : rds.getD i.toNat rd0 ∈ ST := by
  have hi : i.toNat < rds.length := by omega
  rw [List.getD_eq_getElem?_getD, List.getElem?_eq_getElem hi]
  exact hr _ (List.getElem_mem hi)
theorem am_up {rds : List rdT} {a : Nat} {c : Int} {v : Int → Int} (hr : ∀ r ∈ rds, r ∈ ST) (ha : a < rds.length) (h : am (RU (rds.eraseIdx a)) ((rds.eraseIdx a).length : Nat) 4 c v (-1)) : am (RU rds) (rds.length : Nat) 4 c v (-1) := by
  obtain ⟨i, i0, i1, -, ⟨j, j0, j1, jc⟩, hb⟩ := h
  have el : (rds.eraseIdx a).length = rds.length - 1 := by rw [List.length_eraseIdx, if_pos ha]
  obtain ⟨k, ek⟩ : ∃ k : Int, k = if i < a then i else i + 1 := ⟨_, rfl⟩
  have kb : 0 ≤ k ∧ k < rds.length := by rw [ek]; split <;> omega
  have eg : (rds.eraseIdx a).getD i.toNat rd0 = rds.getD k.toNat rd0 := by
    rw [List.getD_eq_getElem?_getD, List.getD_eq_getElem?_getD, List.getElem?_eraseIdx, ek]
    by_cases q : i < a
    · rw [if_pos q, if_pos (by omega)]
    · rw [if_neg q, if_neg (by omega), show (i + 1).toNat = i.toNat + 1 by omega]
  have e1 := RU_e (rds := rds.eraseIdx a) (i := i)
  rw [eg] at e1
  have e2 := e9_t e1 (e9_s (RU_e (rds := rds) (i := k)))
  have l3 := (ST_3 _ (ST_in2 hr kb.1 kb.2)).2
  have r3 : RU (rds.eraseIdx a) i 3 ≤ 3 := by
    rw [e9_3 e1]
    show (((rds.getD k.toNat rd0).2.2.2.length : Nat) : Int) ≤ 3
    omega
  refine ⟨k, kb.1, kb.2, by omega, ⟨j, j0, by rw [← e9_3 e2]; exact j1, ?_⟩, (br_e9 (by omega) e2).mp hb⟩
  rw [← e2 (4 + j) (by omega) (by omega) (Or.inr (by omega))]
  exact jc
section RS
variable {I : cI} {R : cR} {J : cI} {rds : List rdT} {g : Int → Int} {L : List (Int → Int)} {x4 : Int} {sc : Int → Int}
theorem L_SL (h : INV I R J) (hs : SS J rds g L x4) (hr : ∀ r ∈ rds, r ∈ ST) : ∀ x ∈ L, SL 4 rds.length (-1) (RU rds) g x := by
  obtain ⟨hp, eg, eL, -⟩ := hs
  obtain ⟨eM, go, gg, -⟩ := s_dfs (a := 30) h hp.1 hp.2.1 hp.2.2.1 (by decide) (by decide)
  rw [eg, hp.2.2.2.2, hp.2.2.2.1] at go
  rw [hp.2.2.2.2, hp.2.2.2.1] at gg
  intro x hx
  rw [← eL] at hx
  exact mem_SL go gg (ST_g3 hr rfl) hx
/-- leaving a rule out loses no solutions -/
theorem z_drop (h : INV I R J) (hs : SS J rds g L x4) (hr : ∀ r ∈ rds, r ∈ ST) (l12 : rds.length ≤ 12) {a : Int} (a0 : 0 ≤ a) (a1 : a < rds.length) :
    wX11_drop a I R (fun r12 I13 R14 => wX11_search 30 I13 R14 (fun r17 I18 R19 => (x4 ≤ r17 → wL_law_606 sc I18 R19) ∧ (¬ x4 ≤ r17 → False)) (fun _ _ _ => False)) (fun _ _ _ => False) := by
  obtain ⟨hp, eg, eL, e4, -⟩ := hs
  refine k_drop h a0 (by rw [hp.2.2.2.1]; exact a1) (fun z I2 R2 h2 => ?_)
  have ha : a.toNat < rds.length := by omega
  obtain ⟨rds', er⟩ : ∃ l, l = rds.eraseIdx a.toNat := ⟨_, rfl⟩
  have el : rds'.length = rds.length - 1 := by rw [er, List.length_eraseIdx, if_pos ha]
  have hr' : ∀ r ∈ rds', r ∈ ST := fun r q => by rw [er] at q; exact hr r (List.mem_of_mem_eraseIdx q)
  generalize hJ2 : up2 (jR J (dr a (mr J 1015))) 1000 14 (J 1000 14 - 1) = J2 at h2
  have o : ∀ b x, ¬ (1015 ≤ b ∧ b ≤ 1019) → ¬ (b = 1000 ∧ x = 14) → J2 b x = J b x := fun b x q1 q2 => by rw [← hJ2, u2n q2, jR_o (by omega)]
  have k14 : J2 1000 14 = rds'.length := by rw [← hJ2, u2e, hp.2.2.2.1, el]; omega
  have kr : ∀ i, e9 (mr J2 1015 i) (dr a (RU rds) i) := fun i => by
    have e : mr J2 1015 = mr (jR J (dr a (mr J 1015))) 1015 := mr_fr (fun b x q1 q2 => by rw [← hJ2, u2a (by omega)])
    rw [e, hp.2.2.2.2]; exact jR_e
  have f := INV_RU (rds := rds') h2 (by rw [o _ _ (by omega) (by omega)]; exact hp.1) (by rw [o _ _ (by omega) (by omega)]; exact hp.2.1) (by rw [o _ _ (by omega) (by omega)]; exact hp.2.2.1) k14 (fun j hj => by
    refine e9_t (kr j) ?_
    rw [er, List.getD_eq_getElem?_getD, List.getElem?_eraseIdx]
    unfold dr
    by_cases q : (j : Int) < a
    · rw [if_pos q, if_pos (by omega)]
      have := RU_e (rds := rds) (i := (j : Int))
      rw [show ((j : Int)).toNat = j by omega, List.getD_eq_getElem?_getD] at this
      exact this
    · rw [if_neg q, if_neg (by omega)]
      have := RU_e (rds := rds) (i := (j : Int) + 1)
      rw [show ((j : Int) + 1).toNat = j + 1 by omega, List.getD_eq_getElem?_getD] at this
      exact this)
  obtain ⟨h3, hp3⟩ := f
  have eg3 : gJ (jR J2 (fun i => sh (rds'.getD i.toNat rd0))) = g := by
    rw [← eg]
    funext c
    unfold gJ vM
    rw [jR_o (by omega), jR_o (by omega), jR_o (by omega), o _ _ (by omega) (by omega), o _ _ (by omega) (by omega), o _ _ (by omega) (by omega)]
  generalize jR J2 (fun i => sh (rds'.getD i.toNat rd0)) = J3 at *
  obtain ⟨eM, go, gg, d1, -, -⟩ := s_dfs (a := 30) h3 hp3.1 hp3.2.1 hp3.2.2.1 (by decide) (by decide)
  have es : sJ 30 J3 = aS (sPr 30 4 rds'.length (-1) (RU rds') g (fun _ => 1)) 4 0 (fun _ => 0) := by
    unfold sJ
    rw [eg3, hp3.2.2.2.2, hp3.2.2.2.1]
  have le := aS_len (P := sPr 30 4 rds.length (-1) (RU rds) g (fun _ => 1)) (P' := sPr 30 4 rds'.length (-1) (RU rds') g (fun _ => 1)) (fun _ => rfl) (fun _ => rfl) (fun c v q => by
    have q' : am (RU rds') (rds'.length : Nat) 4 c v (-1) := q
    rw [er] at q'
    exact am_up hr ha q') 4 0 (fun _ => 0)
  rw [eL, ← es] at le
  refine k_search h3 (by rw [hp3.1]; decide) (by decide) (by decide) (fun I4 J4 h4 f4 _ _ => ⟨fun _ => ?_, fun w => absurd ?_ w⟩)
  · refine z_606 h4 (rds := rds') ⟨by rw [f4 _ _ (by decide) (by omega)]; exact hp3.1, by rw [f4 _ _ (by decide) (by omega)]; exact hp3.2.1, by rw [f4 _ _ (by decide) (by omega)]; exact hp3.2.2.1, by rw [f4 _ _ (by decide) (by omega)]; exact hp3.2.2.2.1, ?_⟩ hr' (by omega)
    rw [mr_fr (fun b x z1 z2 => f4 b x (by omega) (by omega))]
    exact hp3.2.2.2.2
  · rw [d1, e4]
    split <;> split <;> omega
theorem z_507 (h : INV I R J) (hs : SS J rds g L x4) (hr : ∀ r ∈ rds, r ∈ ST) (l12 : rds.length ≤ 12) (hin : ∀ x ∈ L, inS (J 1030) x) :
    ∀ (n : Nat) (x10 : Int), 0 ≤ x10 → x10 ≤ x4 → x4 - x10 < n → wL_law_507 sc n x4 x10 I R := by
  have hs' := hs
  obtain ⟨hp, eg, eL, e4, e28, sol⟩ := hs'
  have x4b : 0 ≤ x4 ∧ x4 ≤ 30 ∧ x4 ≤ L.length := by rw [e4]; split <;> omega
  have eM := PZ_M hp
  intro n
  induction n with
  | zero => intro x10 _ _ _; omega
  | succ n ih =>
    intro x10 q0 q1 q2
    show wbL_law_507 sc (wL_law_507 sc n) x4 x10 I R
    unfold wbL_law_507
    refine ⟨fun c => ?_, fun c => ⟨5, ?_⟩⟩
    · refine c_count h (fun _ _ => ?_) (fun q => absurd (show (0 : Int) ≤ 3 ∧ (3 : Int) ≤ 10 by omega) q)
      rw [cv3, hp.2.2.2.1]
      refine ⟨fun _ => z_606 h hp hr l12, fun c1 => ⟨fun _ => z_606 h hp hr l12, fun c2 => ?_⟩⟩
      refine c_count h (fun _ _ => ?_) (fun q => absurd (show (0 : Int) ≤ 3 ∧ (3 : Int) ≤ 10 by omega) q)
      rw [cv3, hp.2.2.2.1]
      have ba := blw_b (a := sc 11) (b := (rds.length : Int)) (by omega)
      exact ⟨by omega, z_drop h hs hr l12 ba.1 ba.2⟩
    · have LL : ∀ (m : Nat) (x11 : Int), 0 ≤ x11 → x11 ≤ 4 → 4 - x11 < m → wL_law_517 sc (wL_law_507 sc n) m x4 x10 x11 I R := by
        intro m
        induction m with
        | zero => intro x11 _ _ _; omega
        | succ m ihm =>
          intro x11 p0 p1 p2
          show wbL_law_517 sc (wL_law_507 sc n) (wL_law_517 sc (wL_law_507 sc n) m) x4 x10 x11 I R
          unfold wbL_law_517
          refine ⟨fun _ => ⟨by unfold inR; omega, fun z ez => by subst ez; exact ih _ (by omega) (by omega) (by omega)⟩, fun c4 => ?_⟩
          refine k_possible h p0 (by omega) (k_solution h q0 (by omega) p0 (by omega) ?_)
          rw [sol x10 x11 q0 (by omega) p0 (by omega)]
          have hi : x10.toNat < L.length := by omega
          have mem : L.getD x10.toNat (fun _ => 0) ∈ L := by
            rw [List.getD_eq_getElem?_getD, List.getElem?_eq_getElem hi]
            exact List.getElem_mem hi
          have t := hin _ mem x11 p0 (by omega)
          exact ⟨fun _ => ⟨by unfold inR; omega, fun z ez => by subst ez; exact ihm _ (by omega) (by omega) (by omega)⟩, fun w => absurd w t⟩
      exact LL 5 0 (by decide) (by decide) (by decide)
theorem rsn_c {ρ : Int → Int → Int} {n h : Int} {S : Int → Int} (g : gp 4 n ρ) (n0 : 0 ≤ n) (h0 : 0 ≤ h) (h5 : h ≤ 5) (hS : ∀ c, 0 ≤ c → c < 25 → 0 ≤ S c ∧ S c < 32) : 0 ≤ (rsn ρ n h S).1.2.2 := by
  have g25 : gp 25 n ρ := fun i i0 i1 => gr_w (by decide) (g i i0 i1)
  have hid := ddP_id g25 n0 h0 h5
  have hs : gR ((S, 0, 0) : rT) := ⟨hS, Int.le_refl 0, by show (0 : Int) ≤ 5; decide⟩
  have hc := cnt_b hs
  exact (rsF_end hid 126 (S, 0, 0) 0 hs (by omega)).1.2.1
theorem sF_4 {f : Int → Int} : sF f 0 4 = 0 + f 0 + f 1 + f 2 + f 3 := by
  rw [sF_s (by decide), sF_s (by decide), sF_s (by decide), sF_s (by decide), sF_e (by decide)]; show f 0 + (f 1 + (f 2 + (f 3 + 0))) = _; omega
def ptS (f : Int → Int) : Nat → Int
  | 0 => 0
  | k + 1 => ptS f k + f (k : Int)
/-- the sets are counted, reasoned once more, doubted -/
theorem z_435 (h : INV I R J) (hs : SS J rds g L x4) (hr : ∀ r ∈ rds, r ∈ ST) (l12 : rds.length ≤ 12) (hin : ∀ x ∈ L, inS (J 1030) x) {x7 x8 : Int}
    (hsum : sF (fun c => bc (J 1030 c)) 0 4 + x8 = x7) (h16 : sF (fun c => bc (J 1030 c)) 0 4 ≤ 16) (hx7 : 0 ≤ x7 ∧ x7 ≤ 1000) (hx8 : 0 ≤ x8)
    (e2 : (rsn (RU rds) rds.length 4 (J 1030)).1 = (J 1030, 0, 0)) (e3 : (rsn (RU rds) rds.length 4 (J 1030)).2 = 1) :
    ∀ (n : Nat) (k : Nat), k ≤ 4 → 4 - k < n → wL_law_435 sc n x4 x7 x8 (ptS (fun c => bc (J 1030 c)) k) (k : Int) I R := by
  have hp := hs.1
  have eM := PZ_M hp
  have x4b : 0 ≤ x4 := by rw [hs.2.2.2.1]; split <;> omega
  have bS : ∀ c, 0 ≤ c → c < 25 → 0 ≤ J 1030 c ∧ J 1030 c < 32 := fun c c0 c1 => (h.2.2.1.1 c c0 c1).2
  have bb : ∀ c : Int, 0 ≤ c → c < 4 → 0 ≤ bc (J 1030 c) ∧ bc (J 1030 c) ≤ 5 := fun c c0 c1 => bc_b (bS c c0 (by omega)).1 (bS c c0 (by omega)).2
  have pb : ∀ k : Nat, k ≤ 4 → 0 ≤ ptS (fun c => bc (J 1030 c)) k ∧ ptS (fun c => bc (J 1030 c)) k ≤ 5 * k := by
    intro k
    induction k with
    | zero => intro _; exact ⟨Int.le_refl 0, Int.le_refl 0⟩
    | succ k ih =>
      intro hk
      have a := ih (by omega)
      have b := bb (k : Int) (by omega) (by omega)
      show 0 ≤ ptS (fun c => bc (J 1030 c)) k + bc (J 1030 (k : Int)) ∧ ptS (fun c => bc (J 1030 c)) k + bc (J 1030 (k : Int)) ≤ 5 * ((k + 1 : Nat) : Int)
      omega
  have p4' : ptS (fun c => bc (J 1030 c)) 4 = sF (fun c => bc (J 1030 c)) 0 4 := by
    rw [sF_4]; rfl
  intro n
  induction n with
  | zero => intro k _ _; omega
  | succ n ih =>
    intro k hk hn
    show wbL_law_435 sc (wL_law_435 sc n) x4 x7 x8 (ptS (fun c => bc (J 1030 c)) k) (k : Int) I R
    unfold wbL_law_435
    refine ⟨fun c => ?_, fun c => ?_⟩
    · have : k = 4 := by omega
      subst this
      rw [p4']
      have s0 := pb 4 (by omega)
      rw [p4'] at s0
      refine ⟨by unfold inR; omega, fun w => absurd (by omega) w, fun _ => k_reason h (fun I2 J2 h2 f2 s2 p2 => ?_)⟩
      rw [hp.2.2.2.2, hp.2.2.2.1, hp.2.2.1] at s2 p2 ⊢
      rw [e2] at s2 ⊢
      rw [e3] at p2
      have es : J2 1030 = J 1030 := funext s2
      have hs2 := SS_fr hs f2
      refine ⟨fun w => absurd rfl w, fun _ => c_reasoned h2 (fun _ _ => ?_) (fun q => absurd (show (0 : Int) ≤ 0 ∧ (0 : Int) ≤ 3 by omega) q)⟩
      have er : rs J2 0 = 1 := by unfold rs; rw [if_pos rfl]; exact p2
      rw [er]
      refine ⟨fun w => absurd rfl w, fun _ => k_doubt h2 (by rw [hs2.1.1]; decide) ⟨by omega, ?_, fun _ => ⟨(x4 + 1).toNat, z_507 h2 hs2 hr l12 (by rw [es]; exact hin) (x4 + 1).toNat 0 (Int.le_refl 0) x4b (by omega)⟩, fun w => absurd rfl w⟩⟩
      rw [PZ_M hs2.1, hs2.1.2.2.1, es]
      rfl
    · have b := bb (k : Int) (by omega) (by omega)
      have a := pb k hk
      refine k_possible h (by omega) (by omega) ⟨by unfold inR; omega, fun z26 e26 => ⟨by unfold inR; omega, fun z28 e28 => ?_⟩⟩
      have e : z26 = ptS (fun c => bc (J 1030 c)) (k + 1) := e26
      rw [e, show z28 = ((k + 1 : Nat) : Int) by omega]
      exact ih (k + 1) (by omega) (by omega)
end RS
