/-! ===== what is read of such a text: rules and all ===== -/
theorem nsR_l {r : rdT} (h0 : 0 ≤ nuT r.1) (h2 : nuT r.1 ≤ 2) : ((nsR r).length : Int) = nuT r.1 := by
  unfold nsR
  rw [List.length_take]
  show ((min (nuT r.1).toNat 2 : Nat) : Int) = _
  omega
theorem itL_l {r : rdT} (h0 : 0 ≤ nuT r.1) (h2 : nuT r.1 ≤ 2) : ((itL r).length : Int) = 1 + nuT r.1 + r.2.2.2.length + (if r.1 = 9 then 1 else 0) := by
  have e := nsR_l h0 h2
  unfold itL
  rw [List.length_cons, List.length_append, List.length_append, List.length_map, List.length_map]
  by_cases h : r.1 = 9
  · rw [if_pos h, if_pos h, List.length_singleton]; omega
  · rw [if_neg h, if_neg h, List.length_nil]; omega
theorem itL_e {r : rdT} {S : List (Int × Int)} : itL r ++ (4, 0) :: S = (2, r.1) :: ((nsR r).map (fun v => ((3 : Int), v)) ++ (r.2.2.2.map (fun c => ((1 : Int), c)) ++ (if r.1 = 9 then [((3 : Int), r.2.1)] else []) ++ (4, 0) :: S)) := by
  unfold itL
  rw [List.cons_append, List.append_assoc]
section RDS
variable {k : kT}
/-- an item's form -/
theorem rfm_r {r : rdT} {S : List (Int × Int)} {i : Int} (o : okI r) (h : Ks k i (itL r ++ (4, 0) :: S)) : rfm k i = (1, i + (itL r).length) ∧ kK k (i + (itL r).length) = 4 ∧ kK k i = 2 ∧ kW k i = r.1 := by
  have h4 : kK k (i + (itL r).length) = 4 := (Ks_app (itL r) _ i h).1.1
  have k2 : kK k i = 2 := h.1.1
  have kw : kW k i = r.1 := h.1.2.1 rfl
  have b : 0 ≤ r.1 ∧ r.1 < 14 := by
    rcases o with o | ⟨o, -⟩
    · have := o.1; have := o.2.1; omega
    · omega
  have nu := nu_i b.1 b.2
  have el := nsR_l nu.1 nu.2.1
  have il := itL_l nu.1 nu.2.1
  refine ⟨?_, h4, k2, kw⟩
  have h1 : Ks k (i + 1) ((nsR r).map (fun v => ((3 : Int), v)) ++ (r.2.2.2.map (fun c => ((1 : Int), c)) ++ (if r.1 = 9 then [((3 : Int), r.2.1)] else []) ++ (4, 0) :: S)) := by
    have h' := h
    rw [itL_e] at h'
    exact h'.2
  have t := tkN_r _ _ _ h1
  have h3 := Ks_app _ _ _ h1
  rw [List.length_map, List.append_assoc] at h3
  unfold rfm
  rw [k2, kw, if_neg (by omega), show (nuT r.1).toNat = (nsR r).length by omega, t]
  unfold rfn
  dsimp only
  rw [if_neg (by decide)]
  rcases o with o | ⟨o, oc⟩
  · rw [if_neg (by have := o.2.1; omega)]
    have c9 := o.2.2.2.2.2.2.2.2.2.2.1
    have c3 := o.2.2.2.2.2.2.2.2.2.2.2.1
    have l1 := o.2.2.2.2.2.2.1
    generalize hcs : r.2.2.2 = cs at *
    match cs, l1, hcs with
    | [], l1, _ => exact absurd l1 (by decide)
    | c :: cs, l1, hcs =>
      have ec : kK k (i + 1 + (nsR r).length) = 1 := h3.1.1
      rw [if_neg (fun q => q ec)]
      by_cases q9 : r.1 = 9
      · have e1 := (c9 q9).1
        have cs0 : cs = [] := by
          cases cs with
          | nil => rfl
          | cons d cs => rw [List.length_cons, List.length_cons] at e1; omega
        subst cs0
        rw [if_pos q9] at h3 il ⊢
        have k3 : kK k (i + 1 + (nsR r).length + 1) = 3 := h3.2.1.1
        show (if kK k (i + 1 + (nsR r).length + 1) = 3 then ((1 : Int), i + 1 + (nsR r).length + 1 + 1) else (0, i + 1 + (nsR r).length + 1)) = _
        rw [if_pos k3]
        have e2 : ((([c] : List Int).length : Nat) : Int) = 1 := rfl
        rw [e2] at il
        congr 1
        omega
      · rw [if_neg q9] at h3 il ⊢
        by_cases q3 : r.1 = 3
        · have e1 := c3 q3
          match cs, e1, h3, il with
          | [], e1, _, _ => exact absurd e1 (by simp)
          | d :: cs, e1, h3, il =>
            have cs0 : cs = [] := by
              cases cs with
              | nil => rfl
              | cons d2 cs => rw [List.length_cons, List.length_cons, List.length_cons] at e1; omega
            subst cs0
            rw [if_pos q3]
            have k1 : kK k (i + 1 + (nsR r).length + 1) = 1 := h3.2.1.1
            show (if kK k (i + 1 + (nsR r).length + 1) = 1 then ((1 : Int), i + 1 + (nsR r).length + 1 + 1) else (0, i + 1 + (nsR r).length + 1)) = _
            rw [if_pos k1]
            have e2 : ((([c, d] : List Int).length : Nat) : Int) = 2 := rfl
            rw [e2] at il
            congr 1
            omega
        · rw [if_neg q3]
          have h5 : Ks k (i + 1 + (nsR r).length + 1) (cs.map (fun c => ((1 : Int), c)) ++ (4, 0) :: S) := h3.2
          rw [enC_r cs (4, 0) S _ (by decide) h5]
          rw [List.length_cons] at il
          congr 1
          omega
  · rw [if_pos (by omega)]
    rw [oc, if_neg (by omega)] at il
    have e2 : ((([] : List Int).length : Nat) : Int) = 0 := rfl
    rw [e2] at il
    congr 1
    omega
/-- a rule's meaning -/
theorem rul_r {r : rdT} {S : List (Int × Int)} {i : Int} (o : okR r) (i0 : 0 ≤ i) (h : Ks k i (itL r ++ (4, 0) :: S)) : ∃ ρ, rul k 2 2 4 i = (0, i + (itL r).length, ρ) ∧ e9 ρ (sh r) := by
  have kw : kW k i = r.1 := h.1.2.1 rfl
  have b : 0 ≤ r.1 ∧ r.1 < 14 := by have := o.1; have := o.2.1; omega
  have nu := nu_i b.1 b.2
  have el := nsR_l nu.1 nu.2.1
  have il := itL_l nu.1 nu.2.1
  have kz := Ks_z _ i h
  rw [List.length_append, List.length_cons] at kz
  have h1 : Ks k (i + 1) ((nsR r).map (fun v => ((3 : Int), v)) ++ (r.2.2.2.map (fun c => ((1 : Int), c)) ++ (if r.1 = 9 then [((3 : Int), r.2.1)] else []) ++ (4, 0) :: S)) := by
    have h' := h
    rw [itL_e] at h'
    exact h'.2
  have h3 := Ks_app _ _ _ h1
  rw [List.length_map, List.append_assoc, show i + 1 + ((nsR r).length : Int) = i + 1 + nuT r.1 by omega] at h3
  obtain ⟨o0, o12, N0, N9, T0, T5, l1, l3, oc, ond, oi, o3, oN, oT, ok1, ok2⟩ := o
  -- the numbers
  have v1 : 1 ≤ nuT r.1 → kV' k (i + 1) = r.2.1 := fun q => by
    have e : nsR r = r.2.1 :: ([r.2.2.1].take ((nuT r.1).toNat - 1)) := by
      unfold nsR
      obtain ⟨m, hm⟩ : ∃ m, (nuT r.1).toNat = m + 1 := ⟨(nuT r.1).toNat - 1, by omega⟩
      rw [hm]; rfl
    rw [e] at h1
    exact h1.1.2.2.1 rfl
  have v2 : 2 ≤ nuT r.1 → kV' k (i + 2) = r.2.2.1 := fun q => by
    have e : nsR r = [r.2.1, r.2.2.1] := by
      unfold nsR
      rw [show (nuT r.1).toNat = 2 by omega]; rfl
    rw [e] at h1
    have := h1.2.1.2.2.1 rfl
    rw [show i + 1 + 1 = i + 2 by omega] at this
    exact this
  -- the cells
  have r3 : rl0 k i 3 = 0 := rfl
  obtain ⟨x, S', hx, hS⟩ : ∃ x S', x.1 ≠ 1 ∧ (if r.1 = 9 then [((3 : Int), r.2.1)] else []) ++ (4, 0) :: S = x :: S' := by
    by_cases q : r.1 = 9
    · rw [if_pos q]; exact ⟨(3, r.2.1), (4, 0) :: S, show (3 : Int) ≠ 1 by decide, rfl⟩
    · rw [if_neg q]; exact ⟨(4, 0), S, by decide, rfl⟩
  have h3' := h3
  rw [hS] at h3
  have cr : rulC k 2 2 i = (0, i + 1 + nuT r.1 + r.2.2.2.length, r.2.2.2.foldl adc (rl0 k i)) := by
    unfold rulC
    rw [kw]
    refine cl_r r.2.2.2 _ x S' _ _ hx h3 oc (by rw [r3]; exact Int.le_refl 0) (by rw [r3]; omega) (fun c _ q => ?_) ond (by omega)
    obtain ⟨j, j0, j1, -⟩ := q
    rw [r3] at j1
    omega
  have ru := rul_1 (kk := 4) cr (by rw [kw]; exact fun q => by rw [v1 q]; exact ok1 q) (by rw [kw]; exact fun q => by rw [v2 q]; exact ok2 q)
  rw [kw] at ru
  have f := fun t => adc_f r.2.2.2 (rl0 k i) t (by rw [r3]; exact Int.le_refl 0)
  rw [r3] at f
  have q0 : rl0 k i 0 = r.1 := kw
  have q1 : rl0 k i 1 = if 1 ≤ nuT r.1 then kV' k (i + 1) else 0 := by rw [← kw]; rfl
  have q2 : rl0 k i 2 = if 2 ≤ nuT r.1 then kV' k (i + 2) else 0 := by rw [← kw]; rfl
  have e2 : rl0 k i 2 = r.2.2.1 := by
    rw [q2]
    by_cases q : 2 ≤ nuT r.1
    · rw [if_pos q]; exact v2 q
    · rw [if_neg q]; exact (oT (by omega)).symm
  have tail : ∀ t, 0 ≤ t → t < 9 → t ≠ 1 → (t < 4 ∨ t < 4 + (r.2.2.2.length : Int)) → r.2.2.2.foldl adc (rl0 k i) t = sh r t := fun t t0 t9 t1 hlt => by
    rw [f t]
    unfold sh
    by_cases c0 : t = 0
    · subst c0; rw [if_neg (by decide), if_neg (by omega), if_pos rfl]; exact q0
    · rw [if_neg c0, if_neg t1]
      by_cases c2 : t = 2
      · subst c2; rw [if_neg (by decide), if_neg (by omega), if_pos rfl]; exact e2
      · rw [if_neg c2]
        by_cases c3 : t = 3
        · rw [if_pos c3, if_pos c3]; omega
        · rw [if_neg c3, if_neg c3, if_pos (by omega), show t - 4 - 0 = t - 4 by omega]
  have f3 : r.2.2.2.foldl adc (rl0 k i) 3 = (r.2.2.2.length : Int) := by rw [f 3, if_pos rfl]; omega
  have f1 : r.2.2.2.foldl adc (rl0 k i) 1 = rl0 k i 1 := by rw [f 1, if_neg (by decide), if_neg (by omega)]
  by_cases q9 : r.1 = 9
  · rw [if_pos ⟨rfl, q9⟩] at ru
    rw [if_pos q9] at il h3'
    have kv : kV' k (i + 1 + nuT r.1 + r.2.2.2.length) = r.2.1 := by
      have := Ks_app _ _ _ h3'
      rw [List.length_map] at this
      exact this.1.2.2.1 rfl
    have o9 := oi q9
    refine ⟨set1 (r.2.2.2.foldl adc (rl0 k i)) r.2.1, ?_, fun t t0 t9 hlt => ?_⟩
    · rw [ru]
      unfold rulI
      dsimp only
      rw [kv, if_pos o9.2]
      congr 2
      omega
    · have hs : set1 (r.2.2.2.foldl adc (rl0 k i)) r.2.1 3 = (r.2.2.2.length : Int) := f3
      rw [hs] at hlt
      by_cases c1 : t = 1
      · subst c1; rfl
      · show (if t = 1 then r.2.1 else r.2.2.2.foldl adc (rl0 k i) t) = _
        rw [if_neg c1]
        exact tail t t0 t9 c1 hlt
  · rw [if_neg (fun q => q9 q.2)] at ru
    rw [if_neg q9] at il
    refine ⟨r.2.2.2.foldl adc (rl0 k i), ?_, fun t t0 t9 hlt => ?_⟩
    · rw [ru]
      congr 2
      omega
    · rw [f3] at hlt
      by_cases c1 : t = 1
      · subst c1
        rw [f1, q1]
        show _ = r.2.1
        by_cases q : 1 ≤ nuT r.1
        · rw [if_pos q]; exact v1 q
        · rw [if_neg q]; exact (oN q9 (by omega)).symm
      · exact tail t t0 t9 c1 hlt
def itS (its : List rdT) : List (Int × Int) := its.flatMap (fun r => itL r ++ [(4, 0)])
theorem itS_c {r : rdT} {its : List rdT} : itS (r :: its) = itL r ++ (4, 0) :: itS its := by
  unfold itS
  rw [List.flatMap_cons, List.append_assoc]
  rfl
theorem fml_r : ∀ (its : List rdT) (m : Nat) (i : Int), (∀ r ∈ its, okI r) → Ks k i (itS its) → kZ k - i < m → fml k m i = (1, kZ k) := by
  intro its
  induction its with
  | nil =>
    intro m i _ h hm
    have h' : kK k i = 0 ∧ kZ k = i := h
    obtain ⟨m', rfl⟩ : ∃ m', m = m' + 1 := ⟨m - 1, by omega⟩
    show (if kK k i = 0 then _ else _) = _
    rw [if_pos h'.1, h'.2]
  | cons r its ih =>
    intro m i ok h hm
    rw [itS_c] at h
    have z := Ks_z _ i h
    rw [List.length_append, List.length_cons] at z
    obtain ⟨m', rfl⟩ : ∃ m', m = m' + 1 := ⟨m - 1, by omega⟩
    obtain ⟨f1, f2, f3, -⟩ := rfm_r (ok r List.mem_cons_self) h
    have h2 := (Ks_app (itL r) _ i h).2
    show (if kK k i = 0 then (1, i) else if (rfm k i).1 = 0 then rfm k i else if kK k (rfm k i).2 = 4 then fml k m' ((rfm k i).2 + 1) else (0, (rfm k i).2)) = _
    rw [f3, if_neg (by decide), f1]
    dsimp only
    rw [if_neg (by decide), f2, if_pos rfl]
    exact ih m' _ (fun q hq => ok q (List.mem_cons_of_mem _ hq)) h2 (by omega)
theorem e9_row {i : Int} (hi : i = 0 ∨ i = 1) : e9 (rowR 2 i) (sh (0, 0, 0, if i = 0 then [0, 1] else [2, 3])) := by
  intro t t0 t9 hlt
  have h3 : rowR 2 i 3 = 2 := rfl
  rw [h3] at hlt
  have ht : t = 0 ∨ t = 1 ∨ t = 2 ∨ t = 3 ∨ t = 4 ∨ t = 5 := by omega
  rcases hi with rfl | rfl <;> rcases ht with rfl | rfl | rfl | rfl | rfl | rfl <;> rfl
theorem e9_col {i : Int} (hi : i = 0 ∨ i = 1) : e9 (colR 2 2 i) (sh (0, 0, 0, if i = 0 then [0, 2] else [1, 3])) := by
  intro t t0 t9 hlt
  have h3 : colR 2 2 i 3 = 2 := rfl
  rw [h3] at hlt
  have ht : t = 0 ∨ t = 1 ∨ t = 2 ∨ t = 3 ∨ t = 4 ∨ t = 5 := by omega
  rcases hi with rfl | rfl <;> rcases ht with rfl | rfl | rfl | rfl | rfl | rfl <;> rfl
def rd0 : rdT := (0, 0, 0, [])
theorem mrl_r2 : ∀ (its : List rdT) (m : Nat) (i n : Int) (ρ : Int → Int → Int), (∀ r ∈ its, okI r) → 0 ≤ i → Ks k i (itS its) → kZ k - i < m → 0 ≤ n → n + (its.flatMap rlI).length ≤ 40 →
    ∃ ρ', mrl k 2 2 4 m i n ρ = (0, kZ k, n + (its.flatMap rlI).length, ρ') ∧ (∀ j, j < n → ρ' j = ρ j) ∧ ∀ j : Nat, j < (its.flatMap rlI).length → e9 (ρ' (n + j)) (sh ((its.flatMap rlI).getD j rd0)) := by
  intro its
  induction its with
  | nil =>
    intro m i n ρ _ _ h hm n0 _
    have h' : kK k i = 0 ∧ kZ k = i := h
    obtain ⟨m', rfl⟩ : ∃ m', m = m' + 1 := ⟨m - 1, by omega⟩
    refine ⟨ρ, ?_, fun _ _ => rfl, fun j hj => absurd hj (Nat.not_lt_zero j)⟩
    rw [mrl_0 h'.1, h'.2]
    show (0, i, n, ρ) = (0, i, n + ((0 : Nat) : Int), ρ)
    rw [show n + ((0 : Nat) : Int) = n by omega]
  | cons r its ih =>
    intro m i n ρ ok i0 h hm n0 h40
    rw [itS_c] at h
    have z := Ks_z _ i h
    rw [List.length_append, List.length_cons] at z
    obtain ⟨m', rfl⟩ : ∃ m', m = m' + 1 := ⟨m - 1, by omega⟩
    obtain ⟨f1, f2, f3, f4⟩ := rfm_r (ok r List.mem_cons_self) h
    have h2 := (Ks_app (itL r) _ i h).2
    have nz : ¬ kK k i = 0 := by rw [f3]; decide
    rw [List.flatMap_cons, List.length_append] at h40
    have okT : ∀ q ∈ its, okI q := fun q hq => ok q (List.mem_cons_of_mem _ hq)
    -- what follows, from what this item adds
    have fin : ∀ (e : Nat) (σ : Int → Int → Int) (w : Int), (rlI r).length = e → w = i + (itL r).length + 1 → (∀ j : Nat, j < e → e9 (σ j) (sh ((rlI r).getD j rd0))) → mrl k 2 2 4 (m' + 1) i n ρ = mrl k 2 2 4 m' w (n + e) (addF ρ n σ) →
        ∃ ρ', mrl k 2 2 4 (m' + 1) i n ρ = (0, kZ k, n + ((r :: its).flatMap rlI).length, ρ') ∧ (∀ j, j < n → ρ' j = ρ j) ∧ ∀ j : Nat, j < ((r :: its).flatMap rlI).length → e9 (ρ' (n + j)) (sh (((r :: its).flatMap rlI).getD j rd0)) := by
      intro e σ w he hw hσ hmr
      subst hw
      obtain ⟨ρ', g1, g2, g3⟩ := ih m' (i + (itL r).length + 1) (n + e) (addF ρ n σ) okT (by omega) h2 (by omega) (by omega) (by omega)
      refine ⟨ρ', ?_, fun j hj => ?_, fun j hj => ?_⟩
      · rw [hmr, g1, List.flatMap_cons, List.length_append, he, show n + (e : Int) + ((its.flatMap rlI).length : Int) = n + ((e + (its.flatMap rlI).length : Nat) : Int) by omega]
      · rw [g2 j (by omega)]
        show (if j < n then ρ j else σ (j - n)) = ρ j
        rw [if_pos hj]
      · rw [List.flatMap_cons, List.length_append] at hj
        rw [List.flatMap_cons, List.getD_eq_getElem?_getD]
        by_cases c : j < e
        · rw [List.getElem?_append_left (by omega), ← List.getD_eq_getElem?_getD, g2 (n + j) (by omega)]
          show e9 (if n + (j : Int) < n then ρ (n + j) else σ (n + (j : Int) - n)) _
          rw [if_neg (by omega), show n + (j : Int) - n = (j : Int) by omega]
          exact hσ j c
        · rw [List.getElem?_append_right (by omega), ← List.getD_eq_getElem?_getD, he]
          have := g3 (j - e) (by omega)
          rw [show n + (e : Int) + ((j - e : Nat) : Int) = n + (j : Int) by omega] at this
          exact this
    rcases ok r List.mem_cons_self with o | ⟨o, oc⟩
    · obtain ⟨σ, s1, s2⟩ := rul_r o i0 h
      have er : rlI r = [r] := by unfold rlI; rw [if_neg (by have := o.2.1; omega), if_neg (by have := o.2.1; omega)]
      have e1 : (rlI r).length = 1 := by rw [er]; rfl
      rw [e1] at h40
      refine fin 1 (fun _ => σ) (i + (itL r).length + 1) e1 rfl (fun j hj => by rw [er, show j = 0 by omega]; exact s2) ?_
      have mo : mor 2 2 (kW k i) = 1 := by unfold mor; rw [f4, if_neg (by have := o.2.1; omega), if_neg (by have := o.2.1; omega)]
      rw [mrl_r nz (by rw [mo]; omega) (by rw [f4]; have := o.2.1; omega) (by rw [f4]; have := o.2.1; omega) (by rw [s1]), s1]
      rfl
    · have nl : itL r = [(2, r.1)] := by
        unfold itL nsR
        have e0 : nuT r.1 = 0 := by rcases o with o | o <;> rw [o] <;> decide
        rw [e0, oc, if_neg (by omega)]
        rfl
      have il : ((itL r).length : Int) = 1 := by rw [nl]; rfl
      rcases o with o | o
      · have er : rlI r = [(0, 0, 0, [0, 1]), (0, 0, 0, [2, 3])] := by unfold rlI; rw [if_pos o]
        have e1 : (rlI r).length = 2 := by rw [er]; rfl
        rw [e1] at h40
        refine fin 2 (rowR 2) (i + 2) e1 (by omega) (fun j hj => ?_) ?_
        · have hj' : j = 0 ∨ j = 1 := by omega
          rw [er]
          rcases hj' with rfl | rfl
          · exact e9_row (Or.inl rfl)
          · exact e9_row (Or.inr rfl)
        · have mo : mor 2 2 (kW k i) = 2 := by unfold mor; rw [f4, if_pos o]
          rw [mrl_12 nz (by rw [mo]; omega) (by rw [f4]; exact o)]
          rfl
      · have er : rlI r = [(0, 0, 0, [0, 2]), (0, 0, 0, [1, 3])] := by unfold rlI; rw [if_neg (by omega), if_pos o]
        have e1 : (rlI r).length = 2 := by rw [er]; rfl
        rw [e1] at h40
        refine fin 2 (colR 2 2) (i + 2) e1 (by omega) (fun j hj => ?_) ?_
        · have hj' : j = 0 ∨ j = 1 := by omega
          rw [er]
          rcases hj' with rfl | rfl
          · exact e9_col (Or.inl rfl)
          · exact e9_col (Or.inr rfl)
        · have mo : mor 2 2 (kW k i) = 2 := by unfold mor; rw [f4, if_neg (by omega), if_pos o]
          rw [mrl_13 nz (by rw [mo]; omega) (by rw [f4]; omega) (by rw [f4]; exact o)]
          rfl
def hdK : List (Int × Int) := [(2, 14), (3, 2), (3, 2), (3, 4), (4, 0)]
/-- what a compile of such a text finds -/
theorem cmp_r {its : List rdT} (ok : ∀ r ∈ its, okI r) (h : Ks k 0 (hdK ++ itS its)) (h40 : (its.flatMap rlI).length ≤ 40) : kV' k 1 = 2 ∧ kV' k 2 = 2 ∧ kV' k 3 = 4 ∧ (cmp k).1 = 0 ∧ (cmp k).2.2.1 = (its.flatMap rlI).length ∧ ∀ j : Nat, j < (its.flatMap rlI).length → e9 ((cmp k).2.2.2 j) (sh ((its.flatMap rlI).getD j rd0)) := by
  have z := Ks_z _ 0 h
  rw [List.length_append] at z
  have hl : (hdK.length : Int) = 5 := rfl
  obtain ⟨⟨a0, a1, -, -⟩, ⟨b0, -, b1, -⟩, ⟨c0, -, c1, -⟩, ⟨d0, -, d1, -⟩, ⟨e0, -, -, -⟩, hr⟩ := h
  have a1' := a1 rfl
  have b1' : kV' k 1 = 2 := b1 rfl
  have c1' : kV' k 2 = 2 := c1 rfl
  have d1' : kV' k 3 = 4 := d1 rfl
  have b0' : kK k 1 = 3 := b0
  have c0' : kK k (1 + 1) = 3 := c0
  have d0' : kK k (1 + 1 + 1) = 3 := d0
  have e0' : kK k 4 = 4 := e0
  have hr' : Ks k 5 (itS its) := hr
  have ft : tkN k 3 3 1 = (1, 4) := by
    show (if kK k 1 = 3 then (if kK k (1 + 1) = 3 then (if kK k (1 + 1 + 1) = 3 then ((1 : Int), (1 : Int) + 1 + 1 + 1) else (0, 1 + 1 + 1)) else (0, 1 + 1)) else (0, 1)) = _
    rw [if_pos b0', if_pos c0', if_pos d0']
    rfl
  have fe : fm k = (1, kZ k) := by
    unfold fm
    rw [if_neg (fun q => q ⟨a0, a1'⟩), ft]
    dsimp only
    rw [if_neg (by decide), if_neg (fun q => q e0')]
    exact fml_r its _ _ ok hr' (by omega)
  have se : szs k = (0, 4) := by
    unfold szs
    rw [b1', c1', d1', if_neg (by decide), if_neg (by decide), if_neg (by decide)]
  obtain ⟨ρ', m1, -, m3⟩ := mrl_r2 its (kZ k + 1).toNat 5 0 (fun _ _ => 0) ok (by decide) hr' (by omega) (Int.le_refl 0) (by omega)
  have ce : cmp k = ((0 : Int), kZ k, (0 : Int) + ((its.flatMap rlI).length : Int), ρ') := by
    unfold cmp
    rw [fe, se]
    dsimp only
    rw [if_neg (by decide), if_pos rfl, b1', c1', d1', m1]
  rw [ce]
  exact ⟨b1', c1', d1', rfl, Int.zero_add _, fun j hj => by have := m3 j hj; rw [Int.zero_add] at this; exact this⟩
end RDS
