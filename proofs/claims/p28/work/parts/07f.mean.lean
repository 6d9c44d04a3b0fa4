/-! ===== the meaning of a text: what is read ===== -/
def adc (ρ : Int → Int) (c : Int) : Int → Int := fun t => if t = 3 then ρ 3 + 1 else if t = 4 + ρ 3 then c else ρ t
noncomputable def cl (k : kT) (w h : Int) : Nat → Int → (Int → Int) → Int × Int × (Int → Int)
  | 0, i, ρ => (0, i, ρ)
  | m + 1, i, ρ => @ite _ (¬ kK k i = 1) (Classical.propDecidable _) (0, i, ρ) (@ite _ (¬ (kC k i < w ∧ 0 ≤ kR k i ∧ kR k i < h)) (Classical.propDecidable _) (2, i, ρ) (@ite _ (hc ρ (kC k i + w * kR k i)) (Classical.propDecidable _) (3, i, ρ) (@ite _ (ρ 3 = 5) (Classical.propDecidable _) (4, i, ρ) (cl k w h m (i + 1) (adc ρ (kC k i + w * kR k i))))))
def nok (kk κ j v : Int) : Prop := (κ = 8 → (j = 0 → 1 ≤ v ∧ v ≤ kk) ∧ (j ≠ 0 → v ≤ 5)) ∧ (κ = 5 → 1 ≤ v ∧ v ≤ 5) ∧ (κ = 10 → 1 ≤ v ∧ v ≤ 4)
def rl0 (k : kT) (i : Int) : Int → Int := fun t => if t = 0 then kW k i else if t = 1 then (if 1 ≤ nuT (kW k i) then kV' k (i + 1) else 0) else if t = 2 then (if 2 ≤ nuT (kW k i) then kV' k (i + 2) else 0) else 0
def set1 (ρ : Int → Int) (v : Int) : Int → Int := fun t => if t = 1 then v else ρ t
noncomputable def rulI (k : kT) (kk : Int) (r : Int × Int × (Int → Int)) : Int × Int × (Int → Int) := @ite _ (1 ≤ kV' k r.2.1 ∧ kV' k r.2.1 ≤ kk) (Classical.propDecidable _) (0, r.2.1 + 1, set1 r.2.2 (kV' k r.2.1)) (2, r.2.1, r.2.2)
noncomputable def rulC (k : kT) (w h i : Int) : Int × Int × (Int → Int) := cl k w h (kZ k + 1).toNat (i + 1 + nuT (kW k i)) (rl0 k i)
noncomputable def rul (k : kT) (w h kk i : Int) : Int × Int × (Int → Int) :=
  @ite _ (1 ≤ nuT (kW k i) ∧ ¬ nok kk (kW k i) 0 (kV' k (i + 1))) (Classical.propDecidable _) (2, i + 1, rl0 k i) (@ite _ (2 ≤ nuT (kW k i) ∧ ¬ nok kk (kW k i) 1 (kV' k (i + 2))) (Classical.propDecidable _) (2, i + 2, rl0 k i)
    (if (rulC k w h i).1 = 0 ∧ kW k i = 9 then rulI k kk (rulC k w h i) else rulC k w h i))
def mor (w h κ : Int) : Int := if κ = 12 then h else if κ = 13 then w else 1
def rowR (w i : Int) : Int → Int := fun t => if t = 3 then w else if t < 4 then 0 else t - 4 + w * i
def colR (w h i : Int) : Int → Int := fun t => if t = 3 then h else if t < 4 then 0 else i + w * (t - 4)
def addF (ρ : Int → Int → Int) (n : Int) (σ : Int → Int → Int) : Int → Int → Int := fun j => if j < n then ρ j else σ (j - n)
noncomputable def mrl (k : kT) (w h kk : Int) : Nat → Int → Int → (Int → Int → Int) → Int × Int × Int × (Int → Int → Int)
  | 0, i, n, ρ => (0, i, n, ρ)
  | m + 1, i, n, ρ => if kK k i = 0 then (0, i, n, ρ) else if 40 < n + mor w h (kW k i) then (4, i, n, ρ) else if kW k i = 12 then mrl k w h kk m (i + 2) (n + h) (addF ρ n (rowR w)) else if kW k i = 13 then mrl k w h kk m (i + 2) (n + w) (addF ρ n (colR w h)) else if (rul k w h kk i).1 = 0 then mrl k w h kk m ((rul k w h kk i).2.1 + 1) (n + 1) (addF ρ n (fun _ => (rul k w h kk i).2.2)) else ((rul k w h kk i).1, (rul k w h kk i).2.1, n, ρ)
section CLL
variable {k : kT} {w h : Int}
theorem cl_1 {m : Nat} {i : Int} {ρ : Int → Int} (c : ¬ kK k i = 1) : cl k w h (m + 1) i ρ = (0, i, ρ) := if_pos c
theorem cl_2 {m : Nat} {i : Int} {ρ : Int → Int} (c : kK k i = 1) (d : ¬ (kC k i < w ∧ 0 ≤ kR k i ∧ kR k i < h)) : cl k w h (m + 1) i ρ = (2, i, ρ) := (if_neg (fun q => q c)).trans (if_pos d)
theorem cl_3 {m : Nat} {i : Int} {ρ : Int → Int} (c : kK k i = 1) (d : kC k i < w ∧ 0 ≤ kR k i ∧ kR k i < h) (e : hc ρ (kC k i + w * kR k i)) : cl k w h (m + 1) i ρ = (3, i, ρ) := (if_neg (fun q => q c)).trans ((if_neg (fun q => q d)).trans (if_pos e))
theorem cl_4 {m : Nat} {i : Int} {ρ : Int → Int} (c : kK k i = 1) (d : kC k i < w ∧ 0 ≤ kR k i ∧ kR k i < h) (e : ¬ hc ρ (kC k i + w * kR k i)) (f : ρ 3 = 5) : cl k w h (m + 1) i ρ = (4, i, ρ) := (if_neg (fun q => q c)).trans ((if_neg (fun q => q d)).trans ((if_neg e).trans (if_pos f)))
theorem cl_5 {m : Nat} {i : Int} {ρ : Int → Int} (c : kK k i = 1) (d : kC k i < w ∧ 0 ≤ kR k i ∧ kR k i < h) (e : ¬ hc ρ (kC k i + w * kR k i)) (f : ¬ ρ 3 = 5) : cl k w h (m + 1) i ρ = cl k w h m (i + 1) (adc ρ (kC k i + w * kR k i)) := (if_neg (fun q => q c)).trans ((if_neg (fun q => q d)).trans ((if_neg e).trans (if_neg f)))
theorem adc_3 {ρ : Int → Int} {c : Int} : adc ρ c 3 = ρ 3 + 1 := if_pos rfl
theorem adc_n {ρ : Int → Int} {c t : Int} (h : t ≠ 3) (h2 : t ≠ 4 + ρ 3) : adc ρ c t = ρ t := (if_neg h).trans (if_neg h2)
theorem adc_c {ρ : Int → Int} {c : Int} (h : 0 ≤ ρ 3) : adc ρ c (4 + ρ 3) = c := (if_neg (by omega)).trans (if_pos rfl)
/-- a cell's number on the grid -/
theorem cell_b {C R : Int} (c0 : 0 ≤ C) (c1 : C < w) (r0 : 0 ≤ R) (r1 : R < h) (w5 : w ≤ 5) (h5 : h ≤ 5) : 0 ≤ C + w * R ∧ C + w * R < w * h ∧ w * h ≤ 25 := by
  have m1 := Int.mul_le_mul_of_nonneg_left (show R + 1 ≤ h by omega) (show 0 ≤ w by omega)
  rw [Int.mul_add, Int.mul_one] at m1
  have m0 := Int.mul_nonneg (show 0 ≤ w by omega) r0
  have m2 := Int.mul_le_mul w5 h5 (show 0 ≤ h by omega) (by decide)
  omega
/-- a rule as far as it has been read -/
def pgr (M : Int) (ρ : Int → Int) : Prop := 0 ≤ ρ 3 ∧ ρ 3 ≤ 5 ∧ (∀ i, 0 ≤ i → i < ρ 3 → 0 ≤ ρ (4 + i) ∧ ρ (4 + i) < M) ∧ (∀ i j, 0 ≤ i → i < ρ 3 → 0 ≤ j → j < ρ 3 → ρ (4 + i) = ρ (4 + j) → i = j)
theorem pgr_a {M c : Int} {ρ : Int → Int} (g : pgr M ρ) (c0 : 0 ≤ c) (c1 : c < M) (nh : ¬ hc ρ c) (n5 : ¬ ρ 3 = 5) : pgr M (adc ρ c) := by
  obtain ⟨g0, g1, g2, g3⟩ := g
  have at' : ∀ i, 0 ≤ i → i < ρ 3 + 1 → (i = ρ 3 ∧ adc ρ c (4 + i) = c) ∨ (i < ρ 3 ∧ adc ρ c (4 + i) = ρ (4 + i)) := fun i i0 i1 => by
    by_cases e : i = ρ 3
    · subst e; exact Or.inl ⟨rfl, adc_c g0⟩
    · exact Or.inr ⟨by omega, adc_n (by omega) (by omega)⟩
  unfold pgr
  rw [adc_3]
  refine ⟨by omega, by omega, fun i i0 i1 => ?_, fun i j i0 i1 j0 j1 q => ?_⟩
  · rcases at' i i0 i1 with ⟨_, a⟩ | ⟨b, a⟩
    · rw [a]; exact ⟨c0, c1⟩
    · rw [a]; exact g2 i i0 b
  · rcases at' i i0 i1 with ⟨e1, a⟩ | ⟨b, a⟩
    · rcases at' j j0 j1 with ⟨e2, a'⟩ | ⟨b', a'⟩
      · omega
      · rw [a, a'] at q; exact absurd ⟨j, j0, b', q.symm⟩ nh
    · rcases at' j j0 j1 with ⟨e2, a'⟩ | ⟨b', a'⟩
      · rw [a, a'] at q; exact absurd ⟨i, i0, b, q⟩ nh
      · rw [a, a'] at q; exact g3 i j i0 b j0 b' q
/-- what the cells leave -/
theorem cl_ok (o : okK k) (w5 : w ≤ 5) (h5 : h ≤ 5) : ∀ (m : Nat) (i : Int) (ρ : Int → Int), 0 ≤ i → i ≤ kZ k → kZ k - i < m → pgr (w * h) ρ → i ≤ (cl k w h m i ρ).2.1 ∧ (cl k w h m i ρ).2.1 ≤ kZ k ∧ ((cl k w h m i ρ).1 = 0 ∨ (2 ≤ (cl k w h m i ρ).1 ∧ (cl k w h m i ρ).1 ≤ 4)) ∧ ((cl k w h m i ρ).1 = 0 → (cl k w h m i ρ).2.1 = enC k i ∧ pgr (w * h) (cl k w h m i ρ).2.2 ∧ (cl k w h m i ρ).2.2 3 = ρ 3 + (enC k i - i) ∧ (cl k w h m i ρ).2.2 0 = ρ 0 ∧ (cl k w h m i ρ).2.2 1 = ρ 1 ∧ (cl k w h m i ρ).2.2 2 = ρ 2) := by
  intro m
  induction m with
  | zero => intro i ρ i0 i1 i2; omega
  | succ m ih =>
    intro i ρ i0 i1 i2 g
    by_cases c : kK k i = 1
    · have b := (o.2.2 i i0 i1).2.2.2.2 c
      have il := K_lt o i0 i1 (by rw [c]; decide)
      by_cases d : kC k i < w ∧ 0 ≤ kR k i ∧ kR k i < h
      · have cb := cell_b b.1 d.1 d.2.1 d.2.2 w5 h5
        by_cases e : hc ρ (kC k i + w * kR k i)
        · rw [cl_3 c d e]; exact ⟨Int.le_refl i, i1, Or.inr ⟨by show (2 : Int) ≤ 3; decide, by show (3 : Int) ≤ 4; decide⟩, fun q => absurd q (by show ¬ (3 : Int) = 0; decide)⟩
        · by_cases f : ρ 3 = 5
          · rw [cl_4 c d e f]; exact ⟨Int.le_refl i, i1, Or.inr ⟨by show (2 : Int) ≤ 4; decide, Int.le_refl 4⟩, fun q => absurd q (by show ¬ (4 : Int) = 0; decide)⟩
          · rw [cl_5 c d e f, enC_s il c]
            have g3 := g.1
            have k := ih (i + 1) (adc ρ (kC k i + w * kR k i)) (by omega) (by omega) (by omega) (pgr_a g cb.1 cb.2.1 e f)
            refine ⟨by omega, k.2.1, k.2.2.1, fun q => ?_⟩
            have k4 := k.2.2.2 q
            refine ⟨k4.1, k4.2.1, ?_, ?_, ?_, ?_⟩
            · rw [k4.2.2.1, adc_3]; omega
            · rw [k4.2.2.2.1, adc_n (by decide) (by omega)]
            · rw [k4.2.2.2.2.1, adc_n (by decide) (by omega)]
            · rw [k4.2.2.2.2.2, adc_n (by decide) (by omega)]
      · rw [cl_2 c d]; exact ⟨Int.le_refl i, i1, Or.inr ⟨Int.le_refl 2, by show (2 : Int) ≤ 4; decide⟩, fun q => absurd q (by show ¬ (2 : Int) = 0; decide)⟩
    · rw [cl_1 c, enC_e c]
      exact ⟨Int.le_refl i, i1, Or.inl rfl, fun _ => ⟨rfl, g, by show ρ 3 = ρ 3 + (i - i); omega, rfl, rfl, rfl⟩⟩
theorem rl0_g {i M : Int} : pgr M (rl0 k i) := ⟨Int.le_refl 0, by show (0 : Int) ≤ 5; decide, fun j j0 j1 => absurd (show j < 0 from j1) (by omega), fun j _ j0 j1 => absurd (show j < 0 from j1) (by omega)⟩
/-- what is known of a rule's place: its form is good -/
def gdR (k : kT) (i : Int) : Prop := ¬ (rfm k i).1 = 0 ∧ kK k (rfm k i).2 = 4
theorem rul_ok {kk i : Int} (o : okK k) (w2 : 2 ≤ w) (w5 : w ≤ 5) (h2 : 2 ≤ h) (h5 : h ≤ 5) (k5 : kk ≤ 5) (i0 : 0 ≤ i) (i1 : i ≤ kZ k) (g : gdR k i) (c12 : kW k i < 12) :
    i < (rul k w h kk i).2.1 ∧ (rul k w h kk i).2.1 ≤ kZ k ∧ ((rul k w h kk i).1 = 0 ∨ (2 ≤ (rul k w h kk i).1 ∧ (rul k w h kk i).1 ≤ 4)) ∧ ((rul k w h kk i).1 = 0 → (rul k w h kk i).2.1 = (rfm k i).2 ∧ gr (w * h) (rul k w h kk i).2.2) := by
  have f := rfm_ok o i0 i1 g.1 g.2
  have f12 := f.2.2.2.2.2 c12
  have nu := nu_i (w := kW k i) (by omega) (by omega)
  have il := K_lt o i0 i1 (by rw [f.1]; decide)
  have cc := cl_ok o w5 h5 (kZ k + 1).toNat (i + 1 + nuT (kW k i)) (rl0 k i) (by omega) (by omega) (by omega) rl0_g
  have e : cl k w h (kZ k + 1).toNat (i + 1 + nuT (kW k i)) (rl0 k i) = rulC k w h i := rfl
  rw [e] at cc
  have v1 : 1 ≤ nuT (kW k i) → 0 ≤ kV' k (i + 1) ∧ kV' k (i + 1) ≤ 9999 := fun q => by
    have k3 := f.2.2.2.1 0 (Int.le_refl 0) (by omega)
    rw [Int.add_zero] at k3
    exact (o.2.2 (i + 1) (by omega) (by omega)).2.2.2.1 k3
  have v2 : 2 ≤ nuT (kW k i) → 0 ≤ kV' k (i + 2) ∧ kV' k (i + 2) ≤ 9999 := fun q => by
    have k3 := f.2.2.2.1 1 (by decide) (by omega)
    rw [show i + 1 + 1 = i + 2 by omega] at k3
    exact (o.2.2 (i + 2) (by omega) (by omega)).2.2.2.1 k3
  unfold rul
  by_cases a : 1 ≤ nuT (kW k i) ∧ ¬ nok kk (kW k i) 0 (kV' k (i + 1))
  · rw [if_pos a]; exact ⟨by show i < i + 1; omega, by show i + 1 ≤ kZ k; omega, Or.inr ⟨Int.le_refl 2, by show (2 : Int) ≤ 4; decide⟩, fun q => absurd q (by show ¬ (2 : Int) = 0; decide)⟩
  · rw [if_neg a]
    by_cases b : 2 ≤ nuT (kW k i) ∧ ¬ nok kk (kW k i) 1 (kV' k (i + 2))
    · rw [if_pos b]; exact ⟨by show i < i + 2; omega, by show i + 2 ≤ kZ k; omega, Or.inr ⟨Int.le_refl 2, by show (2 : Int) ≤ 4; decide⟩, fun q => absurd q (by show ¬ (2 : Int) = 0; decide)⟩
    · rw [if_neg b]
      have r0 : rl0 k i 0 = kW k i := rfl
      have r1 : rl0 k i 1 = if 1 ≤ nuT (kW k i) then kV' k (i + 1) else 0 := rfl
      have r2 : rl0 k i 2 = if 2 ≤ nuT (kW k i) then kV' k (i + 2) else 0 := rfl
      have r3 : rl0 k i 3 = 0 := rfl
      have ok1 : 1 ≤ nuT (kW k i) → nok kk (kW k i) 0 (kV' k (i + 1)) := fun q => Classical.byContradiction (fun n => a ⟨q, n⟩)
      have ok2 : 2 ≤ nuT (kW k i) → nok kk (kW k i) 1 (kV' k (i + 2)) := fun q => Classical.byContradiction (fun n => b ⟨q, n⟩)
      have nu8 : kW k i = 8 → nuT (kW k i) = 2 := fun q => by rw [q]; decide
      generalize hC : rulC k w h i = C at *
      by_cases c0 : C.1 = 0
      · have c4 := cc.2.2.2 c0
        by_cases c9 : kW k i = 9
        · rw [if_pos ⟨c0, c9⟩]
          have f9 := f12.2.2.1 c9
          have n9 := nu.2.2.2.2.2.1 c9
          have k3 : kK k C.2.1 = 3 := by rw [c4.1]; exact f9.1
          have cl9 := K_lt o (by omega) cc.2.1 (show ¬ kK k C.2.1 = 0 by rw [k3]; decide)
          unfold rulI
          by_cases v : 1 ≤ kV' k C.2.1 ∧ kV' k C.2.1 ≤ kk
          · rw [if_pos v]
            have s1 : ∀ t, t ≠ 1 → set1 C.2.2 (kV' k C.2.1) t = C.2.2 t := fun t q => if_neg q
            have s2 : set1 C.2.2 (kV' k C.2.1) 1 = kV' k C.2.1 := if_pos rfl
            have sz : C.2.2 3 = 1 := by rw [c4.2.2.1, r3]; omega
            refine ⟨by show i < C.2.1 + 1; omega, by show C.2.1 + 1 ≤ kZ k; omega, Or.inl rfl, fun _ => ⟨by show C.2.1 + 1 = _; rw [c4.1]; exact f9.2.1.symm, ?_⟩⟩
            show gr (w * h) (set1 C.2.2 (kV' k C.2.1))
            have p := c4.2.1
            unfold gr
            rw [s1 0 (by decide), s1 2 (by decide), s1 3 (by decide), s2, c4.2.2.2.1, c4.2.2.2.2.2, r0, r2]
            refine ⟨by omega, by omega, by omega, by omega, ?_, ?_, by omega, by omega, fun q => by omega, fun q => by omega, fun _ => ⟨by omega, by omega⟩, fun j j0 j1 => ?_, fun j j' j0 j1 j0' j1' q => ?_⟩
            · split <;> omega
            · split <;> omega
            · rw [s1 _ (by omega)]; exact p.2.2.1 j j0 j1
            · rw [s1 _ (by omega), s1 _ (by omega)] at q; exact p.2.2.2 j j' j0 j1 j0' j1' q
          · rw [if_neg v]; exact ⟨by show i < C.2.1; omega, cc.2.1, Or.inr ⟨Int.le_refl 2, by show (2 : Int) ≤ 4; decide⟩, fun q => absurd q (by show ¬ (2 : Int) = 0; decide)⟩
        · rw [if_neg (fun q => c9 q.2)]
          refine ⟨by omega, cc.2.1, cc.2.2.1, fun _ => ⟨by rw [c4.1]; exact (f12.2.2.2.1 c9).symm, ?_⟩⟩
          have p := c4.2.1
          have h2' : 2 ≤ nuT (kW k i) → kW k i = 8 ∧ kV' k (i + 2) ≤ 5 := fun q => by
            have e8 := nu.2.2.2.2.1 (by omega)
            exact ⟨e8, ((ok2 q).1 e8).2 (by decide)⟩
          unfold gr
          rw [c4.2.2.2.1, c4.2.2.2.2.1, c4.2.2.2.2.2, r0, r1, r2]
          refine ⟨by omega, by omega, ?_, ?_, ?_, ?_, p.1, p.2.1, fun q => ?_, fun q => ?_, fun q => absurd q c9, p.2.2.1, p.2.2.2⟩
          · split
            · rename_i q; exact (v1 q).1
            · decide
          · split
            · rename_i q; exact (v1 q).2
            · decide
          · split
            · rename_i q; exact (v2 q).1
            · decide
          · split
            · rename_i q; have := h2' q; omega
            · decide
          · have n8 := nu8 q
            rw [if_pos (by omega)]
            exact (((ok1 (by omega)).1 q).1 rfl).1
          · have e3 := f12.2.2.2.2 q
            rw [c4.2.2.1, r3, e3]; omega
      · rw [if_neg (fun q => c0 q.1)]
        exact ⟨by omega, cc.2.1, cc.2.2.1, fun q => absurd q c0⟩
end CLL
theorem rowR_gr {w h i : Int} (w2 : 2 ≤ w) (w5 : w ≤ 5) (i0 : 0 ≤ i) (i1 : i < h) (h5 : h ≤ 5) : gr (w * h) (rowR w i) := by
  have e : ∀ j, 0 ≤ j → rowR w i (4 + j) = j + w * i := fun j j0 => by unfold rowR; rw [if_neg (by omega), if_neg (by omega)]; omega
  have e0 : rowR w i 0 = 0 := rfl
  have e1 : rowR w i 1 = 0 := rfl
  have e2 : rowR w i 2 = 0 := rfl
  have e3 : rowR w i 3 = w := rfl
  unfold gr
  rw [e0, e1, e2, e3]
  refine ⟨by decide, by decide, by decide, by decide, by decide, by decide, by omega, w5, fun q => absurd q (by decide), fun q => absurd q (by decide), fun q => absurd q (by decide), fun j j0 j1 => ?_, fun j j' j0 j1 j0' j1' q => ?_⟩
  · rw [e j j0]; have := cell_b (C := j) (R := i) (w := w) (h := h) j0 j1 i0 i1 w5 h5; omega
  · rw [e j j0, e j' j0'] at q; omega
theorem colR_gr {w h i : Int} (w2 : 2 ≤ w) (w5 : w ≤ 5) (i0 : 0 ≤ i) (i1 : i < w) (h2 : 2 ≤ h) (h5 : h ≤ 5) : gr (w * h) (colR w h i) := by
  have e : ∀ j, 0 ≤ j → colR w h i (4 + j) = i + w * j := fun j j0 => by unfold colR; rw [if_neg (by omega), if_neg (by omega), show 4 + j - 4 = j by omega]
  have e0 : colR w h i 0 = 0 := rfl
  have e1 : colR w h i 1 = 0 := rfl
  have e2 : colR w h i 2 = 0 := rfl
  have e3 : colR w h i 3 = h := rfl
  unfold gr
  rw [e0, e1, e2, e3]
  refine ⟨by decide, by decide, by decide, by decide, by decide, by decide, by omega, h5, fun q => absurd q (by decide), fun q => absurd q (by decide), fun q => absurd q (by decide), fun j j0 j1 => ?_, fun j j' j0 j1 j0' j1' q => ?_⟩
  · rw [e j j0]; have := cell_b (C := i) (R := j) (w := w) (h := h) i0 i1 j0 j1 w5 h5; omega
  · rw [e j j0, e j' j0'] at q
    have q' : w * j = w * j' := by omega
    exact Int.eq_of_mul_eq_mul_left (by omega) q'
/-- what all rules leave -/
theorem mrl_ok {k : kT} {w h kk : Int} (o : okK k) (w2 : 2 ≤ w) (w5 : w ≤ 5) (h2 : 2 ≤ h) (h5 : h ≤ 5) (k5 : kk ≤ 5) : ∀ (m : Nat) (i n : Int) (ρ : Int → Int → Int), 0 ≤ i → i ≤ kZ k → kZ k - i < m → (fml k m i).1 = 1 → 0 ≤ n → n ≤ 40 → gp (w * h) n ρ →
    0 ≤ (mrl k w h kk m i n ρ).2.1 ∧ (mrl k w h kk m i n ρ).2.1 ≤ kZ k ∧ 0 ≤ (mrl k w h kk m i n ρ).2.2.1 ∧ (mrl k w h kk m i n ρ).2.2.1 ≤ 40 ∧ gp (w * h) (mrl k w h kk m i n ρ).2.2.1 (mrl k w h kk m i n ρ).2.2.2 := by
  intro m
  induction m with
  | zero => intro i n ρ i0 i1 i2; omega
  | succ m ih =>
    intro i n ρ i0 i1 i2 hf n0 n1 g
    by_cases c0 : kK k i = 0
    · have e : mrl k w h kk (m + 1) i n ρ = (0, i, n, ρ) := if_pos c0
      rw [e]; exact ⟨i0, i1, n0, n1, g⟩
    · have r := rfm_b o i0 i1
      by_cases c1 : (rfm k i).1 = 0
      · have e : fml k (m + 1) i = rfm k i := (if_neg c0).trans (if_pos c1)
        rw [e, c1] at hf; exact absurd hf (by decide)
      · by_cases c4 : kK k (rfm k i).2 = 4
        · have e : fml k (m + 1) i = fml k m ((rfm k i).2 + 1) := (if_neg c0).trans ((if_neg c1).trans (if_pos c4))
          rw [e] at hf
          have l := K_lt o (by omega) r.2.1 (show ¬ kK k (rfm k i).2 = 0 by rw [c4]; decide)
          have f := rfm_ok o i0 i1 c1 c4
          by_cases c40 : 40 < n + mor w h (kW k i)
          · have e : mrl k w h kk (m + 1) i n ρ = (4, i, n, ρ) := (if_neg c0).trans (if_pos c40)
            rw [e]; exact ⟨i0, i1, n0, n1, g⟩
          · by_cases c12 : kW k i = 12
            · have e : mrl k w h kk (m + 1) i n ρ = mrl k w h kk m (i + 2) (n + h) (addF ρ n (rowR w)) := (if_neg c0).trans ((if_neg c40).trans (if_pos c12))
              have m12 : mor w h (kW k i) = h := if_pos c12
              have e2 := f.2.2.2.2.1 (by omega)
              rw [e2] at hf r l
              rw [e]
              refine ih (i + 2) (n + h) _ (by omega) (by omega) (by omega) (by rw [show i + 2 = i + 1 + 1 by omega]; exact hf) (by omega) (by omega) (fun j j0 j1 => ?_)
              unfold addF
              split
              · exact g j j0 (by omega)
              · exact rowR_gr w2 w5 (by omega) (by omega) h5
            · by_cases c13 : kW k i = 13
              · have e : mrl k w h kk (m + 1) i n ρ = mrl k w h kk m (i + 2) (n + w) (addF ρ n (colR w h)) := (if_neg c0).trans ((if_neg c40).trans ((if_neg c12).trans (if_pos c13)))
                have m13 : mor w h (kW k i) = w := (if_neg c12).trans (if_pos c13)
                have e2 := f.2.2.2.2.1 (by omega)
                rw [e2] at hf r l
                rw [e]
                refine ih (i + 2) (n + w) _ (by omega) (by omega) (by omega) (by rw [show i + 2 = i + 1 + 1 by omega]; exact hf) (by omega) (by omega) (fun j j0 j1 => ?_)
                unfold addF
                split
                · exact g j j0 (by omega)
                · exact colR_gr w2 w5 (by omega) (by omega) h2 h5
              · have ru := rul_ok (kk := kk) o w2 w5 h2 h5 k5 i0 i1 ⟨c1, c4⟩ (by omega)
                by_cases cr : (rul k w h kk i).1 = 0
                · have e : mrl k w h kk (m + 1) i n ρ = mrl k w h kk m ((rul k w h kk i).2.1 + 1) (n + 1) (addF ρ n (fun _ => (rul k w h kk i).2.2)) := (if_neg c0).trans ((if_neg c40).trans ((if_neg c12).trans ((if_neg c13).trans (if_pos cr))))
                  have m1 : mor w h (kW k i) = 1 := (if_neg c12).trans (if_neg c13)
                  have r4 := ru.2.2.2 cr
                  rw [e]
                  refine ih _ (n + 1) _ (by omega) (by rw [r4.1]; omega) (by omega) (by rw [r4.1]; exact hf) (by omega) (by omega) (fun j j0 j1 => ?_)
                  unfold addF
                  split
                  · exact g j j0 (by omega)
                  · exact r4.2
                · have e : mrl k w h kk (m + 1) i n ρ = ((rul k w h kk i).1, (rul k w h kk i).2.1, n, ρ) := (if_neg c0).trans ((if_neg c40).trans ((if_neg c12).trans ((if_neg c13).trans (if_neg cr))))
                  rw [e]; exact ⟨by show 0 ≤ (rul k w h kk i).2.1; omega, ru.2.1, n0, n1, g⟩
        · have e : fml k (m + 1) i = (0, (rfm k i).2) := (if_neg c0).trans ((if_neg c1).trans (if_neg c4))
          rw [e] at hf; exact absurd hf (by show ¬ (0 : Int) = 1; decide)
