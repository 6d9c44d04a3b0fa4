/-! ===== the meaning of a text: the reference ===== -/
/-- places that the reading of the meaning writes -/
def jF (J0 J : cI) : Prop := ∀ b x, ¬ (1037 ≤ b ∧ b ≤ 1041) → ¬ (b = 1000 ∧ (x = 3 ∨ x = 7 ∨ x = 8 ∨ (33 ≤ x ∧ x ≤ 36))) → J b x = J0 b x
theorem jF_t {J K L : cI} (h : jF J K) (g : jF K L) : jF J L := fun b x q1 q2 => (g b x q1 q2).trans (h b x q1 q2)
theorem jF_s {J J' : cI} (h : jF J J') : smT J J' := ⟨fun b x q => h b x (by omega) (by omega), h 1000 2 (by omega) (by omega)⟩
theorem jF_r {J : cI} : jF J J := fun _ _ _ _ => rfl
/-- the rule that is laid, and no other place -/
def uX (n : Int) (J J' : cI) : Prop := ∀ b x, ¬ (1037 ≤ b ∧ b ≤ 1040 ∧ x = n) → ¬ (b = 1041 ∧ 5 * n ≤ x ∧ x < 5 * n + 5) → J' b x = J b x
theorem uX_t {n : Int} {J K L : cI} (h : uX n J K) (g : uX n K L) : uX n J L := fun b x q1 q2 => (g b x q1 q2).trans (h b x q1 q2)
theorem uX_r {n : Int} {J : cI} : uX n J J := fun _ _ _ _ => rfl
theorem uX_f {n : Int} {J J' : cI} (h : uX n J J') : jF J J' := fun b x q1 q2 => h b x (by omega) (by omega)
theorem uX_e {n i : Int} {J J' : cI} (h : uX n J J') (ne : i ≠ n) : e9 (mr J' 1037 i) (mr J 1037 i) := e9_fr (b := 1037) (fun b y q1 q2 q3 => h b y (by omega) (by omega)) (fun y q1 q2 => h _ _ (by omega) (by omega))
section MM4
variable {k : kT} {J0 J : cI} {w h kk n : Int} {ρ : Int → Int → Int}
theorem e_0 {σ : Int → Int} (e : e9 (mr J 1037 n) σ) : J 1037 n = σ 0 := by have := e 0 (by decide) (by decide) (Or.inl (by decide)); rw [mr0] at this; exact this
theorem e_1 {σ : Int → Int} (e : e9 (mr J 1037 n) σ) : J 1038 n = σ 1 := by have := e 1 (by decide) (by decide) (Or.inl (by decide)); rw [mr1] at this; exact this
theorem e_2 {σ : Int → Int} (e : e9 (mr J 1037 n) σ) : J 1039 n = σ 2 := by have := e 2 (by decide) (by decide) (Or.inl (by decide)); rw [mr2] at this; exact this
theorem e_3 {σ : Int → Int} (e : e9 (mr J 1037 n) σ) : J 1040 n = σ 3 := by have := e9_3 e; rw [mr3] at this; exact this
theorem e_4 {σ : Int → Int} {j : Int} (e : e9 (mr J 1037 n) σ) (j0 : 0 ≤ j) (j5 : j < 5) (j1 : j < σ 3) : J 1041 (5 * n + j) = σ (4 + j) := by
  have := e (4 + j) (by omega) (by omega) (by rw [e9_3 e]; omega)
  rw [mr4 j0] at this; exact this
theorem e_mk {σ : Int → Int} (x0 : J 1037 n = σ 0) (x1 : J 1038 n = σ 1) (x2 : J 1039 n = σ 2) (x3 : J 1040 n = σ 3) (x4 : ∀ j, 0 ≤ j → j < 5 → j < σ 3 → J 1041 (5 * n + j) = σ (4 + j)) : e9 (mr J 1037 n) σ := fun t t0 t1 t2 => by
  rw [mr3, x3] at t2
  have : t = 0 ∨ t = 1 ∨ t = 2 ∨ t = 3 ∨ 4 ≤ t := by omega
  rcases this with rfl | rfl | rfl | rfl | t4
  · rw [mr0]; exact x0
  · rw [mr1]; exact x1
  · rw [mr2]; exact x2
  · rw [mr3]; exact x3
  · rw [show t = 4 + (t - 4) by omega, mr4 (by omega)]; exact x4 (t - 4) (by omega) (by omega) (by omega)
/-- rows, columns -/
theorem pt_adc {σ : Int → Int} {x : Int} {J : cI} (x0 : 0 ≤ x) (e : e9 (mr J 1037 n) (adc (pt σ x) (σ (4 + x)))) : e9 (mr J 1037 n) (pt σ (x + 1)) := by
  refine e9_t e (fun t t0 t1 t2 => ?_)
  rw [adc_3, pt_3] at t2
  by_cases c3 : t = 3
  · subst c3; rw [adc_3, pt_3, pt_3]
  · by_cases c4 : t = 4 + x
    · have : adc (pt σ x) (σ (4 + x)) (4 + pt σ x 3) = σ (4 + x) := adc_c (by rw [pt_3]; exact x0)
      rw [pt_3] at this
      rw [c4, this, pt_n (by omega)]
    · rw [adc_n c3 (by rw [pt_3]; exact c4), pt_n c3, pt_n c3]
end MM4
