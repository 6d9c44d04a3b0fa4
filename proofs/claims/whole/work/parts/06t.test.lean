/-! ===== test ===== -/
noncomputable def b2 (p : Prop) : Int := @ite Int p (Classical.propDecidable p) 1 0
theorem b2_t {p : Prop} (h : p) : b2 p = 1 := if_pos h
theorem b2_f {p : Prop} (h : ¬ p) : b2 p = 0 := if_neg h
theorem b2_c {p q : Prop} (h : p ↔ q) : b2 p = b2 q := by rw [propext h]
theorem b2_or (p : Prop) : b2 p = 0 ∨ b2 p = 1 := by
  by_cases h : p
  · exact Or.inr (b2_t h)
  · exact Or.inl (b2_f h)
theorem b2_n {p : Prop} : b2 p = 0 ↔ ¬ p := ⟨fun e h => by rw [b2_t h] at e; exact absurd e (by decide), b2_f⟩
/-- at some place from x on -/
def exF (p : Int → Prop) (x n : Int) : Prop := ∃ i, x ≤ i ∧ i < n ∧ p i
theorem exF_e {p : Int → Prop} {x n : Int} (h : n ≤ x) : b2 (exF p x n) = 0 := b2_f (fun ⟨i, h1, h2, _⟩ => by omega)
theorem exF_h {p : Int → Prop} {x n : Int} (h : x < n) (hp : p x) : b2 (exF p x n) = 1 := b2_t ⟨x, Int.le_refl x, h, hp⟩
theorem exF_m {p : Int → Prop} {x n : Int} (hp : ¬ p x) : b2 (exF p x n) = b2 (exF p (x + 1) n) := by
  refine b2_c ⟨fun ⟨i, h1, h2, h3⟩ => ⟨i, ?_, h2, h3⟩, fun ⟨i, h1, h2, h3⟩ => ⟨i, by omega, h2, h3⟩⟩
  by_cases e : i = x
  · subst e; exact absurd h3 hp
  · omega
/-- the sum from x on -/
def sF (f : Int → Int) (x n : Int) : Int := if x < n then f x + sF f (x + 1) n else 0
termination_by (n - x).toNat
theorem sF_e {f : Int → Int} {x n : Int} (h : n ≤ x) : sF f x n = 0 := by
  rw [sF]; exact if_neg (by omega)
theorem sF_s {f : Int → Int} {x n : Int} (h : x < n) : sF f x n = f x + sF f (x + 1) n := by
  rw [sF]; exact if_pos h
theorem sp_hasRem {Q : Int → cI → cR → Prop} {r0 a1 : Nat} {a2 : Int} {I : cI} {R : cR} (h5 : I r0 3 ≤ 5) (h0 : 0 ≤ I r0 3) (hc : ∀ i, 0 ≤ i → i < I r0 3 → 0 ≤ I (r0 + 130) i ∧ I (r0 + 130) i < 25)
    (hQ : Q (b2 (exF (fun i => I a1 (I (r0 + 130) i) ≠ 0 ∧ iAnd (I a1 (I (r0 + 130) i)) 1 = a2) 0 (I r0 3))) I R) : wX7_hasRemainder r0 a1 a2 I R Q := by
  have L : ∀ (m : Nat) (x : Int), 0 ≤ x → x ≤ I r0 3 → I r0 3 - x < m → Q (b2 (exF (fun i => I a1 (I (r0 + 130) i) ≠ 0 ∧ iAnd (I a1 (I (r0 + 130) i)) 1 = a2) x (I r0 3))) I R → wX7_hasRemainder_2 Q r0 a1 a2 m x I R := by
    intro m
    induction m with
    | zero => intro x h0 h1 h2; omega
    | succ m ih =>
      intro x h0 h1 h2 hq
      show wbX7_hasRemainder_2 Q r0 a1 a2 (wX7_hasRemainder_2 Q r0 a1 a2 m) x I R
      unfold wbX7_hasRemainder_2 inR
      grind [exF_e, exF_h, exF_m]
  exact ⟨7, L 7 0 (by omega) h0 (by omega) hQ⟩
