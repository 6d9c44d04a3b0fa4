/-! ===== what breaks a rule: the reference ===== -/
/-- two filled places that don't go together -/
def PB (κ N i j a b : Int) : Prop := (κ = 0 ∧ a = b) ∨ (κ = 11 ∧ a ≠ b) ∨ (κ = 3 ∧ b ≤ a) ∨ (κ = 4 ∧ b - a < j - i) ∨ (κ ≠ 0 ∧ κ ≠ 11 ∧ κ ≠ 3 ∧ κ ≠ 4 ∧ j = i + 1 ∧ iabs (a - b) < N)
theorem PB_0 {κ N i j a b : Int} (h : κ = 0) : PB κ N i j a b ↔ a = b := by subst h; unfold PB; simp
theorem PB_11 {κ N i j a b : Int} (h : κ = 11) : PB κ N i j a b ↔ a ≠ b := by subst h; unfold PB; simp
theorem PB_3 {κ N i j a b : Int} (h : κ = 3) : PB κ N i j a b ↔ b ≤ a := by subst h; unfold PB; simp
theorem PB_4 {κ N i j a b : Int} (h : κ = 4) : PB κ N i j a b ↔ b - a < j - i := by subst h; unfold PB; simp
theorem PB_n {κ N i j a b : Int} (h0 : ¬ κ = 0) (h1 : ¬ κ = 11) (h3 : ¬ κ = 3) (h4 : ¬ κ = 4) : PB κ N i j a b ↔ (j = i + 1 ∧ iabs (a - b) < N) := by unfold PB; simp [h0, h1, h3, h4]
theorem lf0 {f : Int} {p : Prop} (d : f = 0) (h : ¬ p) : (0 : Int) = 1 ↔ (f = 1 ∨ p) := ⟨fun w => absurd w (by decide), fun w => w.elim (fun y => by omega) (fun y => absurd y h)⟩
theorem lf1 {f : Int} {p : Prop} (h : f = 1 ∨ p) : (1 : Int) = 1 ↔ (f = 1 ∨ p) := ⟨fun _ => h, fun _ => rfl⟩
theorem lff {f : Int} {p : Prop} (h : ¬ p) : f = 1 ↔ (f = 1 ∨ p) := ⟨Or.inl, fun w => w.elim id (fun y => absurd y h)⟩
section RM
variable {Q : Int → cI → Prop} {a1 n : Int} {a2 : Nat} {J : cI} {u : Int → Int}
/-- what one more place makes of 'some place does' -/
theorem fl_s {p : Int → Prop} {f g x n : Int} {G : Prop} (hx : x < n) (hg : g = 1 ↔ (f = 1 ∨ p x)) (h : (f = 1 ∨ exF p x n) ↔ G) : (g = 1 ∨ exF p (x + 1) n) ↔ G := by
  refine Iff.trans ⟨fun w => ?_, fun w => ?_⟩ h
  · rcases w with w | ⟨j, j1, j2, j3⟩
    · rcases hg.mp w with w | w
      · exact Or.inl w
      · exact Or.inr ⟨x, Int.le_refl x, hx, w⟩
    · exact Or.inr ⟨j, by omega, j2, j3⟩
  · rcases w with w | ⟨j, j1, j2, j3⟩
    · exact Or.inl (hg.mpr (Or.inl w))
    · by_cases e : j = x
      · subst e; exact Or.inl (hg.mpr (Or.inr j3))
      · exact Or.inr ⟨j, by omega, j2, j3⟩
/-- odd, even, is -/
def oeF (κ N v : Int) : Prop := v ≠ 0 ∧ ((κ = 9 ∧ v ≠ N) ∨ (κ ≠ 9 ∧ κ = 6 ∧ v % 2 ≠ 1) ∨ (κ ≠ 9 ∧ κ ≠ 6 ∧ v % 2 ≠ 0))
end RM
