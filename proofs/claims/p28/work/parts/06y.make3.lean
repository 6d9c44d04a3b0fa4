/-! ===== make: the reference ===== -/
section MM
variable {J : cI}
/-- the rules as they are told stay where all cells of their rows do -/
theorem e9_fr {J J' : cI} {b : Nat} {x : Int} (h : ∀ a y, b ≤ a → a ≤ b + 3 → y = x → J' a y = J a y) (h2 : ∀ y, 5 * x ≤ y → y < 5 * x + 5 → J' (b + 4) y = J (b + 4) y) : e9 (mr J' b x) (mr J b x) := fun k k0 k1 _ => by
  have : k = 0 ∨ k = 1 ∨ k = 2 ∨ k = 3 ∨ 4 ≤ k := by omega
  rcases this with rfl | rfl | rfl | rfl | k4
  · rw [mr0, mr0]; exact h _ _ (by omega) (by omega) rfl
  · rw [mr1, mr1]; exact h _ _ (by omega) (by omega) rfl
  · rw [mr2, mr2]; exact h _ _ (by omega) (by omega) rfl
  · rw [mr3, mr3]; exact h _ _ (by omega) (by omega) rfl
  · rw [show k = 4 + (k - 4) by omega, mr4 (by omega), mr4 (by omega)]; exact h2 _ (by omega) (by omega)
/-- places that a making writes -/
def jM (b : Nat) (x : Int) : Prop := (1015 ≤ b ∧ b ≤ 1019) ∨ (1021 ≤ b ∧ b ≤ 1023) ∨ b = 1026 ∨ (1037 ≤ b ∧ b ≤ 1041) ∨ (b = 1000 ∧ (x = 14 ∨ x = 24 ∨ x = 25 ∨ x = 43))
end MM
