/-! the reference -/
def SM (M : Int) (J : cI) (σ : sT) : Prop := (∀ c, 0 ≤ c → c < 25 → J 1021 c = σ.1 c) ∧ J 1000 24 = σ.2.1 ∧ J 1000 25 = σ.2.2.1 ∧ (∀ i c, 0 ≤ i → i < σ.2.2.1 → 0 ≤ c → c < M → J 1026 (25 * i + c) = σ.2.2.2 i c)
def fM (J0 J : cI) : Prop := ∀ a x, ¬ ((a = 1000 ∧ (x = 24 ∨ x = 25)) ∨ a = 1021 ∨ a = 1026) → J a x = J0 a x
theorem fM_r {J : cI} : fM J J := fun _ _ _ => rfl
theorem fM_t {I J K : cI} (h : fM I J) (g : fM J K) : fM I K := fun a x e => (g a x e).trans (h a x e)
theorem fM_u {J0 J : cI} {a : Nat} {x v : Int} (h : fM J0 J) (e : (a = 1000 ∧ (x = 24 ∨ x = 25)) ∨ a = 1021 ∨ a = 1026) : fM J0 (up2 J a x v) := fun b y q => (u2n (fun w => q (by rw [w.1, w.2]; exact e))).trans (h b y q)
/-- what of the search stands in the reference's rows -/
def mB (J0 : cI) (M n wo : Int) (P : sP) : Prop :=
  J0 1000 11 * J0 1000 12 = M ∧ J0 1000 13 = P.2.1 ∧ J0 1000 14 = n ∧ gp M n (mr J0 1015) ∧ 0 ≤ n ∧ n ≤ 65 ∧ 1 ≤ M ∧ M ≤ 25 ∧ (∀ c, 0 ≤ c → c < M → J0 1023 c = P.2.2.1 c) ∧ (∀ c, 0 ≤ c → c < M → J0 1022 c = P.2.2.2.1 c - 1) ∧ (∀ c v, P.2.2.2.2 c v ↔ am (mr J0 1015) n P.2.1 c v wo)
theorem mr_fr {J0 J : cI} {b : Nat} (h : ∀ a x, b ≤ a → a ≤ b + 4 → J a x = J0 a x) : mr J b = mr J0 b := by
  funext i t
  unfold mr
  rw [h b i (by omega) (by omega), h (b + 1) i (by omega) (by omega), h (b + 2) i (by omega) (by omega), h (b + 3) i (by omega) (by omega), h (b + 4) _ (by omega) (by omega)]
section ML
variable {J0 : cI} {M n wo : Int} {P : sP} {Q : Int → cI → Prop}
/-- a solution laid down -/
def kpJ (M : Int) (J : cI) (f x : Int) : cI := fun a y => if a = 1026 ∧ 25 * f ≤ y ∧ y < 25 * f + x then J 1021 (y - 25 * f) else J a y
end ML
