/-! ===== clear, drop, look ===== -/
section FQ
variable {I I' : cI} {R R' : cR} {J J' : cI}
def smQ (J J' : cI) : Prop := (∀ a x, 1015 ≤ a → a ≤ 1019 → J' a x = J a x) ∧ J' 1000 11 = J 1000 11 ∧ J' 1000 12 = J 1000 12 ∧ J' 1000 13 = J 1000 13 ∧ J' 1000 14 = J 1000 14
theorem smQ_mr (j : smQ J J') : mr J' 1015 = mr J 1015 := mr_fr (fun a x q1 q2 => j.1 a x q1 q2)
theorem smQ_M (j : smQ J J') : vM J' = vM J := by unfold vM; rw [j.2.1, j.2.2.1]
theorem vP_q (h : vP J) (j : smQ J J') : vP J' := by
  unfold vP at h ⊢; rw [smQ_mr j, smQ_M j, j.2.1, j.2.2.1, j.2.2.2.1, j.2.2.2.2]; exact h
theorem iP_q (h : iP I R J) (hv : vP J) (c : ∀ a x, 85 ≤ a → a ≠ R 0 7 + 1 → I' a x = I a x) (j : smQ J J') (g : ∀ y, 0 ≤ y → y < 25 → I' (R 0 7 + 1) y = J' 1020 y ∧ 0 ≤ J' 1020 y ∧ J' 1020 y ≤ J 1000 13) : iP I' R J' := by
  obtain ⟨a1, a2, a3, a4, a5, a6, a7, a8, a9⟩ := h
  have hp : R 0 7 = 85 ∨ R 0 7 = 89 := a1.1
  refine ⟨a1, a2, a3, ?_, ?_, ?_, ?_, ?_, fun y c0 c1 => ?_⟩
  · rw [c _ 0 (by omega) (by omega), j.2.1]; exact a4
  · rw [c _ 1 (by omega) (by omega), j.2.2.1]; exact a5
  · rw [c _ 2 (by omega) (by omega), j.2.2.2.1]; exact a6
  · rw [c _ 5 (by omega) (by omega), j.2.2.2.2]; exact a7
  · rw [j.2.2.2.2, smQ_mr j]; exact pv_fr a1 hv.2.2.1 (fun a x q => c a x (by omega) (by omega)) a8
  · rw [j.2.2.2.1]; exact g y c0 c1
end FQ
section ST3
variable {I : cI} {R : cR} {J : cI}
theorem c_empty {p : Nat} {Q : cI → cR → Prop} (hQ : ∀ I', (∀ a x, ¬ (a = p + 1 ∧ 0 ≤ x ∧ x < 25) → I' a x = I a x) → (∀ c, 0 ≤ c → c < 25 → I' (p + 1) c = 0) → Q I' R) : wX4_emptyGrid p I R Q := by
  have L : ∀ (m : Nat) (x : Int) (I' : cI), 0 ≤ x → x ≤ 25 → 25 - x < m → (∀ a x, ¬ (a = p + 1 ∧ 0 ≤ x ∧ x < 25) → I' a x = I a x) → (∀ c, 0 ≤ c → c < x → I' (p + 1) c = 0) → wX4_emptyGrid_2 Q p m x I' R := by
    intro m
    induction m with
    | zero => intro x I' h0 h1 h2; omega
    | succ m ih =>
      intro x I' x0 x1 x2 h1 h2
      show wbX4_emptyGrid_2 Q p (wX4_emptyGrid_2 Q p m) x I' R
      unfold wbX4_emptyGrid_2
      refine ⟨fun e => hQ I' h1 (fun c c0 c1 => h2 c c0 (by omega)), fun e => ⟨by omega, fun J1 f1 => ⟨by unfold inR; omega, fun z hz => ?_⟩⟩⟩
      subst f1; subst hz
      refine ih (x + 1) _ (by omega) (by omega) (by omega) (fun a y q => ?_) (fun c c0 c1 => ?_)
      · rw [u2n (by omega)]; exact h1 a y q
      · by_cases ec : c = x
        · subst ec; exact u2e
        · rw [u2x ec]; exact h2 c c0 (by omega)
  exact ⟨26, L 26 0 I (by decide) (by decide) (by decide) (fun _ _ _ => rfl) (fun c c0 c1 => by omega)⟩
theorem INV_M (h : INV I R J) : I (R 0 7) 0 * I (R 0 7) 1 = vM J := by unfold vM; rw [h.1.2.2.2.1, h.1.2.2.2.2.1]
/-- the puzzle's rules are others, or there are fewer of them -/
theorem iP_r {I' : cI} {R' : cR} {J' : cI} {n : Int} {ρ : Int → Int → Int} (h : iP I R J) (o : okp R' (R 0 7)) (o2 : okp R' (R 0 8)) (e7 : R' 0 7 = R 0 7) (e8 : R' 0 8 = R 0 8) (c : ∀ a x, a = R 0 7 ∨ a = R 0 7 + 1 → ¬ (a = R 0 7 ∧ x = 5) → I' a x = I a x) (e5 : I' (R 0 7) 5 = n) (j14 : J' 1000 14 = n) (hv : pv I' R' (R 0 7) n ρ) {m : Int} (hg : gp m n ρ) (er : ∀ i, 0 ≤ i → i < n → e9 (mr J' 1015 i) (ρ i))
    (j11 : J' 1000 11 = J 1000 11) (j12 : J' 1000 12 = J 1000 12) (j13 : J' 1000 13 = J 1000 13) (j20 : ∀ x, J' 1020 x = J 1020 x) : iP I' R' J' := by
  obtain ⟨a1, a2, a3, a4, a5, a6, a7, a8, a9⟩ := h
  unfold iP
  rw [e7, e8, j11, j12, j13, j14]
  refine ⟨o, o2, a3, ?_, ?_, ?_, e5, ?_, fun y c0 c1 => ?_⟩
  · rw [c _ 0 (Or.inl rfl) (by omega)]; exact a4
  · rw [c _ 1 (Or.inl rfl) (by omega)]; exact a5
  · rw [c _ 2 (Or.inl rfl) (by omega)]; exact a6
  · exact pv_e (gp_e (fun i i0 i1 => e9_r) hg) (fun i i0 i1 => e9_s (er i i0 i1)) hv
  · rw [c _ y (Or.inr rfl) (by omega), j20]; exact a9 y c0 c1
end ST3
