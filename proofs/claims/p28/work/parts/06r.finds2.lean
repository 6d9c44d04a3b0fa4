/-! ===== search, isNeeded ===== -/
theorem fnd_b {P : sP} (hP : goP P) {M : Nat} (hM : M ≤ 25) : 0 ≤ fnd (dfs P M 0 st0) ∧ fnd (dfs P M 0 st0) ≤ P.1 ∧ imax 0 (rsl (dfs P M 0 st0)) = fnd (dfs P M 0 st0) ∧ (rsl (dfs P M 0 st0) = 1 ↔ fnd (dfs P M 0 st0) = 1) := by
  have ok := dfs_ok hP M 0 st0 (by omega) (by omega) (gS_0 hP)
  have h1 := hP.1
  generalize dfs P M 0 st0 = r at *
  unfold fnd rsl imax
  rcases ok with o | o | o
  · have hn : ¬ r.1 = 2 := by omega
    simp only [if_neg hn]
    have g := o.2.2.2.2
    refine ⟨g.1, by omega, ?_, trivial⟩
    split <;> omega
  · have hn : ¬ r.1 = 2 := by omega
    simp only [if_neg hn]
    rw [o.2.1]
    refine ⟨by omega, by omega, ?_, trivial⟩
    split <;> omega
  · simp only [if_pos o.1]
    exact ⟨by decide, by omega, by decide, by decide⟩
section ST5
variable {I : cI} {R : cR} {J : cI}
end ST5
