/-! ===== make: both ===== -/
theorem mk_TI {M k s nf : Int} {σ : Int → Int → Int} (hM : okM M) (k1 : 1 ≤ k) (k5 : k ≤ 5) (f0 : 0 ≤ nf) (f1 : nf ≤ 40) (g : ∀ i, 0 ≤ i → i < nf → gr M (σ i) ∧ ¬ σ i 0 = 9) (hd : fnd (mkD M k s nf σ) = 1) {c : Int} (c0 : 0 ≤ c) (c1 : c < M) : TI M nf M.toNat c (nf + M, fam σ nf ((mkD M k s nf σ).2.2.2.2 0)) := by
  have hb := okM_b hM
  have lo : ∀ i, i < nf → fam σ nf ((mkD M k s nf σ).2.2.2.2 0) i = σ i := fun i q => if_pos q
  have hi : ∀ i, nf ≤ i → fam σ nf ((mkD M k s nf σ).2.2.2.2 0) i = gvn (i - nf) ((mkD M k s nf σ).2.2.2.2 0 (i - nf)) := fun i q => if_neg (by omega)
  refine ⟨f0, by show nf ≤ nf + M; omega, by show nf + M ≤ 65; omega, fun i i0 i1 => ?_, fun i i0 i1 => ?_, fun i i0 i1 => ?_, fun i j i0 i1 j0 j1 q => ?_, fun i i0 i1 => ?_, c0, c1, by omega⟩
  · have i1' : i < nf + M := i1
    show gr M (fam σ nf ((mkD M k s nf σ).2.2.2.2 0) i)
    by_cases q : i < nf
    · rw [lo i q]; exact (g i i0 q).1
    · rw [hi i (by omega)]
      have hs := mkD_s (s := s) (nf := nf) (σ := σ) k1 k5 hb.2 hd (i - nf) (by omega) (by omega)
      exact gvn_gr (by omega) (by omega) hs.1 (by omega)
  · show ¬ fam σ nf ((mkD M k s nf σ).2.2.2.2 0) i 0 = 9
    rw [lo i i1]; exact (g i i0 i1).2
  · show fam σ nf ((mkD M k s nf σ).2.2.2.2 0) i 0 = 9 ∧ fam σ nf ((mkD M k s nf σ).2.2.2.2 0) i 3 = 1
    rw [hi i i0]; exact ⟨rfl, rfl⟩
  · have q' : fam σ nf ((mkD M k s nf σ).2.2.2.2 0) i 4 = fam σ nf ((mkD M k s nf σ).2.2.2.2 0) j 4 := q
    rw [hi i i0, hi j j0] at q'
    have q2 : i - nf = j - nf := q'
    omega
  · have m0 := Int.emod_nonneg (c + 7 * i) (show M ≠ 0 by omega)
    have m1 := Int.emod_lt_of_pos (c + 7 * i) (show 0 < M by omega)
    refine ⟨nf + (c + 7 * i) % M, by omega, by show nf + (c + 7 * i) % M < nf + M; omega, ?_⟩
    show fam σ nf ((mkD M k s nf σ).2.2.2.2 0) (nf + (c + 7 * i) % M) 4 = (c + 7 * i) % M
    rw [hi _ (by omega), show nf + (c + 7 * i) % M - nf = (c + 7 * i) % M by omega]
    rfl
section MM0
variable {J : cI}
theorem row6 {J2 J21 J26 J30 J34 J38 J42 : cI} {r v c n : Int} (e21 : J21 = up2 J2 1015 r 9) (e26 : J26 = up2 J21 1016 r v) (e30 : J30 = up2 J26 1017 r 0) (e34 : J34 = up2 J30 1018 r 1) (e38 : J38 = up2 J34 1019 (5 * r) c) (e42 : J42 = up2 J38 1000 14 n) :
    (∀ b u, ¬ (1015 ≤ b ∧ b ≤ 1018 ∧ u = r) → ¬ (b = 1019 ∧ u = 5 * r) → ¬ (b = 1000 ∧ u = 14) → J42 b u = J2 b u) ∧ J42 1000 14 = n ∧ e9 (mr J42 1015 r) (gvn c v) := by
  refine ⟨fun b u w1 w2 w3 => ?_, ?_, fun t t0 t1 t2 => ?_⟩
  · rw [e42, u2n w3, e38, u2n w2, e34, u2n (by omega), e30, u2n (by omega), e26, u2n (by omega), e21, u2n (by omega)]
  · rw [e42]; exact u2e
  · have x0 : J42 1015 r = 9 := by rw [e42, u2a (by decide), e38, u2a (by decide), e34, u2a (by decide), e30, u2a (by decide), e26, u2a (by decide), e21]; exact u2e
    have x1 : J42 1016 r = v := by rw [e42, u2a (by decide), e38, u2a (by decide), e34, u2a (by decide), e30, u2a (by decide), e26]; exact u2e
    have x2 : J42 1017 r = 0 := by rw [e42, u2a (by decide), e38, u2a (by decide), e34, u2a (by decide), e30]; exact u2e
    have x3 : J42 1018 r = 1 := by rw [e42, u2a (by decide), e38, u2a (by decide), e34]; exact u2e
    have x4 : J42 1019 (5 * r) = c := by rw [e42, u2a (by decide), e38]; exact u2e
    rw [mr3, x3] at t2
    have : t = 0 ∨ t = 1 ∨ t = 2 ∨ t = 3 ∨ t = 4 := by omega
    rcases this with rfl | rfl | rfl | rfl | rfl
    · rw [mr0, x0]; rfl
    · rw [mr1, x1]; rfl
    · rw [mr2, x2]; rfl
    · rw [mr3, x3]; rfl
    · rw [show (4 : Int) = 4 + 0 by decide, mr4 (Int.le_refl 0), Int.add_zero, x4]; rfl
end MM0
section MM2
variable {J : cI}
end MM2
