/-! ===== make: both ===== -/
theorem mk_TI {M k s nf : Int} {σ : Int → Int → Int} (hM : okM M) (k1 : 1 ≤ k) (k5 : k ≤ 5) (f0 : 0 ≤ nf) (f1 : nf ≤ 40) (g : ∀ i, 0 ≤ i → i < nf → gr M (σ i) ∧ ¬ σ i 0 = 9) (hd : fnd (mkD M k s nf σ) = 1) {c : Int} (c0 : 0 ≤ c) (c1 : c < M) : TI M nf M.toNat c (nf + M, fam σ nf ((mkD M k s nf σ).2.2.2.2 0)) := by
  have hb := okM_b hM
  have lo : ∀ i, i < nf → fam σ nf ((mkD M k s nf σ).2.2.2.2 0) i = σ i := fun i q => if_pos q
  have hi : ∀ i, nf ≤ i → fam σ nf ((mkD M k s nf σ).2.2.2.2 0) i = gvn (i - nf) ((mkD M k s nf σ).2.2.2.2 0 (i - nf)) := fun i q => if_neg (by omega)
  refine ⟨f0, by show nf ≤ nf + M; omega, by show nf + M ≤ 65; omega, fun i i0 i1 => ?_, fun i i0 i1 => ?_, fun i i0 i1 => ?_, fun i j i0 i1 j0 j1 q => ?_, fun i i0 i1 => ?_, c0, c1, by omega⟩
  · have i1' : i < nf + M := i1
    show gr M (fam σ nf ((mkD M k s nf σ).2.2.2.2 0) i)
    by_cases q : i < nf
    · rw [lo i q]; exact (g i i0 q).1
    · rw [hi i (by omega)]
      have hs := mkD_s (s := s) (nf := nf) (σ := σ) k1 k5 hb.2 hd (i - nf) (by omega) (by omega)
      exact gvn_gr (by omega) (by omega) hs.1 (by omega)
  · show ¬ fam σ nf ((mkD M k s nf σ).2.2.2.2 0) i 0 = 9
    rw [lo i i1]; exact (g i i0 i1).2
  · show fam σ nf ((mkD M k s nf σ).2.2.2.2 0) i 0 = 9 ∧ fam σ nf ((mkD M k s nf σ).2.2.2.2 0) i 3 = 1
    rw [hi i i0]; exact ⟨rfl, rfl⟩
  · have q' : fam σ nf ((mkD M k s nf σ).2.2.2.2 0) i 4 = fam σ nf ((mkD M k s nf σ).2.2.2.2 0) j 4 := q
    rw [hi i i0, hi j j0] at q'
    have q2 : i - nf = j - nf := q'
    omega
  · have m0 := Int.emod_nonneg (c + 7 * i) (show M ≠ 0 by omega)
    have m1 := Int.emod_lt_of_pos (c + 7 * i) (show 0 < M by omega)
    refine ⟨nf + (c + 7 * i) % M, by omega, by show nf + (c + 7 * i) % M < nf + M; omega, ?_⟩
    show fam σ nf ((mkD M k s nf σ).2.2.2.2 0) (nf + (c + 7 * i) % M) 4 = (c + 7 * i) % M
    rw [hi _ (by omega), show nf + (c + 7 * i) % M - nf = (c + 7 * i) % M by omega]
    rfl
section MM0
variable {J : cI}
theorem row6 {J2 J21 J26 J30 J34 J38 J42 : cI} {r v c n : Int} (e21 : J21 = up2 J2 1015 r 9) (e26 : J26 = up2 J21 1016 r v) (e30 : J30 = up2 J26 1017 r 0) (e34 : J34 = up2 J30 1018 r 1) (e38 : J38 = up2 J34 1019 (5 * r) c) (e42 : J42 = up2 J38 1000 14 n) :
    (∀ b u, ¬ (1015 ≤ b ∧ b ≤ 1018 ∧ u = r) → ¬ (b = 1019 ∧ u = 5 * r) → ¬ (b = 1000 ∧ u = 14) → J42 b u = J2 b u) ∧ J42 1000 14 = n ∧ e9 (mr J42 1015 r) (gvn c v) := by
  refine ⟨fun b u w1 w2 w3 => ?_, ?_, fun t t0 t1 t2 => ?_⟩
  · rw [e42, u2n w3, e38, u2n w2, e34, u2n (by omega), e30, u2n (by omega), e26, u2n (by omega), e21, u2n (by omega)]
  · rw [e42]; exact u2e
  · have x0 : J42 1015 r = 9 := by rw [e42, u2a (by decide), e38, u2a (by decide), e34, u2a (by decide), e30, u2a (by decide), e26, u2a (by decide), e21]; exact u2e
    have x1 : J42 1016 r = v := by rw [e42, u2a (by decide), e38, u2a (by decide), e34, u2a (by decide), e30, u2a (by decide), e26]; exact u2e
    have x2 : J42 1017 r = 0 := by rw [e42, u2a (by decide), e38, u2a (by decide), e34, u2a (by decide), e30]; exact u2e
    have x3 : J42 1018 r = 1 := by rw [e42, u2a (by decide), e38, u2a (by decide), e34]; exact u2e
    have x4 : J42 1019 (5 * r) = c := by rw [e42, u2a (by decide), e38]; exact u2e
    rw [mr3, x3] at t2
    have : t = 0 ∨ t = 1 ∨ t = 2 ∨ t = 3 ∨ t = 4 := by omega
    rcases this with rfl | rfl | rfl | rfl | rfl
    · rw [mr0, x0]; rfl
    · rw [mr1, x1]; rfl
    · rw [mr2, x2]; rfl
    · rw [mr3, x3]; rfl
    · rw [show (4 : Int) = 4 + 0 by decide, mr4 (Int.le_refl 0), Int.add_zero, x4]; rfl
/-- the givens are added -/
theorem m_givens {M nf a : Int} {σ : Int → Int → Int} {f0 sol : Int → Int} {Q : Int → cI → Prop} (eM : J 1000 11 * J 1000 12 = M) (M0 : 0 ≤ M) (M1 : M ≤ 25) (f00 : 0 ≤ nf) (f1 : nf ≤ 40) (e14 : J 1000 14 = nf) (er : ∀ i, 0 ≤ i → i < nf → e9 (mr J 1015 i) (σ i)) (hf : ∀ c, 0 ≤ c → c < M → f0 c = sol c)
    (hK : ∀ J2, (∀ b u, ¬ (1015 ≤ b ∧ b ≤ 1019) → ¬ (b = 1000 ∧ u = 14) → J2 b u = J b u) → J2 1000 14 = nf + M → (∀ i, 0 ≤ i → i < nf + M → e9 (mr J2 1015 i) (fam σ nf sol i)) → wX12_thinOut nf J2 (fun J6 => ∀ J9 : cI, J9 = up2 J6 1000 28 0 → wX12_lookAnew J9 (fun _ J13 => wX12_rulesIs J13 (fun r16 J17 => Q r16 J17)))) : ∃ m, wX12_make_346 Q a m nf 0 f0 J := by
  have L : ∀ (m : Nat) (y : Int) (J2 : cI), 0 ≤ y → y ≤ M → M - y < m → (∀ b u, ¬ (1015 ≤ b ∧ b ≤ 1019) → ¬ (b = 1000 ∧ u = 14) → J2 b u = J b u) → J2 1000 14 = nf + y → (∀ i, 0 ≤ i → i < nf + y → e9 (mr J2 1015 i) (fam σ nf sol i)) → wX12_make_346 Q a m nf y f0 J2 := by
    intro m
    induction m with
    | zero => intro y J2 y0 y1 y2; omega
    | succ m ih =>
      intro y J2 y0 y1 y2 g1 g14 gr'
      show wbX12_make_346 Q a (wX12_make_346 Q a m) nf y f0 J2
      unfold wbX12_make_346 wX12_cells
      rw [g1 1000 11 (by omega) (by omega), g1 1000 12 (by omega) (by omega), eM]
      dsimp only
      rw [g14]
      refine ⟨by unfold inR; omega, fun q => ?_, fun q => ⟨by omega, fun J21 e21 => ⟨by omega, ?_⟩⟩⟩
      · have ey : y = M := by omega
        subst ey
        exact hK J2 g1 g14 gr'
      · have k21 : J21 1000 14 = nf + y := by rw [e21, u2a (by decide)]; exact g14
        rw [k21]
        refine ⟨by omega, fun J26 e26 => ?_⟩
        have k26 : J26 1000 14 = nf + y := by rw [e26, u2a (by decide)]; exact k21
        rw [k26]
        refine ⟨by omega, fun J30 e30 => ?_⟩
        have k30 : J30 1000 14 = nf + y := by rw [e30, u2a (by decide)]; exact k26
        rw [k30]
        refine ⟨by omega, fun J34 e34 => ?_⟩
        have k34 : J34 1000 14 = nf + y := by rw [e34, u2a (by decide)]; exact k30
        rw [k34]
        refine ⟨by omega, fun J38 e38 => ?_⟩
        have k38 : J38 1000 14 = nf + y := by rw [e38, u2a (by decide)]; exact k34
        rw [k38]
        refine ⟨by unfold inR; omega, fun J42 e42 => ⟨by unfold inR; omega, fun z hz => ?_⟩⟩
        subst hz
        obtain ⟨W, W14, Wr⟩ := row6 e21 e26 e30 e34 e38 e42
        refine ih (y + 1) J42 (by omega) (by omega) (by omega) (fun b u w1 w2 => by rw [W b u (by omega) (by omega) w2]; exact g1 b u w1 w2) (by rw [W14]; omega) (fun i i0 i1 => ?_)
        by_cases ei : i = nf + y
        · subst ei
          have ef : fam σ nf sol (nf + y) = gvn y (f0 y) := by unfold fam; rw [if_neg (by omega), show nf + y - nf = y by omega, hf y y0 (by omega)]
          rw [ef]; exact Wr
        · exact e9_t (e9_fr (b := 1015) (fun b u w1 w2 w3 => W b u (by omega) (by omega) (by omega)) (fun u w1 w2 => W _ _ (by omega) (by omega) (by omega))) (gr' i i0 (by omega))
  exact ⟨26, L 26 0 J (Int.le_refl 0) M0 (by omega) (fun _ _ _ _ => rfl) (by omega) (fun i i0 i1 => by unfold fam; rw [if_pos (by omega)]; exact er i i0 (by omega))⟩
theorem m_made {M nf a : Int} {sol : Int → Int} {Q : Int → cI → Prop} (eM : J 1000 11 * J 1000 12 = M) (M0 : 0 ≤ M) (M1 : M ≤ 25) (e14 : J 1000 14 = nf) (es : ∀ c, 0 ≤ c → c < M → J 1026 c = sol c)
    (hK : ∀ f0 J2, (∀ c, 0 ≤ c → c < M → f0 c = sol c) → (∀ b u, b ≠ 1020 → J2 b u = J b u) → (∀ c, 0 ≤ c → c < 25 → J2 1020 c = 0) → ∃ m, wX12_make_346 Q a m nf 0 f0 J2) : ∃ m, wX12_make_287 Q a m 0 (fun _ => 0) J := by
  have L316 : ∀ (f0 : Int → Int), (∀ c, 0 ≤ c → c < M → f0 c = sol c) → ∀ (m : Nat) (y : Int) (J2 : cI), 0 ≤ y → y ≤ 25 → 25 - y < m → (∀ b u, b ≠ 1020 → J2 b u = J b u) → (∀ c, 0 ≤ c → c < y → J2 1020 c = 0) → wX12_make_316 Q a m y f0 J2 := by
    intro f0 hf m
    induction m with
    | zero => intro y J2 y0 y1 y2; omega
    | succ m ih2 =>
      intro y J2 y0 y1 y2 g1 gg
      show wbX12_make_316 Q a (wX12_make_316 Q a m) y f0 J2
      unfold wbX12_make_316
      refine ⟨fun q z1' hz1 => ?_, fun q => ⟨by omega, fun J5 e5 => ⟨by unfold inR; omega, fun z hz => ?_⟩⟩⟩
      · have ez : z1' = nf := by rw [hz1, g1 _ _ (by decide)]; exact e14
        rw [ez]
        exact hK f0 J2 hf g1 (fun c c0 c1 => gg c c0 (by omega))
      · subst hz
        refine ih2 (y + 1) J5 (by omega) (by omega) (by omega) (fun b u w1 => by rw [e5, u2a w1]; exact g1 b u w1) (fun c c0 c1 => ?_)
        subst e5
        by_cases ec : c = y
        · subst ec; exact u2e
        · rw [u2x ec]; exact gg c c0 (by omega)
  have L287 : ∀ (m : Nat) (y : Int) (f0 : Int → Int), 0 ≤ y → y ≤ M → M - y < m → (∀ c, 0 ≤ c → c < y → f0 c = sol c) → wX12_make_287 Q a m y f0 J := by
    intro m
    induction m with
    | zero => intro y f0 y0 y1 y2; omega
    | succ m ih2 =>
      intro y f0 y0 y1 y2 hf
      show wbX12_make_287 Q a (wX12_make_287 Q a m) y f0 J
      unfold wbX12_make_287 wX12_cells
      rw [eM]
      refine ⟨by unfold inR; omega, fun q => ⟨26, ?_⟩, fun q => ⟨by omega, by omega, fun f8 e8' => ⟨by unfold inR; omega, fun z hz => ?_⟩⟩⟩
      · exact L316 f0 (fun c c0 c1 => hf c c0 (by omega)) 26 0 J (Int.le_refl 0) (by decide) (by decide) (fun _ _ _ => rfl) (fun c c0 c1 => by omega)
      · subst hz
        refine ih2 (y + 1) f8 (by omega) (by omega) (by omega) (fun c c0 c1 => ?_)
        subst e8'
        by_cases ec : c = y
        · subst ec; rw [uFe]; exact es c c0 (by omega)
        · rw [uFn ec]; exact hf c c0 (by omega)
  exact ⟨26, L287 26 0 _ (Int.le_refl 0) M0 (by omega) (fun c c0 c1 => by omega)⟩
theorem m_restore {n a : Int} {ρ : Int → Int → Int} {Q : Int → cI → Prop} (n0 : 0 ≤ n) (n1 : n ≤ 65) (sv : ∀ i, 0 ≤ i → i < n → e9 (mr J 1037 i) (ρ i))
    (hQ : ∀ J2, (∀ b u, ¬ (1015 ≤ b ∧ b ≤ 1019) → J2 b u = J b u) → (∀ i, 0 ≤ i → i < n → e9 (mr J2 1015 i) (ρ i)) → Q (-1) J2) : ∃ m, wX12_make_240 Q a m n 0 J := by
  have L240 : ∀ (m : Nat) (y : Int) (J2 : cI), 0 ≤ y → y ≤ n → n - y < m → (∀ b u, ¬ (1015 ≤ b ∧ b ≤ 1019) → J2 b u = J b u) → (∀ i, 0 ≤ i → i < y → e9 (mr J2 1015 i) (ρ i)) → wX12_make_240 Q a m n y J2 := by
    intro m
    induction m with
    | zero => intro y J2 y0 y1 y2; omega
    | succ m ih2 =>
      intro y J2 y0 y1 y2 g1 gg
      show wbX12_make_240 Q a (wX12_make_240 Q a m) n y J2
      unfold wbX12_make_240
      refine ⟨fun q => hQ J2 g1 (fun i i0 i1 => gg i i0 (by omega)), fun q => ?_⟩
      refine m_copy (b := 1037) (Or.inl rfl) y0 (by omega) y0 (by omega) (fun J3 c1 c2 c3 => ⟨by unfold inR; omega, fun z hz => ?_⟩)
      subst hz
      refine ih2 (y + 1) J3 (by omega) (by omega) (by omega) (fun b u w1 => by rw [c1 b u w1]; exact g1 b u w1) (fun i i0 i1 => ?_)
      by_cases ei : i = y
      · subst ei
        refine e9_t c3 ?_
        have e : mr J2 1037 = mr J 1037 := mr_fr (fun b u q1 q2 => g1 b u (by omega))
        rw [e]; exact sv i i0 (by omega)
      · exact e9_t (c2 i ei) (gg i i0 (by omega))
  exact ⟨66, L240 66 0 J (Int.le_refl 0) n0 (by omega) (fun _ _ _ => rfl) (fun i i0 i1 => by omega)⟩
end MM0
section MM2
variable {J : cI}
theorem m_make {w h k n a : Int} {Q : Int → cI → Prop} (e11 : J 1000 11 = w) (e12 : J 1000 12 = h) (e13 : J 1000 13 = k) (e14 : J 1000 14 = n) (hw : w ≠ 0) (hM : okM (w * h)) (k1 : 1 ≤ k) (k5 : k ≤ 5) (n0 : 0 ≤ n) (n1 : n ≤ 65) (a0 : 0 ≤ a) (a1 : a ≤ 65535) (hg : gp (w * h) n (mr J 1015)) (h40 : (fl (mr J 1015) n.toNat).1 ≤ 40)
    (hQ0 : ¬ fnd (mkD (w * h) k a (fl (mr J 1015) n.toNat).1 (fl (mr J 1015) n.toNat).2) = 1 → ∀ J', (∀ b x, ¬ jM b x → ¬ (b = 1000 ∧ (x = 0 ∨ x = 36)) → J' b x = J b x) → J' 1000 0 = 0 → J' 1000 14 = n → (∀ i, 0 ≤ i → i < n → e9 (mr J' 1015 i) (mr J 1015 i)) → Q (-1) J')
    (hQ1 : fnd (mkD (w * h) k a (fl (mr J 1015) n.toNat).1 (fl (mr J 1015) n.toNat).2) = 1 → ∀ (S : tS), S = thn (w * h) k (fl (mr J 1015) n.toNat).1 (w * h).toNat (dw (dit a (w * h).toNat) / 16 % (w * h)) ((fl (mr J 1015) n.toNat).1 + w * h, fam (fl (mr J 1015) n.toNat).2 (fl (mr J 1015) n.toNat).1 ((mkD (w * h) k a (fl (mr J 1015) n.toNat).1 (fl (mr J 1015) n.toNat).2).2.2.2.2 0)) →
      ∀ J6, (∀ b x, ¬ jM b x → b ≠ 1020 → ¬ (b = 1000 ∧ (x = 0 ∨ x = 36)) → J6 b x = J b x) → J6 1000 0 = 0 → J6 1000 14 = S.1 → (∀ i, 0 ≤ i → i < S.1 → e9 (mr J6 1015 i) (S.2 i)) → (∀ c, 0 ≤ c → c < 25 → J6 1020 c = 0) → ∀ J9, J9 = up2 J6 1000 28 0 → wX12_lookAnew J9 (fun _ J13 => wX12_rulesIs J13 (fun r J17 => Q r J17))) : wX12_make a J Q := by
  have hb := okM_b hM
  have fb := fl_b (ρ := mr J 1015) n.toNat
  have fg := fl_gp hg n.toNat (by omega)
  have eM : J 1000 11 * J 1000 12 = w * h := by rw [e11, e12]
  unfold wX12_make
  intro J1 e1
  have z1 : J1 1000 0 = 0 := by subst e1; exact u2e
  have F1 : ∀ b x, ¬ (b = 1000 ∧ x = 0) → J1 b x = J b x := fun b x q => by subst e1; exact u2n q
  refine m_isIn ?_
  rw [b2_t (by omega)]
  refine ⟨fun _ => ⟨fun _ J8 e8 z11 h11 J13 e13' => ?_, fun q => absurd ((F1 1000 11 (by omega)).symm.trans q) (by rw [e11]; exact hw)⟩, fun q => absurd q (by decide)⟩
  have e814 : J8 1000 14 = n := by subst e8; rw [u2x (by decide), F1 _ _ (by omega)]; exact e14
  rw [e814] at h11 e13'
  have h11' := h11.symm
  clear h11
  subst h11'
  have F13 : ∀ b x, ¬ (b = 1000 ∧ (x = 0 ∨ x = 36 ∨ x = 43)) → J13 b x = J b x := fun b x q => by subst e13'; rw [u2n (by omega)]; subst e8; rw [u2n (by omega)]; exact F1 b x (by omega)
  have z13 : J13 1000 0 = 0 := by subst e13'; rw [u2x (by decide)]; subst e8; rw [u2x (by decide)]; exact z1
  have s13 : J13 1000 43 = a := by subst e13'; rw [u2x (by decide)]; subst e8; exact u2e
  have er13 : mr J13 1015 = mr J 1015 := mr_fr (fun b x q1 q2 => F13 b x (by omega))
  refine m_save (by rw [F13 _ _ (by omega)]; exact e14) n0 n1 (fun J14 f14 s14 => ?_)
  rw [er13] at s14
  have er14 : mr J14 1015 = mr J 1015 := by rw [← er13]; exact mr_fr (fun b x q1 q2 => f14 b x (by omega))
  refine m_filter (ρ := mr J 1015) (by rw [f14 _ _ (by omega), F13 _ _ (by omega)]; exact e14) n0 n1 (fun i i0 i1 => by rw [er14]; exact e9_r) (fun J15 f15 g15 r15 => ?_)
  generalize hnf : (fl (mr J 1015) n.toNat).1 = nf at *
  generalize hσ : (fl (mr J 1015) n.toNat).2 = σ at *
  have gσ : gp (w * h) nf σ := fun i i0 i1 => (fg i i0 i1).1
  have goD := mkD_go (M := w * h) (s := a) (nf := nf) (σ := σ) k1 k5
  have hTI : ∀ c, 0 ≤ c → c < w * h → fnd (mkD (w * h) k a nf σ) = 1 → TI (w * h) nf (w * h).toNat c (nf + w * h, fam σ nf ((mkD (w * h) k a nf σ).2.2.2.2 0)) := fun c c0 c1 hd => mk_TI hM k1 k5 fb.1 h40 fg hd c0 c1
  have hD' : dfs (sPr 1 k nf (-1) σ (fun _ => 0) (fiS (w * h) k a)) (w * h).toNat 0 st0 = mkD (w * h) k a nf σ := rfl
  generalize hD : mkD (w * h) k a nf σ = D at *
  refine m_prep (Or.inl rfl) (fun J16 f16 p16 => ⟨26, ?_⟩)
  -- all that is known of the state before the draws
  have F16 : ∀ b x, ¬ jM b x → ¬ (b = 1000 ∧ (x = 0 ∨ x = 36)) → J16 b x = J b x := fun b x q1 q2 => by
    rw [f16 b x (by unfold jM at q1; omega), f15 b x (by unfold jM at q1; omega) (by unfold jM at q1; omega), f14 b x (by unfold jM at q1; omega)]; exact F13 b x (by unfold jM at q1; omega)
  have z16 : J16 1000 0 = 0 := by rw [f16 _ _ (by omega), f15 _ _ (by omega) (by omega), f14 _ _ (by omega)]; exact z13
  have s16 : J16 1000 43 = a := by rw [f16 _ _ (by omega), f15 _ _ (by omega) (by omega), f14 _ _ (by omega)]; exact s13
  have n16 : J16 1000 14 = nf := by rw [f16 _ _ (by omega)]; exact g15
  have r16 : ∀ i, 0 ≤ i → i < nf → e9 (mr J16 1015 i) (σ i) := fun i i0 i1 => by rw [mr_fr (J0 := J15) (J := J16) (b := 1015) (fun b x q1 q2 => f16 b x (by omega))]; exact r15 i i0 i1
  have sv16 : ∀ i, 0 ≤ i → i < n → e9 (mr J16 1037 i) (mr J 1015 i) := fun i i0 i1 => by
    have e : mr J16 1037 = mr J14 1037 := mr_fr (fun b x q1 q2 => by rw [f16 b x (by omega)]; exact f15 b x (by omega) (by omega))
    rw [e]; exact s14 i i0 i1
  have L : ∀ (m : Nat) (x : Nat) (J' : cI), (x : Int) ≤ w * h → w * h - x < m → (∀ b y, b ≠ 1022 → ¬ (b = 1000 ∧ y = 43) → J' b y = J16 b y) → J' 1000 43 = dit a x → (∀ c : Int, 0 ≤ c → c < x → J' 1022 c = fiS (w * h) k a c - 1) → wX12_make_194 Q a m n x J' := by
    intro m
    induction m with
    | zero => intro x J' x0 x1; omega
    | succ m ih =>
      intro x J' x0 x1 v1 v43 v22
      show wbX12_make_194 Q a (wX12_make_194 Q a m) n x J'
      unfold wbX12_make_194 wX12_cells
      have G : ∀ b y, ¬ jM b y → ¬ (b = 1000 ∧ (y = 0 ∨ y = 36)) → J' b y = J b y := fun b y q1 q2 => by rw [v1 b y (by unfold jM at q1; omega) (by unfold jM at q1; omega)]; exact F16 b y q1 q2
      have cM : J' 1000 11 * J' 1000 12 = w * h := by rw [G 1000 11 (by unfold jM; omega) (by omega), G 1000 12 (by unfold jM; omega) (by omega)]; exact eM
      have n' : J' 1000 14 = nf := by rw [v1 _ _ (by omega) (by omega)]; exact n16
      have er' : mr J' 1015 = mr J16 1015 := mr_fr (fun b y q1 q2 => v1 b y (by omega) (by omega))
      rw [cM]
      refine ⟨by unfold inR; omega, fun c => ?_, fun c => ?_⟩
      · have ex : x = (w * h).toNat := by omega
        have gmr : gp (w * h) nf (mr J' 1015) := by rw [er']; exact gp_e (fun i i0 i1 => e9_s (r16 i i0 i1)) gσ
        have mb : mB J' (w * h) nf (-1) (sPr 1 k nf (-1) σ (fun _ => 0) (fiS (w * h) k a)) :=
          ⟨cM, by rw [G 1000 13 (by unfold jM; omega) (by omega)]; exact e13, n', gmr, fb.1, by omega, by omega, hb.2, fun y y0 y1 => by rw [v1 _ _ (by omega) (by omega)]; have := (p16 y y0 (by omega)).2; rw [if_pos rfl] at this; exact this, fun y y0 y1 => v22 y y0 (by omega), fun y v => am_e gσ (fun i i0 i1 => by rw [er']; exact e9_s (r16 i i0 i1))⟩
        have rr := (fnd_b goD (M := (w * h).toNat) (by omega)).2.2.2
        refine m_look mb goD (fun J6 f6 t6 s6 => ?_)
        rw [hD'] at s6 rr ⊢
        have G6 : ∀ b y, ¬ jM b y → ¬ (b = 1000 ∧ (y = 0 ∨ y = 36)) → J6 b y = J b y := fun b y q1 q2 => by rw [f6 b y (by unfold jM at q1; omega)]; exact G b y q1 q2
        have er6 : mr J6 1015 = mr J16 1015 := by rw [← er']; exact mr_fr (fun b y q1 q2 => f6 b y (by omega))
        have z6 : J6 1000 0 = 0 := by rw [f6 _ _ (by omega), v1 _ _ (by omega) (by omega)]; exact z16
        have s643 : J6 1000 43 = dit a (w * h).toNat := by rw [f6 _ _ (by omega), v43, ex]
        have n6 : J6 1000 14 = nf := by rw [f6 _ _ (by omega)]; exact n'
        refine ⟨fun r f10 e10 => ?_, fun r J13' e13'' => ?_⟩
        · have hd : fnd D = 1 := rr.mp r
          rw [e10]
          clear ih
          refine m_made (M := w * h) (nf := nf) (sol := D.2.2.2.2 0) (by rw [G6 1000 11 (by unfold jM; omega) (by omega), G6 1000 12 (by unfold jM; omega) (by omega)]; exact eM) (by omega) hb.2 n6 (fun c c0 c1 => ?_) (fun f0 J2 hf g1 gg => ?_)
          · have := s6 0 c (Int.le_refl 0) (by omega) c0 c1
            rw [show 25 * 0 + c = c by omega] at this
            exact this
          · refine m_givens (M := w * h) (sol := D.2.2.2.2 0) (σ := σ) (by rw [g1 _ _ (by decide), g1 _ _ (by decide), G6 1000 11 (by unfold jM; omega) (by omega), G6 1000 12 (by unfold jM; omega) (by omega)]; exact eM) (by omega) hb.2 fb.1 h40 (by rw [g1 _ _ (by decide)]; exact n6) (fun i i0 i1 => by rw [mr_fr (J0 := J6) (J := J2) (b := 1015) (fun b u q1 q2 => g1 b u (by omega)), er6]; exact r16 i i0 i1) hf (fun J3 h1 h14 hr' => ?_)
            have db := dit_b a0 (by omega) (w * h).toNat
            have m0 := Int.emod_nonneg (dw (dit a (w * h).toNat) / 16) (show w * h ≠ 0 by omega)
            have m1 := Int.emod_lt_of_pos (dw (dit a (w * h).toNat) / 16) (show 0 < w * h by omega)
            have G3 : ∀ b u, ¬ jM b u → b ≠ 1020 → ¬ (b = 1000 ∧ (u = 0 ∨ u = 36)) → J3 b u = J b u := fun b u w1 w2 w3 => by rw [h1 b u (by unfold jM at w1; omega) (by unfold jM at w1; omega), g1 b u w2]; exact G6 b u w1 w3
            refine m_thin (S := (nf + w * h, fam σ nf (D.2.2.2.2 0))) (by rw [G3 1000 11 (by unfold jM; omega) (by decide) (by omega)]; exact e11) (by rw [G3 1000 12 (by unfold jM; omega) (by decide) (by omega)]; exact e12) (by rw [G3 1000 13 (by unfold jM; omega) (by decide) (by omega)]; exact e13) h14 hM k1 k5 (by rw [h1 _ _ (by omega) (by omega), g1 _ _ (by decide)]; exact s643) db.1 db.2 hr' (hTI _ m0 m1 hd) (fun J4 q1 q2 q3 J9 e9' => ?_)
            exact hQ1 hd _ rfl J4 (fun b u w1 w2 w3 => by rw [q1 b u w1]; exact G3 b u w1 w2 w3) (by rw [q1 _ _ (by unfold jM; omega), h1 _ _ (by omega) (by omega), g1 _ _ (by decide)]; exact z6) q2 q3 (fun c c0 c1 => by rw [q1 _ _ (by unfold jM; omega), h1 _ _ (by omega) (by omega)]; exact gg c c0 c1) J9 e9'
        · have nd : ¬ fnd D = 1 := fun q => r (rr.mpr q)
          clear ih
          refine m_restore (ρ := mr J 1015) n0 n1 (fun i i0 i1 => ?_) (fun J2 g1 gg => hQ0 nd J2 (fun b u w1 w2 => ?_) ?_ ?_ gg)
          · have e : mr J13' 1037 = mr J16 1037 := mr_fr (fun b u q1 q2 => by rw [e13'', u2n (by omega), f6 b u (by omega)]; exact v1 b u (by omega) (by omega))
            rw [e]; exact sv16 i i0 i1
          · rw [g1 b u (by unfold jM at w1; omega), e13'', u2n (by unfold jM at w1; omega)]; exact G6 b u w1 w2
          · rw [g1 _ _ (by omega), e13'', u2x (by decide)]; exact z6
          · rw [g1 _ _ (by omega), e13'']; exact u2e
      · have db := dit_b a0 (by omega) x
        refine m_drawn v43 db.1 db.2 (fun J18 f18 g18 => ?_)
        have k18 : J18 1000 13 = k := by rw [f18 _ _ (by omega), G 1000 13 (by unfold jM; omega) (by omega)]; exact e13
        have dd := dw_b (dit a x)
        have m0 := Int.emod_nonneg (dw (dit a x) / 16) (show k ≠ 0 by omega)
        have m1 := Int.emod_lt_of_pos (dw (dit a x) / 16) (show 0 < k by omega)
        rw [k18]
        refine ⟨⟨by omega, by omega⟩, by unfold inR; omega, by omega, fun J24 e24 => ⟨by unfold inR; omega, fun z hz => ?_⟩⟩
        have ez : z = ((x + 1 : Nat) : Int) := by omega
        rw [ez]
        refine ih (x + 1) J24 (by omega) (by omega) (fun b u w1 w2 => by subst e24; rw [u2a w1, f18 _ _ w2]; exact v1 b u w1 w2) (by subst e24; rw [u2a (by decide)]; exact g18) (fun c c0 c1 => ?_)
        subst e24
        by_cases ec : c = x
        · subst ec
          rw [u2e]
          unfold fiS
          rw [if_pos ⟨by omega, by omega⟩, show ((x : Int).toNat + 1) = x + 1 by omega]
          show _ = 1 + dw (dit a x) / 16 % k - 1
          omega
        · rw [u2x ec, f18 _ _ (by omega)]; exact v22 c c0 (by omega)
  exact L 26 0 J16 (by omega) (by omega) (fun _ _ _ _ => rfl) s16 (fun c c0 c1 => by omega)
end MM2
