/-! ===== make: the step ===== -/
section ST8
variable {I : cI} {R : cR} {J : cI}
theorem st_make {a : Int} (h : INV I R J) : wX11_make a I R (okN (wX12_make a J)) (okX (xf 2 1 0) (wX12_make a J)) := by
  have h0 := INV_0 (v := 0) h
  have hb := vM_b h.2.1
  have hs := h.2.1.1
  have hn := h.2.1.2
  have hk := INV_k h
  have e11 : up2 J 1000 0 0 1000 11 = J 1000 11 := u2x (by decide)
  have no : ¬ (0 ≤ a ∧ a ≤ 65535) → okX (xf 2 1 0) (wX12_make a J) 1 I R := fun n => ⟨by decide, fun J1 e1 => m_isIn (by
    subst e1
    rw [b2_f n]
    exact ⟨fun w => absurd rfl w, fun _ => m_no ⟨u2e, INV_0 h0⟩⟩)⟩
  unfold wX11_make wX11_make_10
  refine ⟨fun e => no (by omega), fun e => ⟨fun e2 => c_reqPuzzle h (fun hw => ?_) (fun hw => ⟨by decide, fun J1 e1 => m_isIn ?_⟩), fun e2 => no (by omega)⟩⟩
  · have w2 : 2 ≤ J 1000 11 ∧ J 1000 11 ≤ 5 ∧ 2 ≤ J 1000 12 ∧ J 1000 12 ≤ 5 ∧ 2 ≤ J 1000 13 ∧ J 1000 13 ≤ 5 := by omega
    have hM : okM (J 1000 11 * J 1000 12) := okM_w w2.1 w2.2.1 w2.2.2.1 w2.2.2.2.1
    have hg : gp (J 1000 11 * J 1000 12) (J 1000 14) (mr J 1015) := h.2.1.2.2.2.1
    have hbM := okM_b hM
    have fb := fl_b (ρ := mr J 1015) (J 1000 14).toNat
    have fg := fl_gp hg (J 1000 14).toNat (by have := hn.1; omega)
    have h40 : (fl (mr J 1015) (J 1000 14).toNat).1 ≤ 40 := by
      rw [fl_c, Int.toNat_of_nonneg hn.1]; exact hn.2.2.2
    have hp7 : R 0 7 = 85 ∨ R 0 7 = 89 := h.1.1.1
    have hp8 : R 0 8 = 85 ∨ R 0 8 = 89 := h.1.2.1.1
    have hne := h.1.2.2.1
    refine c_giveAll (w := J 1000 11) (h := J 1000 12) (k := J 1000 13) (n := J 1000 14) (ρ := mr J 1015) h.1.2.1 h.1.1 (Ne.symm hne) h.1.2.2.2.1 h.1.2.2.2.2.1 h.1.2.2.2.2.2.1 h.1.2.2.2.2.2.2.1 hn.1 hn.2.1 hM (by omega) w2.2.2.2.2.2 h.1.2.2.2.2.2.2.2.1 hg (by omega) (by omega) h40
      (fun nd I' R' op oa r0 f1 va => ⟨fun w => absurd rfl w, fun _ => ?_⟩) (fun hd I1 R1 op oa r0 f1 e83 q0 q1 q2 q5 vp qz => ⟨fun _ => ?_, fun w => absurd w (by decide)⟩)
    · refine m_make rfl rfl rfl rfl hw hM (by omega) w2.2.2.2.2.2 hn.1 hn.2.1 (by omega) e2 hg h40 (fun _ J' g1 gz g14 gr' => ⟨gz, rfl, ?_⟩) (fun hd => absurd hd nd)
      have gp' : gp (J 1000 11 * J 1000 12) (J 1000 14) (mr J' 1015) := gp_e (fun i i0 i1 => e9_s (gr' i i0 i1)) hg
      obtain ⟨p, v, s, t, w, k, x⟩ := h
      have j11 : J' 1000 11 = J 1000 11 := g1 _ _ (by unfold jM; omega) (by omega)
      have j12 : J' 1000 12 = J 1000 12 := g1 _ _ (by unfold jM; omega) (by omega)
      have j13 : J' 1000 13 = J 1000 13 := g1 _ _ (by unfold jM; omega) (by omega)
      have eM' : vM J' = vM J := by unfold vM; rw [j11, j12]
      have e7 : R' 0 7 = R 0 7 := by rw [r0]
      have e8 : R' 0 8 = R 0 8 := by rw [r0]
      refine ⟨?_, ?_,
        iS_fr s (fun y => f1 _ _ (by omega)) (fun y => f1 _ _ (by omega)) (f1 _ _ (by omega)) (f1 _ _ (by omega)) (fun y => g1 _ _ (by unfold jM; omega) (by omega)) (g1 _ _ (by unfold jM; omega) (by omega)) (g1 _ _ (by unfold jM; omega) (by omega)),
        iT_fr t (fun y => f1 _ _ (by omega)) (f1 _ _ (by omega)) (fun y => g1 _ _ (by unfold jM; omega) (by omega)) (g1 _ _ (by unfold jM; omega) (by omega)),
        iW_fr w (fun y => f1 _ _ (by omega)) (f1 _ _ (by omega)) (fun y => g1 _ _ (by unfold jM; omega) (by omega)) (g1 _ _ (by unfold jM; omega) (by omega)),
        iK_fr k (fun b y z1 z2 => f1 _ _ (by omega)) (f1 _ _ (by omega)) (f1 _ _ (by omega)) (fun y => g1 _ _ (by unfold jM; omega) (by omega)) (g1 _ _ (by unfold jM; omega) (by omega)) (g1 _ _ (by unfold jM; omega) (by omega)) eM',
        iE_fr x (f1 _ _ (by omega)) (g1 _ _ (by unfold jM; omega) (by omega))⟩
      · obtain ⟨a1, a2, a3, a4, a5, a6, a7, a8, a9⟩ := p
        unfold iP
        rw [e7, e8, j11, j12, j13, g14]
        refine ⟨oa, op, a3, ?_, ?_, ?_, ?_, pv_e hg (fun i i0 i1 => e9_s (gr' i i0 i1)) va, fun c c0 c1 => ?_⟩
        · rw [f1 _ _ (by omega)]; exact a4
        · rw [f1 _ _ (by omega)]; exact a5
        · rw [f1 _ _ (by omega)]; exact a6
        · rw [f1 _ _ (by omega)]; exact a7
        · rw [f1 _ _ (by omega), g1 1020 c (by unfold jM; omega) (by omega)]; exact a9 c c0 c1
      · unfold vP at v ⊢
        rw [j11, j12, j13, g14, eM']
        refine ⟨v.1, v.2.1, v.2.2.1, gp', ?_⟩
        rw [cF_cg (q := fun i => ¬ mr J 1015 i 0 = 9) (fun i i0 i1 => by rw [gr' i i0 i1 0 (by decide) (by decide) (Or.inl (by decide))])]
        exact v.2.2.2.2
    · have e7 : R1 0 7 = R 0 7 := by rw [r0]
      have e8 : R1 0 8 = R 0 8 := by rw [r0]
      have db := dit_b (s := a) (by omega) (by omega) (J 1000 11 * J 1000 12).toNat
      have dd := dw_b (dit a (J 1000 11 * J 1000 12).toNat)
      have m0 := Int.emod_nonneg (dw (dit a (J 1000 11 * J 1000 12).toNat) / 16) (show J 1000 11 * J 1000 12 ≠ 0 by omega)
      have m1 := Int.emod_lt_of_pos (dw (dit a (J 1000 11 * J 1000 12).toNat) / 16) (show 0 < J 1000 11 * J 1000 12 by omega)
      have T0 := mk_TI hM (show 1 ≤ J 1000 13 by omega) w2.2.2.2.2.2 fb.1 h40 fg hd m0 m1
      have Tn := TI_n (h := J 1000 13) hM _ _ _ T0
      rw [e8]
      refine c_thin (p := R 0 8) (w := J 1000 11) (h := J 1000 12) (k := J 1000 13) (S := ((fl (mr J 1015) (J 1000 14).toNat).1 + J 1000 11 * J 1000 12, fam (fl (mr J 1015) (J 1000 14).toNat).2 (fl (mr J 1015) (J 1000 14).toNat).1 ((mkD (J 1000 11 * J 1000 12) (J 1000 13) a (fl (mr J 1015) (J 1000 14).toNat).1 (fl (mr J 1015) (J 1000 14).toNat).2).2.2.2.2 0))) (f := (fl (mr J 1015) (J 1000 14).toNat).1) op q0 q1 q2 q5 hM (by omega) w2.2.2.2.2.2 e83 db.1 db.2 vp T0 (fun I2 R2 op2 g2 g1 p5 vp2 => ?_)
      generalize hS : thn (J 1000 11 * J 1000 12) (J 1000 13) (fl (mr J 1015) (J 1000 14).toNat).1 (J 1000 11 * J 1000 12).toNat (dw (dit a (J 1000 11 * J 1000 12).toNat) / 16 % (J 1000 11 * J 1000 12)) ((fl (mr J 1015) (J 1000 14).toNat).1 + J 1000 11 * J 1000 12, fam (fl (mr J 1015) (J 1000 14).toNat).2 (fl (mr J 1015) (J 1000 14).toNat).1 ((mkD (J 1000 11 * J 1000 12) (J 1000 13) a (fl (mr J 1015) (J 1000 14).toNat).1 (fl (mr J 1015) (J 1000 14).toNat).2).2.2.2.2 0)) = S at *
      obtain ⟨c', T, -⟩ := Tn
      obtain ⟨t1, t2, t3, t4, t5, t6, t7, t8, t9, t10, t11⟩ := T
      have e27 : R2 0 7 = R 0 7 := by rw [g2 0 7 (by omega)]; exact e7
      have e28 : R2 0 8 = R 0 8 := by rw [g2 0 8 (by omega)]; exact e8
      have oa2 : okp R2 (R 0 7) := okp_fr oa (fun j => g2 _ _ (by omega))
      have i0' : I2 (R 0 8) 0 = J 1000 11 := by rw [g1 _ _ (by omega) (by omega) (by omega)]; exact q0
      have i1' : I2 (R 0 8) 1 = J 1000 12 := by rw [g1 _ _ (by omega) (by omega) (by omega)]; exact q1
      have i2' : I2 (R 0 8) 2 = J 1000 13 := by rw [g1 _ _ (by omega) (by omega) (by omega)]; exact q2
      have ig : ∀ c, 0 ≤ c → c < 25 → I2 (R 0 8 + 1) c = 0 := fun c c0 c1 => by rw [g1 _ _ (by omega) (by omega) (by omega)]; exact qz c c0 c1
      refine c_take (M := J 1000 11 * J 1000 12) (k := J 1000 13) (by rw [e28]; exact h.1.2.1.1) (by rw [e28, i0', i1']) (by omega) hbM.2 (by rw [e28]; exact i2') hk.1 hk.2 (fun c c0 c1 => by rw [e28, ig c c0 (by omega)]; omega) (fun I' z1 z2 z3 z4 z5 => ?_)
      rw [sw_7, e28]
      have n5 : I' (R 0 8) 5 = S.1 := by rw [z1 _ _ (by omega) (by omega) (by omega)]; exact p5
      have vp3 : pv I' (sw R2) (R 0 8) S.1 S.2 := pv_sw op2 t3 (pv_fr op2 t3 (fun b x y => z1 _ _ (by omega) (by omega) (by omega)) vp2)
      refine c_givens (ρ := S.2) (by rw [n5]; omega) (by rw [n5]; exact vp3) ?_
      rw [n5]
      refine m_make rfl rfl rfl rfl hw hM (by omega) w2.2.2.2.2.2 hn.1 hn.2.1 (by omega) e2 hg h40 (fun nd => absurd hd nd) (fun _ S' hS' J2 k1 kz k14 kr kg J3 e3 => ?_)
      rw [hS] at hS'
      subst hS'
      have j11 : J2 1000 11 = J 1000 11 := k1 _ _ (by unfold jM; omega) (by decide) (by omega)
      have j12 : J2 1000 12 = J 1000 12 := k1 _ _ (by unfold jM; omega) (by decide) (by omega)
      have j13 : J2 1000 13 = J 1000 13 := k1 _ _ (by unfold jM; omega) (by decide) (by omega)
      have eM2 : vM J2 = vM J := by unfold vM; rw [j11, j12]
      have eMv : vM J = J 1000 11 * J 1000 12 := rfl
      have gp2 : gp (vM J) S'.1 (mr J2 1015) := gp_e (fun i i0 i1 => e9_s (kr i i0 i1)) t4
      have ip2 : iP I2 (sw R2) J2 := by
        unfold iP
        rw [sw_7, sw_8, e27, e28, j11, j12, j13, k14]
        refine ⟨okp_sw op2, okp_sw oa2, Ne.symm hne, i0', i1', i2', p5, pv_sw op2 t3 (pv_e t4 (fun i i0 i1 => e9_s (kr i i0 i1)) vp2), fun c c0 c1 => ?_⟩
        rw [ig c c0 c1, kg c c0 c1]
        exact ⟨rfl, Int.le_refl 0, hk.1⟩
      have vp2' : vP J2 := by
        unfold vP
        rw [j11, j12, j13, k14, eM2]
        refine ⟨Or.inr (by omega), by omega, t3, gp2, ?_⟩
        rw [cF_cg (q := fun i => ¬ S'.2 i 0 = 9) (fun i i0 i1 => by rw [kr i i0 i1 0 (by decide) (by decide) (Or.inl (by decide))])]
        unfold cF
        rw [sF_split (n := S'.1) (r := (fl (mr J 1015) (J 1000 14).toNat).1) t2 0 t1]
        have c1 := cF_b (p := fun i => ¬ S'.2 i 0 = 9) (n := (fl (mr J 1015) (J 1000 14).toNat).1) 0 t1
        have c2 := (cF_0 (p := fun i => ¬ S'.2 i 0 = 9) (n := S'.1) (fl (mr J 1015) (J 1000 14).toNat).1).mpr (fun ⟨i, i0, i1, q⟩ => q (t6 i i0 i1).1)
        unfold cF at c1 c2
        omega
      obtain ⟨p, v, s, t', w, k, x⟩ := h
      have f2 : ∀ b x, (b < 45 ∨ (80 ≤ b ∧ b < 83)) → I2 b x = I b x := fun b x q => by rw [g1 _ _ (by omega) (by omega) (by omega)]; exact f1 b x q
      have fin : ∀ J', (∀ a x, a ≠ 1030 → ¬ (a = 1000 ∧ (x = 31 ∨ x = 32)) → J' a x = J3 a x) → J' 1000 31 = 0 → J' 1000 32 = 0 → (∀ c, J' 1030 c = lkS (J3 1030) (vM J3) (J3 1000 13) (J3 1020) c) → INV I' (sw R2) J' := fun J' l1 l2 l3 l4 =>
        take_inv ip2 vp2' (iS_fr s (fun y => f2 _ _ (by omega)) (fun y => f2 _ _ (by omega)) (f2 _ _ (by omega)) (f2 _ _ (by omega)) (fun y => k1 _ _ (by unfold jM; omega) (by omega) (by omega)) (k1 _ _ (by unfold jM; omega) (by omega) (by omega)) (k1 _ _ (by unfold jM; omega) (by omega) (by omega)))
          (iT_fr t' (fun y => f2 _ _ (by omega)) (f2 _ _ (by omega)) (fun y => k1 _ _ (by unfold jM; omega) (by omega) (by omega)) (k1 _ _ (by unfold jM; omega) (by omega) (by omega)))
          (iW_fr w (fun y => f2 _ _ (by omega)) (f2 _ _ (by omega)) (fun y => k1 _ _ (by unfold jM; omega) (by omega) (by omega)) (k1 _ _ (by unfold jM; omega) (by omega) (by omega)))
          (by rw [f2 _ _ (by omega), k1 _ _ (by unfold jM; omega) (by omega) (by omega)]; exact k.2.2.2.1) (iE_fr x (f2 _ _ (by omega)) (k1 _ _ (by unfold jM; omega) (by omega) (by omega)))
          z1 z2 z3 z4 (by rw [eM2, eMv, j13, e28]; rw [e28] at z5; exact z5) e3 l1 l2 l3 l4
      have e3x : ∀ x, x ≠ 28 → J3 1000 x = J2 1000 x := fun x hx => by subst e3; exact u2x hx
      have e3a : ∀ b x, b ≠ 1000 → J3 b x = J2 b x := fun b x hx => by subst e3; exact u2a hx
      have eM3 : vM J3 = vM J2 := by unfold vM; rw [e3x 11 (by decide), e3x 12 (by decide)]
      refine m_lookAnew (M := vM J3) (k := J3 1000 13) rfl (by rw [eM3, eM2]; exact hb.1) (by rw [eM3, eM2]; exact hb.2.1) rfl (by rw [e3x 13 (by decide), j13]; exact hk.1) (by rw [e3x 13 (by decide), j13]; exact hk.2) (fun c c0 c1 => by rw [eM3, eM2] at c1; rw [e3a _ _ (by decide), e3x 13 (by decide), j13, kg c c0 (by omega)]; omega) (fun J' l1 l2 l3 l4 => ?_)
      have l14 : J' 1000 14 = S'.1 := by rw [l1 _ _ (by decide) (by omega), e3x 14 (by decide)]; exact k14
      have lr : mr J' 1015 = mr J2 1015 := mr_fr (fun b x q1 q2 => by rw [l1 _ _ (by omega) (by omega)]; exact e3a _ _ (by omega))
      refine m_rulesIs (by rw [l14]; omega) ⟨by rw [l1 _ _ (by decide) (by omega), e3x 0 (by decide)]; exact kz, ?_, fin J' l1 l2 l3 l4⟩
      rw [l14, lr]
      exact cF_cg (fun i i0 i1 => by rw [kr i i0 i1 0 (by decide) (by decide) (Or.inl (by decide))])
  · subst e1
    rw [b2_t (by omega)]
    exact ⟨fun _ => ⟨fun w => absurd (e11.trans hw) w, fun _ => m_no ⟨u2e, INV_0 h0⟩⟩, fun w => absurd w (by decide)⟩
end ST8
