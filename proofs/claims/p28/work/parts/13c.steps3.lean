/-! ===== make and change, the class alone ===== -/
/-- the rules before the givens, the search of a making and what thinning leaves -/
noncomputable def mkF (J : cI) : Int × (Int → Int → Int) := fl (mr J 1015) (J 1000 14).toNat
noncomputable def mkE (J : cI) (a : Int) : Int × sT := mkD (vM J) (J 1000 13) a (mkF J).1 (mkF J).2
noncomputable def mkS (J : cI) (a : Int) : tS := thn (vM J) (J 1000 13) (mkF J).1 (vM J).toNat (dw (dit a (vM J).toNat) / 16 % vM J) ((mkF J).1 + vM J, fam (mkF J).2 (mkF J).1 ((mkE J a).2.2.2.2 0))
section KMK
variable {I : cI} {R : cR} {J : cI}
theorem k_make {a : Int} {Q : Int → cI → cR → Prop} {Qx : Nat → cI → cR → Prop} (h : INV I R J) (hw : J 1000 11 ≠ 0) (a0 : 0 ≤ a) (a1 : a ≤ 65535)
    (hQ0 : ¬ fnd (mkE J a) = 1 → ∀ I' R', INV I' R' J → Q (-1) I' R')
    (hQ1 : fnd (mkE J a) = 1 → ∀ I' R', (∃ c, TI (vM J) (mkF J).1 0 c (mkS J a)) → INV I' R' (jT (jG J (J 1000 11) (J 1000 12) (J 1000 13) (mkS J a).1 (mkS J a).2 (fun _ => 0))) → Q (cF (fun i => (mkS J a).2 i 0 = 9) 0 (mkS J a).1) I' R') : wX11_make a I R Q Qx := by
  have hb := vM_b h.2.1
  have hs := h.2.1.1
  have hn := h.2.1.2
  have hk := INV_k h
  unfold wX11_make
  refine ⟨fun e => absurd a0 (by omega), fun e => ⟨fun e2 => c_reqPuzzle h (fun hw => ?_) (fun q => absurd q hw), fun e2 => absurd a1 e2⟩⟩
  have w2 : 2 ≤ J 1000 11 ∧ J 1000 11 ≤ 5 ∧ 2 ≤ J 1000 12 ∧ J 1000 12 ≤ 5 ∧ 2 ≤ J 1000 13 ∧ J 1000 13 ≤ 5 := by omega
  have hM : okM (J 1000 11 * J 1000 12) := okM_w w2.1 w2.2.1 w2.2.2.1 w2.2.2.2.1
  have hg : gp (J 1000 11 * J 1000 12) (J 1000 14) (mr J 1015) := h.2.1.2.2.2.1
  have hbM := okM_b hM
  have fb := fl_b (ρ := mr J 1015) (J 1000 14).toNat
  have fg := fl_gp hg (J 1000 14).toNat (by have := hn.1; omega)
  have h40 : (fl (mr J 1015) (J 1000 14).toNat).1 ≤ 40 := by
    rw [fl_c, Int.toNat_of_nonneg hn.1]; exact hn.2.2.2
  have hp7 : R 0 7 = 85 ∨ R 0 7 = 89 := h.1.1.1
  have hp8 : R 0 8 = 85 ∨ R 0 8 = 89 := h.1.2.1.1
  have hne := h.1.2.2.1
  refine c_giveAll (w := J 1000 11) (h := J 1000 12) (k := J 1000 13) (n := J 1000 14) (ρ := mr J 1015) h.1.2.1 h.1.1 (Ne.symm hne) h.1.2.2.2.1 h.1.2.2.2.2.1 h.1.2.2.2.2.2.1 h.1.2.2.2.2.2.2.1 hn.1 hn.2.1 hM (by omega) w2.2.2.2.2.2 h.1.2.2.2.2.2.2.2.1 hg (by omega) (by omega) h40
    (fun nd I' R' op oa r0 f1 va => ⟨fun w => absurd rfl w, fun _ => ?_⟩) (fun hd I1 R1 op oa r0 f1 e83 q0 q1 q2 q5 vp qz => ⟨fun _ => ?_, fun w => absurd w (by decide)⟩)
  · refine hQ0 nd I' R' ?_
    obtain ⟨p, v, s, t, w, k, x⟩ := h
    have e7 : R' 0 7 = R 0 7 := by rw [r0]
    have e8 : R' 0 8 = R 0 8 := by rw [r0]
    refine ⟨?_, v,
      iS_fr s (fun y => f1 _ _ (by omega)) (fun y => f1 _ _ (by omega)) (f1 _ _ (by omega)) (f1 _ _ (by omega)) (fun y => rfl) rfl rfl,
      iT_fr t (fun y => f1 _ _ (by omega)) (f1 _ _ (by omega)) (fun y => rfl) rfl,
      iW_fr w (fun y => f1 _ _ (by omega)) (f1 _ _ (by omega)) (fun y => rfl) rfl,
      iK_fr k (fun b y z1 z2 => f1 _ _ (by omega)) (f1 _ _ (by omega)) (f1 _ _ (by omega)) (fun y => rfl) rfl rfl rfl,
      iE_fr x (f1 _ _ (by omega)) rfl⟩
    obtain ⟨a1, a2, a3, a4, a5, a6, a7, a8, a9⟩ := p
    unfold iP
    rw [e7, e8]
    refine ⟨oa, op, a3, ?_, ?_, ?_, ?_, va, fun c c0 c1 => ?_⟩
    · rw [f1 _ _ (by omega)]; exact a4
    · rw [f1 _ _ (by omega)]; exact a5
    · rw [f1 _ _ (by omega)]; exact a6
    · rw [f1 _ _ (by omega)]; exact a7
    · rw [f1 _ _ (by omega)]; exact a9 c c0 c1
  · have e7 : R1 0 7 = R 0 7 := by rw [r0]
    have e8 : R1 0 8 = R 0 8 := by rw [r0]
    have db := dit_b (s := a) (by omega) (by omega) (J 1000 11 * J 1000 12).toNat
    have dd := dw_b (dit a (J 1000 11 * J 1000 12).toNat)
    have m0 := Int.emod_nonneg (dw (dit a (J 1000 11 * J 1000 12).toNat) / 16) (show J 1000 11 * J 1000 12 ≠ 0 by omega)
    have m1 := Int.emod_lt_of_pos (dw (dit a (J 1000 11 * J 1000 12).toNat) / 16) (show 0 < J 1000 11 * J 1000 12 by omega)
    have T0 := mk_TI hM (show 1 ≤ J 1000 13 by omega) w2.2.2.2.2.2 fb.1 h40 fg hd m0 m1
    have Tn := TI_n (h := J 1000 13) hM _ _ _ T0
    rw [e8]
    refine c_thin (p := R 0 8) (w := J 1000 11) (h := J 1000 12) (k := J 1000 13) (S := ((fl (mr J 1015) (J 1000 14).toNat).1 + J 1000 11 * J 1000 12, fam (fl (mr J 1015) (J 1000 14).toNat).2 (fl (mr J 1015) (J 1000 14).toNat).1 ((mkD (J 1000 11 * J 1000 12) (J 1000 13) a (fl (mr J 1015) (J 1000 14).toNat).1 (fl (mr J 1015) (J 1000 14).toNat).2).2.2.2.2 0))) (f := (fl (mr J 1015) (J 1000 14).toNat).1) op q0 q1 q2 q5 hM (by omega) w2.2.2.2.2.2 e83 db.1 db.2 vp T0 (fun I2 R2 op2 g2 g1 p5 vp2 => ?_)
    have hQ1' := hQ1 hd
    have eS : mkS J a = thn (J 1000 11 * J 1000 12) (J 1000 13) (fl (mr J 1015) (J 1000 14).toNat).1 (J 1000 11 * J 1000 12).toNat (dw (dit a (J 1000 11 * J 1000 12).toNat) / 16 % (J 1000 11 * J 1000 12)) ((fl (mr J 1015) (J 1000 14).toNat).1 + J 1000 11 * J 1000 12, fam (fl (mr J 1015) (J 1000 14).toNat).2 (fl (mr J 1015) (J 1000 14).toNat).1 ((mkD (J 1000 11 * J 1000 12) (J 1000 13) a (fl (mr J 1015) (J 1000 14).toNat).1 (fl (mr J 1015) (J 1000 14).toNat).2).2.2.2.2 0)) := rfl
    rw [eS] at hQ1'
    generalize hS : thn (J 1000 11 * J 1000 12) (J 1000 13) (fl (mr J 1015) (J 1000 14).toNat).1 (J 1000 11 * J 1000 12).toNat (dw (dit a (J 1000 11 * J 1000 12).toNat) / 16 % (J 1000 11 * J 1000 12)) ((fl (mr J 1015) (J 1000 14).toNat).1 + J 1000 11 * J 1000 12, fam (fl (mr J 1015) (J 1000 14).toNat).2 (fl (mr J 1015) (J 1000 14).toNat).1 ((mkD (J 1000 11 * J 1000 12) (J 1000 13) a (fl (mr J 1015) (J 1000 14).toNat).1 (fl (mr J 1015) (J 1000 14).toNat).2).2.2.2.2 0)) = S at *
    obtain ⟨c', T, -⟩ := Tn
    have TT : TI (vM J) (mkF J).1 0 c' S := T
    obtain ⟨t1, t2, t3, t4, t5, t6, t7, t8, t9, t10, t11⟩ := T
    have e27 : R2 0 7 = R 0 7 := by rw [g2 0 7 (by omega)]; exact e7
    have e28 : R2 0 8 = R 0 8 := by rw [g2 0 8 (by omega)]; exact e8
    have oa2 : okp R2 (R 0 7) := okp_fr oa (fun j => g2 _ _ (by omega))
    have i0' : I2 (R 0 8) 0 = J 1000 11 := by rw [g1 _ _ (by omega) (by omega) (by omega)]; exact q0
    have i1' : I2 (R 0 8) 1 = J 1000 12 := by rw [g1 _ _ (by omega) (by omega) (by omega)]; exact q1
    have i2' : I2 (R 0 8) 2 = J 1000 13 := by rw [g1 _ _ (by omega) (by omega) (by omega)]; exact q2
    have ig : ∀ c, 0 ≤ c → c < 25 → I2 (R 0 8 + 1) c = 0 := fun c c0 c1 => by rw [g1 _ _ (by omega) (by omega) (by omega)]; exact qz c c0 c1
    refine c_take (M := J 1000 11 * J 1000 12) (k := J 1000 13) (by rw [e28]; exact h.1.2.1.1) (by rw [e28, i0', i1']) (by omega) hbM.2 (by rw [e28]; exact i2') hk.1 hk.2 (fun c c0 c1 => by rw [e28, ig c c0 (by omega)]; omega) (fun I' z1 z2 z3 z4 z5 => ?_)
    rw [sw_7, e28]
    have n5 : I' (R 0 8) 5 = S.1 := by rw [z1 _ _ (by omega) (by omega) (by omega)]; exact p5
    have vp3 : pv I' (sw R2) (R 0 8) S.1 S.2 := pv_sw op2 t3 (pv_fr op2 t3 (fun b x y => z1 _ _ (by omega) (by omega) (by omega)) vp2)
    refine c_givens (ρ := S.2) (by rw [n5]; omega) (by rw [n5]; exact vp3) ?_
    rw [n5]
    refine hQ1' I' (sw R2) ⟨c', TT⟩ ?_
    obtain ⟨J2, eJ2⟩ : ∃ J2 : cI, J2 = jG J (J 1000 11) (J 1000 12) (J 1000 13) S.1 S.2 (fun _ => 0) := ⟨_, rfl⟩
    rw [← eJ2]
    have j11 : J2 1000 11 = J 1000 11 := by rw [eJ2]; rfl
    have j12 : J2 1000 12 = J 1000 12 := by rw [eJ2]; rfl
    have j13 : J2 1000 13 = J 1000 13 := by rw [eJ2]; rfl
    have k14 : J2 1000 14 = S.1 := by rw [eJ2]; rfl
    have kg : ∀ c, J2 1020 c = 0 := fun c => by rw [eJ2]; rfl
    have kr : ∀ i, 0 ≤ i → i < S.1 → e9 (mr J2 1015 i) (S.2 i) := fun i _ _ => by rw [eJ2]; exact jG_e
    have k1 : ∀ x, (x < 11 ∨ 14 < x) → J2 1000 x = J 1000 x := fun x q => by rw [eJ2]; exact jG_x q
    have k2 : ∀ b x, b ≠ 1000 → (b < 1015 ∨ 1020 < b) → J2 b x = J b x := fun b x q1 q2 => by rw [eJ2]; exact jG_o q1 q2
    have eM2 : vM J2 = vM J := by unfold vM; rw [j11, j12]
    have eMv : vM J = J 1000 11 * J 1000 12 := rfl
    have gp2 : gp (vM J) S.1 (mr J2 1015) := gp_e (fun i i0 i1 => e9_s (kr i i0 i1)) t4
    have ip2 : iP I2 (sw R2) J2 := by
      unfold iP
      rw [sw_7, sw_8, e27, e28, j11, j12, j13, k14]
      refine ⟨okp_sw op2, okp_sw oa2, Ne.symm hne, i0', i1', i2', p5, pv_sw op2 t3 (pv_e t4 (fun i i0 i1 => e9_s (kr i i0 i1)) vp2), fun c c0 c1 => ?_⟩
      rw [ig c c0 c1, kg c]
      exact ⟨rfl, Int.le_refl 0, hk.1⟩
    have vp2' : vP J2 := by
      unfold vP
      rw [j11, j12, j13, k14, eM2]
      refine ⟨Or.inr (by omega), by omega, t3, gp2, ?_⟩
      rw [cF_cg (q := fun i => ¬ S.2 i 0 = 9) (fun i i0 i1 => by rw [kr i i0 i1 0 (by decide) (by decide) (Or.inl (by decide))])]
      unfold cF
      rw [sF_split (n := S.1) (r := (fl (mr J 1015) (J 1000 14).toNat).1) t2 0 t1]
      have c1 := cF_b (p := fun i => ¬ S.2 i 0 = 9) (n := (fl (mr J 1015) (J 1000 14).toNat).1) 0 t1
      have c2 := (cF_0 (p := fun i => ¬ S.2 i 0 = 9) (n := S.1) (fl (mr J 1015) (J 1000 14).toNat).1).mpr (fun ⟨i, i0, i1, q⟩ => q (t6 i i0 i1).1)
      unfold cF at c1 c2
      omega
    obtain ⟨p, v, s, t', w, k, x⟩ := h
    have f2 : ∀ b x, (b < 45 ∨ (80 ≤ b ∧ b < 83)) → I2 b x = I b x := fun b x q => by rw [g1 _ _ (by omega) (by omega) (by omega)]; exact f1 b x q
    exact take_j ip2 vp2' (iS_fr s (fun y => f2 _ _ (by omega)) (fun y => f2 _ _ (by omega)) (f2 _ _ (by omega)) (f2 _ _ (by omega)) (fun y => k2 _ _ (by omega) (by omega)) (k1 _ (by omega)) (k1 _ (by omega)))
      (iT_fr t' (fun y => f2 _ _ (by omega)) (f2 _ _ (by omega)) (fun y => k2 _ _ (by omega) (by omega)) (k1 _ (by omega)))
      (iW_fr w (fun y => f2 _ _ (by omega)) (f2 _ _ (by omega)) (fun y => k2 _ _ (by omega) (by omega)) (k1 _ (by omega)))
      (by rw [f2 _ _ (by omega), k1 _ (by omega)]; exact k.2.2.2.1) (iE_fr x (f2 _ _ (by omega)) (k1 _ (by omega)))
      z1 z2 z3 z4 (by rw [eM2, eMv, j13, e28]; rw [e28] at z5; exact z5)
/-- the turn that a change asks -/
def chT (a : Int) : Int := if a = 0 then 1 else 0
theorem k_change {a : Int} {Q : Int → cI → cR → Prop} {Qx : Nat → cI → cR → Prop} (h : INV I R J) (hw : J 1000 11 ≠ 0) (ha : a = 0 ∨ a = 1)
    (hQ : ∀ I' R', INV I' R' (jT (jG J (jcols (chT a) (J 1000 11) (J 1000 12)) (jcols (chT a) (J 1000 12) (J 1000 11)) (J 1000 13) (J 1000 14) (fun i => mv (mvT (chT a) (J 1000 11) (J 1000 12)) (mr J 1015 i)) (gm (mvT (chT a) (J 1000 11) (J 1000 12)) (J 1020) (vM J).toNat))) → Q (vM J) I' R') : wX11_change a I R Q Qx := by
  have hb := vM_b h.2.1
  have hs := h.2.1.1
  have hn := h.2.1.2
  have hk := INV_k h
  have main : wX11_change_20 Q Qx a I R := by
    refine c_reqPuzzle h (fun hw => ?_) (fun q => absurd q hw)
    have go : ∀ t, t = chT a → wX11_change_41 Q Qx a (R 0 8) (R 0 7) t I R := fun t et => by
      have ht : t = 0 ∨ t = 1 := by subst et; unfold chT; split <;> omega
      rw [← et] at hQ
      have eM : vM J = J 1000 11 * J 1000 12 := rfl
      have hg := h.2.1.2.2.2.1
      have hc40 := h.2.1.2.2.2.2
      rw [eM] at hg
      have h9 := h.1.2.2.2.2.2.2.2.2
      have w2 : 2 ≤ J 1000 11 ∧ J 1000 11 ≤ 5 ∧ 2 ≤ J 1000 12 ∧ J 1000 12 ≤ 5 ∧ 2 ≤ J 1000 13 := by omega
      have M25 : J 1000 11 * J 1000 12 ≤ 25 := hb.2.1
      have M0 : 0 ≤ J 1000 11 * J 1000 12 := hb.1
      have eJ : jcols t (J 1000 11) (J 1000 12) * jcols t (J 1000 12) (J 1000 11) = vM J := by
        unfold jcols
        by_cases t0 : t = 0
        · rw [if_pos t0, if_pos t0]; rfl
        · rw [if_neg t0, if_neg t0, Int.mul_comm]; rfl
      refine c_moved (w := J 1000 11) (h := J 1000 12) (k := J 1000 13) h.1.2.1 h.1.1 (Ne.symm h.1.2.2.1) h.1.2.2.2.1 h.1.2.2.2.2.1 h.1.2.2.2.2.2.1 h.1.2.2.2.2.2.2.1 w2.1 w2.2.1 w2.2.2.1 w2.2.2.2.1 hn.1 hn.2.1 h.1.2.2.2.2.2.2.2.1 hg ht (fun I2 R2 op oa r0 f1 q0 q1 q2 q5 vp qg => ?_)
      have e7 : R2 0 7 = R 0 7 := by rw [r0]
      have e8 : R2 0 8 = R 0 8 := by rw [r0]
      have ig := gm_cg (t := mvT t (J 1000 11) (J 1000 12)) (g := I (R 0 7 + 1)) (g' := J 1020) (m := J 1000 11 * J 1000 12) (fun c c0 c1 => (h9 c c0 (by omega)).1) (J 1000 11 * J 1000 12).toNat (by omega)
      have gb := gm_b (t := mvT t (J 1000 11) (J 1000 12)) (g := J 1020) (k := J 1000 13) (m := J 1000 11 * J 1000 12) (by omega) (fun c c0 c1 => (h9 c c0 (by omega)).2) (J 1000 11 * J 1000 12).toNat (by omega)
      rw [ig] at qg
      refine c_take (M := vM J) (k := J 1000 13) (by rw [e8]; exact h.1.2.1.1) (by rw [e8, q0, q1]; exact eJ) hb.1 hb.2.1 (by rw [e8]; exact q2) hk.1 hk.2 (fun c c0 c1 => by rw [e8, qg c c0 (by omega)]; exact gb c) (fun I' z1 z2 z3 z4 z5 => ?_)
      have hp8 : R 0 8 = 85 ∨ R 0 8 = 89 := h.1.2.1.1
      unfold wX4_cellCount
      rw [sw_7, e8, z1 _ 0 (by omega) (by omega) (by omega), z1 _ 1 (by omega) (by omega) (by omega), q0, q1, eJ]
      refine ⟨by unfold inR; omega, hQ I' (sw R2) ?_⟩
      obtain ⟨J2, eJ2⟩ : ∃ J2 : cI, J2 = jG J (jcols t (J 1000 11) (J 1000 12)) (jcols t (J 1000 12) (J 1000 11)) (J 1000 13) (J 1000 14) (fun i => mv (mvT t (J 1000 11) (J 1000 12)) (mr J 1015 i)) (gm (mvT t (J 1000 11) (J 1000 12)) (J 1020) (vM J).toNat) := ⟨_, rfl⟩
      rw [← eJ2]
      have k2 : J2 1000 11 = jcols t (J 1000 11) (J 1000 12) := by rw [eJ2]; rfl
      have k3 : J2 1000 12 = jcols t (J 1000 12) (J 1000 11) := by rw [eJ2]; rfl
      have j13 : J2 1000 13 = J 1000 13 := by rw [eJ2]; rfl
      have j14 : J2 1000 14 = J 1000 14 := by rw [eJ2]; rfl
      have k4 : ∀ c, J2 1020 c = gm (mvT t (J 1000 11) (J 1000 12)) (J 1020) (J 1000 11 * J 1000 12).toNat c := fun c => by rw [eJ2]; rfl
      have k5 : ∀ i, 0 ≤ i → i < J 1000 14 → e9 (mr J2 1015 i) (mv (mvT t (J 1000 11) (J 1000 12)) (mr J 1015 i)) := fun i _ _ => by rw [eJ2]; exact jG_e
      have k1 : ∀ x, (x < 11 ∨ 14 < x) → J2 1000 x = J 1000 x := fun x q => by rw [eJ2]; exact jG_x q
      have k1' : ∀ b x, b ≠ 1000 → (b < 1015 ∨ 1020 < b) → J2 b x = J b x := fun b x q1 q2 => by rw [eJ2]; exact jG_o q1 q2
      have eM2 : vM J2 = vM J := by unfold vM; rw [k2, k3]; exact eJ
      have gp2 : gp (vM J) (J 1000 14) (mr J2 1015) := fun i i0 i1 => gr_e (e9_s (k5 i i0 i1)) (mv_gr (hg i i0 i1) (fun c c0 c1 => mvT_b w2.1 w2.2.1 w2.2.2.1 w2.2.2.2.1 c0 c1) (fun c d c0 c1 d0 d1 => mvT_i w2.1 w2.2.1 w2.2.2.1 w2.2.2.2.1 c0 c1 d0 d1))
      have ip2 : iP I2 (sw R2) J2 := by
        unfold iP
        rw [sw_7, sw_8, e7, e8, q0, q1, q2, q5, k2, k3, j13, j14]
        refine ⟨okp_sw op, okp_sw oa, Ne.symm h.1.2.2.1, rfl, rfl, rfl, rfl, pv_sw op hn.2.1 (pv_e (gp_e (fun i i0 i1 => k5 i i0 i1) gp2) (fun i i0 i1 => e9_s (k5 i i0 i1)) vp), fun c c0 c1 => ?_⟩
        rw [qg c c0 c1, k4 c]
        exact ⟨rfl, gb c⟩
      have vp2 : vP J2 := by
        unfold vP
        rw [k2, k3, j13, j14, eM2]
        refine ⟨Or.inr ?_, hn.1, hn.2.1, gp2, ?_⟩
        · unfold jcols
          split <;> omega
        · rw [cF_cg (q := fun i => ¬ mr J 1015 i 0 = 9) (fun i i0 i1 => by rw [k5 i i0 i1 0 (by decide) (by decide) (Or.inl (by decide)), mv_l (by decide)])]
          exact hc40
      obtain ⟨p, v, s, t', w, k, x⟩ := h
      exact take_j ip2 vp2 (iS_fr s (fun y => f1 _ _ (by omega)) (fun y => f1 _ _ (by omega)) (f1 _ _ (by omega)) (f1 _ _ (by omega)) (fun y => k1' _ _ (by omega) (by omega)) (k1 _ (by omega)) (k1 _ (by omega)))
        (iT_fr t' (fun y => f1 _ _ (by omega)) (f1 _ _ (by omega)) (fun y => k1' _ _ (by omega) (by omega)) (k1 _ (by omega)))
        (iW_fr w (fun y => f1 _ _ (by omega)) (f1 _ _ (by omega)) (fun y => k1' _ _ (by omega) (by omega)) (k1 _ (by omega)))
        (by rw [f1 _ _ (by omega), k1 _ (by omega)]; exact k.2.2.2.1) (iE_fr x (f1 _ _ (by omega)) (k1 _ (by omega)))
        z1 z2 z3 z4 (by rw [eM2, j13, e8]; rw [e8] at z5; exact z5)
    unfold chT at go
    exact ⟨fun a0 => go 0 (by rw [if_neg a0]), fun a0 => go 1 (by rw [if_pos a0])⟩
  exact ⟨fun a0 => main, fun a0 => ⟨fun a1 => main, fun a1 => absurd ha (by omega)⟩⟩
end KMK
