/-! ===== compile ===== -/
section CO
variable {k : kT}
theorem cmp_0 (o : okK k) (h : (cmp k).1 = 0) : ¬ (fm k).1 = 0 ∧ ((2 ≤ kV' k 1 ∧ kV' k 1 ≤ 5) ∧ (2 ≤ kV' k 2 ∧ kV' k 2 ≤ 5) ∧ (2 ≤ kV' k 3 ∧ kV' k 3 ≤ 5)) ∧ 0 ≤ (cmp k).2.2.1 ∧ (cmp k).2.2.1 ≤ 40 ∧ gp (kV' k 1 * kV' k 2) (cmp k).2.2.1 (cmp k).2.2.2 := by
  unfold cmp at h ⊢
  by_cases c : (fm k).1 = 0
  · rw [if_pos c] at h; exact absurd h (by show ¬ (1 : Int) = 0; decide)
  · rw [if_neg c] at h ⊢
    by_cases d : (szs k).1 = 0
    · rw [if_pos d] at h ⊢
      have s := szs_ok d
      have kf := fm_ok o c
      have m := mrl_ok (kk := kV' k 3) o s.1.1 s.1.2 s.2.1.1 s.2.1.2 s.2.2.2 (kZ k + 1).toNat 5 0 (fun _ _ => 0) (by decide) kf.2.2.2.1 (by have := o.1; omega) kf.2.2.2.2 (Int.le_refl 0) (by decide) (fun i i0 i1 => by omega)
      exact ⟨c, s, m.2.2.1, m.2.2.2.1, m.2.2.2.2⟩
    · rw [if_neg d] at h; exact absurd h d
def jC (J J' : cI) : Prop := ∀ a x, ¬ (1004 ≤ a ∧ a ≤ 1006) → ¬ (1037 ≤ a ∧ a ≤ 1041) → ¬ (a = 1000 ∧ (x = 0 ∨ x = 3 ∨ x = 7 ∨ x = 8 ∨ (33 ≤ x ∧ x ≤ 36))) → J' a x = J a x
theorem m_compile {T : Int → Int} {L : Int} {J : cI} {Q : Int → cI → Prop} (h : jTp J T L)
    (q1 : (cmp (kOf T L)).1 = 0 → ∀ J2, (∀ a x, ¬ (1004 ≤ a ∧ a ≤ 1006) → ¬ (1037 ≤ a ∧ a ≤ 1041) → ¬ (1015 ≤ a ∧ a ≤ 1020) → ¬ (a = 1000 ∧ (x = 0 ∨ x = 3 ∨ x = 7 ∨ x = 8 ∨ (11 ≤ x ∧ x ≤ 14) ∨ (33 ≤ x ∧ x ≤ 36))) → J2 a x = J a x) → J2 1000 0 = 0 → J2 1000 8 = 0 → J2 1000 3 = -1 → J2 1000 11 = kV' (kOf T L) 1 → J2 1000 12 = kV' (kOf T L) 2 → J2 1000 13 = kV' (kOf T L) 3 → J2 1000 14 = (cmp (kOf T L)).2.2.1 → (∀ i, 0 ≤ i → i < (cmp (kOf T L)).2.2.1 → e9 (mr J2 1015 i) ((cmp (kOf T L)).2.2.2 i)) → (∀ c, 0 ≤ c → c < 25 → J2 1020 c = 0) → ∀ J3, J3 = up2 J2 1000 28 0 → ∀ J', (∀ a x, a ≠ 1030 → ¬ (a = 1000 ∧ (x = 31 ∨ x = 32)) → J' a x = J3 a x) → J' 1000 31 = 0 → J' 1000 32 = 0 → (∀ c, J' 1030 c = lkS (J3 1030) (vM J3) (J3 1000 13) (J3 1020) c) → ∀ J4, J4 = up2 J' 1000 2 0 → Q 0 J4)
    (q0 : ¬ (cmp (kOf T L)).1 = 0 → ∀ J', jC J J' → J' 1000 0 = 0 → J' 1000 3 = kS (kOf T L) (cmp (kOf T L)).2.1 → ∀ J4, J4 = up2 J' 1000 2 0 → Q (cmp (kOf T L)).1 J4) : wX12_compile J Q := by
  have o := okK_of (T := T) h.2.1 h.2.2.1
  unfold wX12_compile
  intro J1 e1 J4 e4 J7 e7
  have g7 : ∀ a x, ¬ (a = 1000 ∧ (x = 0 ∨ x = 8 ∨ x = 3)) → J7 a x = J a x := fun a x q => by rw [e7, u2n (by omega), e4, u2n (by omega), e1, u2n (by omega)]
  have a0 : J7 1000 0 = 0 := by rw [e7, u2x (by decide), e4, u2x (by decide), e1]; exact u2e
  have a8 : J7 1000 8 = 0 := by rw [e7, u2x (by decide), e4]; exact u2e
  have a3 : J7 1000 3 = -1 := by rw [e7]; exact u2e
  have h7 : jTp J7 T L := ⟨by rw [g7 _ _ (by omega)]; exact h.1, h.2.1, h.2.2.1, fun k k0 k1 => by rw [g7 _ _ (by omega)]; exact h.2.2.2 k k0 k1⟩
  refine m_scan h7 (fun J11 f11 r11 => ?_)
  have h11 : jTp J11 T L := ⟨by rw [f11 _ _ (by omega)]; exact h7.1, h.2.1, h.2.2.1, fun k k0 k1 => by rw [f11 _ _ (by omega)]; exact h7.2.2.2 k k0 k1⟩
  have hA := jA_of h11 r11
  generalize kOf T L = k at *
  have c11 : jC J J11 := fun a x q1 q2 q3 => by rw [f11 a x q1]; exact g7 a x (by omega)
  have b0 : J11 1000 0 = 0 := by rw [f11 _ _ (by omega)]; exact a0
  have b8 : J11 1000 8 = 0 := by rw [f11 _ _ (by omega)]; exact a8
  have b3 : J11 1000 3 = -1 := by rw [f11 _ _ (by omega)]; exact a3
  refine m_form o hA (fun J15 f15 p15 => ⟨fun cf => ?_, fun cf => ?_⟩)
  · have hA15 := jA_t hA (jP_s f15)
    have c15 : jC J J15 := fun a x q1 q2 q3 => by rw [f15 a x (by omega)]; exact c11 a x q1 q2 q3
    refine m_meaning o hA15 cf (fun c0 J19 f19 d33 d34 d35 d36 er d8 d3 => ⟨fun z => absurd z (by decide), fun _ => ?_⟩) (fun c0 J19 f19 d8 d3 => ⟨fun _ J22 e22 => ?_, fun z => absurd rfl z⟩)
    · have s := cmp_0 o c0
      have c19 : jC J J19 := fun a x q1 q2 q3 => by rw [f19 a x q2 (by omega)]; exact c15 a x q1 q2 q3
      refine m_begin d33 d34 d35 d36 s.2.1.1.1 s.2.1.1.2 s.2.1.2.1.1 s.2.1.2.1.2 s.2.1.2.2.1 s.2.1.2.2.2 s.2.2.1 s.2.2.2.1 (fun J2 g2 y11 y12 y13 y14 yr yg J3 e3 J' l1 l2 l3 l4 J29 e29 => ?_)
      have z8 : J2 1000 8 = 0 := by rw [g2 _ _ (by omega) (by omega), d8, f15 _ _ (by omega)]; exact b8
      have z3 : J2 1000 3 = -1 := by rw [g2 _ _ (by omega) (by omega), d3, f15 _ _ (by omega)]; exact b3
      have z0 : J2 1000 0 = 0 := by rw [g2 _ _ (by omega) (by omega), f19 _ _ (by omega) (by omega), f15 _ _ (by omega)]; exact b0
      have z29 : J29 1000 8 = 0 := by rw [e29, u2x (by decide), l1 _ _ (by decide) (by omega), e3, u2x (by decide)]; exact z8
      rw [z29]
      exact q1 c0 J2 (fun a x w1 w2 w3 w4 => by rw [g2 a x w3 (by omega)]; exact c19 a x w1 w2 (by omega)) z0 z8 z3 y11 y12 y13 y14 (fun i i0 i1 => e9_t (yr i i0 i1) (er i i0 i1)) yg J3 e3 J' l1 l2 l3 l4 J29 e29
    · have c19 : jC J J19 := fun a x q1 q2 q3 => by rw [f19 a x q2 (by omega)]; exact c15 a x q1 q2 q3
      have z0 : J19 1000 0 = 0 := by rw [f19 _ _ (by omega) (by omega), f15 _ _ (by omega)]; exact b0
      have z8 : J22 1000 8 = (cmp k).1 := by rw [e22, u2x (by decide)]; exact d8
      rw [z8]
      exact q0 c0 J19 c19 z0 d3 J22 e22
  · have ec : cmp k = (1, (fm k).2, 0, fun _ _ => 0) := by unfold cmp; rw [if_pos cf]
    have fb := fm_b o
    rw [ec] at q0
    rw [p15]
    refine m_wrong o (jA_t hA (jP_s f15)) fb.1 fb.2 (fun J33 f33 t8 t3 J36 e36 => ?_)
    have c33 : jC J J33 := fun a x q1 q2 q3 => by rw [f33 a x (by omega), f15 a x (by omega)]; exact c11 a x q1 q2 q3
    have z8 : J36 1000 8 = 1 := by rw [e36, u2x (by decide)]; exact t8
    rw [z8]
    exact q0 (by show ¬ (1 : Int) = 0; decide) J33 c33 (by rw [f33 _ _ (by omega), f15 _ _ (by omega)]; exact b0) t3 J36 e36
theorem INV_tape {I : cI} {R : cR} {J : cI} (h : INV I R J) : INV (up2 I 1 0 0) R (up2 J 1000 2 0) := by
  have hp := h.1.1.1
  obtain ⟨p, v, s, t, w, k, x⟩ := h
  have j : smP J (up2 J 1000 2 0) := ⟨fun b y q1 q2 => u2a (by omega), u2x (by decide), u2x (by decide), u2x (by decide), u2x (by decide)⟩
  exact ⟨iP_fr p v (fun b y q => u2a (by omega)) j, vP_fr v j, iS_fr s (fun y => u2a (by decide)) (fun y => u2a (by decide)) (u2a (by decide)) (u2a (by decide)) (fun y => u2a (by decide)) (u2x (by decide)) (u2x (by decide)), ⟨by rw [u2e, u2e], by rw [u2e]; decide, by rw [u2e]; decide, fun y y0 y1 => by rw [u2e] at y1; omega⟩, iW_fr w (fun y => u2a (by decide)) (u2a (by decide)) (fun y => u2a (by decide)) (u2x (by decide)), iK_fr k (fun b y q1 q2 => u2a (by omega)) (u2a (by decide)) (u2a (by decide)) (fun y => u2a (by decide)) (u2x (by decide)) (u2x (by decide)) (smP_M j), iE_fr x (u2a (by decide)) (u2x (by decide))⟩
theorem st_compile {I : cI} {R : cR} {J : cI} (h : INV I R J) : wX11_compile I R (okN (wX12_compile J)) := by
  obtain ⟨p, v, s, t, w, kk, x⟩ := h
  have hj : jTp J (J 1001) (J 1000 2) := ⟨rfl, t.2.1, t.2.2.1, fun y y0 y1 => ⟨rfl, (t.2.2.2 y y0 y1).2⟩⟩
  have hc : cTp I (J 1001) (J 1000 2) := ⟨t.1, t.2.1, t.2.2.1, fun y y0 y1 => t.2.2.2 y y0 y1⟩
  have o := okK_of (T := J 1001) t.2.1 t.2.2.1
  have hMC := fun (Q : Int → cI → Prop) q1 q0 => m_compile (Q := Q) hj q1 q0
  obtain ⟨oa, op, hne, p0, p1, p2, p5, hv, hg⟩ := p
  unfold wX11_compile
  have hcr := fun (Q : Int → cI → cR → Prop) q1 q0 => c_readInto (Q := Q) hc (fun I' n c => cKV_of n c) o op oa (Ne.symm hne) v.2.2.1 hv q1 q0
  generalize kOf (J 1001) (J 1000 2) = k at *
  refine hcr _ (fun c0 I' R' d a' r0 va fr e30 e31 => ⟨fun z => absurd z (by decide), fun _ => ?_⟩) (fun c0 I' R' op' oa' r0 va fr e30 e31 => ⟨fun _ => ?_, fun z => absurd rfl z⟩)
  · have sz := cmp_0 o c0
    obtain ⟨-, ⟨w2, h2, k2⟩, n0, n40, hgp⟩ := sz
    have r08 : R' 0 8 = R 0 8 := congrFun r0 8
    have r07 : R' 0 7 = R 0 7 := congrFun r0 7
    have hb1 := Int.mul_le_mul w2.2 h2.2 (by omega) (by decide)
    have hb2 := Int.mul_le_mul w2.1 h2.1 (by decide) (by omega)
    have ip := op.1
    unfold isP at ip
    refine c_take (M := kV' k 1 * kV' k 2) (k := kV' k 3) (by rw [r08]; exact op.1) (by rw [r08, d.2.1, d.2.2.1]) (by omega) (by omega) (by rw [r08]; exact d.2.2.2.1) (by omega) k2.2 (fun c c0' c1 => by rw [r08, d.2.2.2.2.2.2 c c0' (by omega)]; omega) (fun I7 z1 z2 z3 z4 z5 => ?_)
    unfold wX11_compile_22
    intro I8 e8
    have e83 : I8 3 0 = 0 := by rw [e8, u2a (by decide), z1 _ _ (by decide) (by omega) (by omega)]; exact e30
    rw [e83]
    refine hMC _ (fun _ J2 g2 y0 y8 y3 y11 y12 y13 y14 yr yg J3 e3 J' l1 l2 l3 l4 J4 e4 => ?_) (fun nc => absurd c0 nc)
    have eM2 : vM J2 = kV' k 1 * kV' k 2 := by unfold vM; rw [y11, y12]
    have ip2 : iP I' (sw R') J2 := by
      unfold iP
      rw [sw_7, sw_8, r08, r07, y11, y12, y13, y14]
      have op' : okp R' (R 0 8) := d.1
      refine ⟨okp_sw op', okp_sw a', Ne.symm hne, d.2.1, d.2.2.1, d.2.2.2.1, d.2.2.2.2.1, pv_sw op' (by omega) (pv_e hgp (fun i i0 i1 => e9_s (yr i i0 i1)) d.2.2.2.2.2.1), fun c c0' c1 => ?_⟩
      rw [d.2.2.2.2.2.2 c c0' c1, yg c c0' c1]
      exact ⟨rfl, Int.le_refl 0, by omega⟩
    have vp2 : vP J2 := by
      unfold vP
      rw [y11, y12, y13, y14, eM2]
      refine ⟨Or.inr (by omega), by omega, by omega, gp_e (fun i i0 i1 => e9_s (yr i i0 i1)) hgp, ?_⟩
      have := (cF_b (p := fun i => ¬ mr J2 1015 i 0 = 9) (n := (cmp k).2.2.1) 0 n0).2
      omega
    have F : ∀ b y, b < 3 ∨ (8 ≤ b ∧ b < 85) → I' b y = I b y := fun b y q => fr b y (by omega)
    have G : ∀ y, ¬ (y = 0 ∨ y = 3 ∨ y = 7 ∨ y = 8 ∨ (11 ≤ y ∧ y ≤ 14) ∨ (33 ≤ y ∧ y ≤ 36)) → J2 1000 y = J 1000 y := fun y q => g2 1000 y (by omega) (by omega) (by omega) (by omega)
    have Inv := take_inv (I' := I7) (J' := J') ip2 vp2 (iS_fr s (fun y => F _ _ (by omega)) (fun y => F _ _ (by omega)) (F _ _ (by omega)) (F _ _ (by omega)) (fun y => g2 _ _ (by omega) (by omega) (by omega) (by omega)) (G _ (by omega)) (G _ (by omega)))
      (iT_fr t (fun y => F _ _ (by omega)) (F _ _ (by omega)) (fun y => g2 _ _ (by omega) (by omega) (by omega) (by omega)) (G _ (by omega)))
      (iW_fr w (fun y => F _ _ (by omega)) (F _ _ (by omega)) (fun y => g2 _ _ (by omega) (by omega) (by omega) (by omega)) (G _ (by omega)))
      (by rw [F _ _ (by omega), G _ (by omega)]; exact kk.2.2.2.1) (by unfold iE; rw [e31, y3])
      z1 z2 z3 z4 (by rw [eM2, y13]; exact z5) e3 l1 l2 l3 l4
    have z0 : J4 1000 0 = 0 := by rw [e4, u2x (by decide), l1 _ _ (by decide) (by omega), e3, u2x (by decide)]; exact y0
    refine ⟨z0, rfl, ?_⟩
    rw [e8, e4]
    exact INV_tape Inv
  · unfold wX11_compile_22
    intro I8 e8
    have e83 : I8 3 0 = (cmp k).1 := by rw [e8, u2a (by decide)]; exact e30
    rw [e83]
    refine hMC _ (fun c1 => absurd c1 c0) (fun _ J' g y0 y3 J4 e4 => ?_)
    have r08 : R' 0 8 = R 0 8 := congrFun r0 8
    have r07 : R' 0 7 = R 0 7 := congrFun r0 7
    have ia := oa.1
    unfold isP at ia
    have F : ∀ b y, b < 3 ∨ (8 ≤ b ∧ b < 85) → I' b y = I b y := fun b y q => fr b y (by omega)
    have G : ∀ y, ¬ (y = 0 ∨ y = 3 ∨ y = 7 ∨ y = 8 ∨ (33 ≤ y ∧ y ≤ 36)) → J' 1000 y = J 1000 y := fun y q => g 1000 y (by omega) (by omega) (by omega)
    have G2 : ∀ b y, ¬ (b = 1000) → ¬ (1004 ≤ b ∧ b ≤ 1006) → ¬ (1037 ≤ b ∧ b ≤ 1041) → J' b y = J b y := fun b y q1 q2 q3 => g b y q2 q3 (by omega)
    have j : smP J J' := ⟨fun b y q1 q2 => G2 b y (by omega) (by omega) (by omega), G _ (by omega), G _ (by omega), G _ (by omega), G _ (by omega)⟩
    have inv : INV I' R' J' := by
      refine ⟨?_, vP_fr v j, iS_fr s (fun y => F _ _ (by omega)) (fun y => F _ _ (by omega)) (F _ _ (by omega)) (F _ _ (by omega)) (fun y => G2 _ _ (by omega) (by omega) (by omega)) (G _ (by omega)) (G _ (by omega)),
        iT_fr t (fun y => F _ _ (by omega)) (F _ _ (by omega)) (fun y => G2 _ _ (by omega) (by omega) (by omega)) (G _ (by omega)),
        iW_fr w (fun y => F _ _ (by omega)) (F _ _ (by omega)) (fun y => G2 _ _ (by omega) (by omega) (by omega)) (G _ (by omega)),
        iK_fr kk (fun b y q1 q2 => F _ _ (by omega)) (F _ _ (by omega)) (F _ _ (by omega)) (fun y => G2 _ _ (by omega) (by omega) (by omega)) (G _ (by omega)) (G _ (by omega)) (smP_M j), by unfold iE; rw [e31, y3]⟩
      unfold iP
      rw [r07, r08, smP_mr j, j.2.1, j.2.2.1, j.2.2.2.1, j.2.2.2.2]
      refine ⟨oa', op', hne, by rw [fr _ _ (by omega)]; exact p0, by rw [fr _ _ (by omega)]; exact p1, by rw [fr _ _ (by omega)]; exact p2, by rw [fr _ _ (by omega)]; exact p5, va, fun c c0' c1 => ?_⟩
      rw [fr _ _ (by omega), j.1 1020 c (by decide) (by decide)]
      exact hg c c0' c1
    have z0 : J4 1000 0 = 0 := by rw [e4, u2x (by decide)]; exact y0
    refine ⟨z0, rfl, ?_⟩
    rw [e8, e4]
    exact INV_tape inv
end CO
