/-! ===== clear, drop, look ===== -/
section FQ
variable {I I' : cI} {R R' : cR} {J J' : cI}
def smQ (J J' : cI) : Prop := (∀ a x, 1015 ≤ a → a ≤ 1019 → J' a x = J a x) ∧ J' 1000 11 = J 1000 11 ∧ J' 1000 12 = J 1000 12 ∧ J' 1000 13 = J 1000 13 ∧ J' 1000 14 = J 1000 14
theorem smQ_mr (j : smQ J J') : mr J' 1015 = mr J 1015 := mr_fr (fun a x q1 q2 => j.1 a x q1 q2)
theorem smQ_M (j : smQ J J') : vM J' = vM J := by unfold vM; rw [j.2.1, j.2.2.1]
theorem vP_q (h : vP J) (j : smQ J J') : vP J' := by
  unfold vP at h ⊢; rw [smQ_mr j, smQ_M j, j.2.1, j.2.2.1, j.2.2.2.1, j.2.2.2.2]; exact h
theorem iP_q (h : iP I R J) (hv : vP J) (c : ∀ a x, 85 ≤ a → a ≠ R 0 7 + 1 → I' a x = I a x) (j : smQ J J') (g : ∀ y, 0 ≤ y → y < 25 → I' (R 0 7 + 1) y = J' 1020 y ∧ 0 ≤ J' 1020 y ∧ J' 1020 y ≤ J 1000 13) : iP I' R J' := by
  obtain ⟨a1, a2, a3, a4, a5, a6, a7, a8, a9⟩ := h
  have hp : R 0 7 = 85 ∨ R 0 7 = 89 := a1.1
  refine ⟨a1, a2, a3, ?_, ?_, ?_, ?_, ?_, fun y c0 c1 => ?_⟩
  · rw [c _ 0 (by omega) (by omega), j.2.1]; exact a4
  · rw [c _ 1 (by omega) (by omega), j.2.2.1]; exact a5
  · rw [c _ 2 (by omega) (by omega), j.2.2.2.1]; exact a6
  · rw [c _ 5 (by omega) (by omega), j.2.2.2.2]; exact a7
  · rw [j.2.2.2.2, smQ_mr j]; exact pv_fr a1 hv.2.2.1 (fun a x q => c a x (by omega) (by omega)) a8
  · rw [j.2.2.2.1]; exact g y c0 c1
end FQ
section ST3
variable {I : cI} {R : cR} {J : cI}
theorem c_empty {p : Nat} {Q : cI → cR → Prop} (hQ : ∀ I', (∀ a x, ¬ (a = p + 1 ∧ 0 ≤ x ∧ x < 25) → I' a x = I a x) → (∀ c, 0 ≤ c → c < 25 → I' (p + 1) c = 0) → Q I' R) : wX4_emptyGrid p I R Q := by
  have L : ∀ (m : Nat) (x : Int) (I' : cI), 0 ≤ x → x ≤ 25 → 25 - x < m → (∀ a x, ¬ (a = p + 1 ∧ 0 ≤ x ∧ x < 25) → I' a x = I a x) → (∀ c, 0 ≤ c → c < x → I' (p + 1) c = 0) → wX4_emptyGrid_2 Q p m x I' R := by
    intro m
    induction m with
    | zero => intro x I' h0 h1 h2; omega
    | succ m ih =>
      intro x I' x0 x1 x2 h1 h2
      show wbX4_emptyGrid_2 Q p (wX4_emptyGrid_2 Q p m) x I' R
      unfold wbX4_emptyGrid_2
      refine ⟨fun e => hQ I' h1 (fun c c0 c1 => h2 c c0 (by omega)), fun e => ⟨by omega, fun J1 f1 => ⟨by unfold inR; omega, fun z hz => ?_⟩⟩⟩
      subst f1; subst hz
      refine ih (x + 1) _ (by omega) (by omega) (by omega) (fun a y q => ?_) (fun c c0 c1 => ?_)
      · rw [u2n (by omega)]; exact h1 a y q
      · by_cases ec : c = x
        · subst ec; exact u2e
        · rw [u2x ec]; exact h2 c c0 (by omega)
  exact ⟨26, L 26 0 I (by decide) (by decide) (by decide) (fun _ _ _ => rfl) (fun c c0 c1 => by omega)⟩
theorem m_zero {v : Int} {Q : Int → cI → Prop} (hQ : ∀ J', (∀ a x, ¬ (a = 1020 ∧ 0 ≤ x ∧ x < 25) → J' a x = J a x) → (∀ c, 0 ≤ c → c < 25 → J' 1020 c = 0) → Q v J') : ∃ n, wX12_clear_12 Q n v 0 J := by
  have L : ∀ (m : Nat) (x : Int) (J' : cI), 0 ≤ x → x ≤ 25 → 25 - x < m → (∀ a x, ¬ (a = 1020 ∧ 0 ≤ x ∧ x < 25) → J' a x = J a x) → (∀ c, 0 ≤ c → c < x → J' 1020 c = 0) → wX12_clear_12 Q m v x J' := by
    intro m
    induction m with
    | zero => intro x I' h0 h1 h2; omega
    | succ m ih =>
      intro x I' x0 x1 x2 h1 h2
      show wbX12_clear_12 Q (wX12_clear_12 Q m) v x I'
      unfold wbX12_clear_12
      refine ⟨fun e => hQ I' h1 (fun c c0 c1 => h2 c c0 (by omega)), fun e => ⟨by omega, fun J1 f1 => ⟨by unfold inR; omega, fun z hz => ?_⟩⟩⟩
      subst f1; subst hz
      refine ih (x + 1) _ (by omega) (by omega) (by omega) (fun a y q => ?_) (fun c c0 c1 => ?_)
      · rw [u2n (by omega)]; exact h1 a y q
      · by_cases ec : c = x
        · subst ec; exact u2e
        · rw [u2x ec]; exact h2 c c0 (by omega)
  exact ⟨26, L 26 0 J (by decide) (by decide) (by decide) (fun _ _ _ => rfl) (fun c c0 c1 => by omega)⟩
theorem INV_M (h : INV I R J) : I (R 0 7) 0 * I (R 0 7) 1 = vM J := by unfold vM; rw [h.1.2.2.2.1, h.1.2.2.2.2.1]
theorem st_clear (h : INV I R J) : wX11_clear I R (okN (wX12_clear J)) := by
  have h0 := INV_0 (v := 0) h
  have hb := vM_b h.2.1
  have hp : R 0 7 = 85 ∨ R 0 7 = 89 := h.1.1.1
  have hM := INV_M h
  unfold wX11_clear
  refine c_filled (by rw [hM]; exact hb.2.1) (by rw [hM]; exact hb.1) (c_empty (fun I' f1 f2 J1 e1 => ?_))
  rw [hM, cF_cg (q := fun c => ¬ J 1020 c = 0) (fun c c0 c1 => by rw [(h.1.2.2.2.2.2.2.2.2 c c0 (by omega)).1])]
  have eM : vM J1 = vM J := by subst e1; exact vM_0
  have e20 : ∀ c, J1 1020 c = J 1020 c := fun c => by subst e1; exact u2a (by decide)
  have e00 : J1 1000 0 = 0 := by subst e1; exact u2e
  rw [← e1] at h0
  have ec : J1 1000 11 * J1 1000 12 = vM J := eM
  refine m_filled (by rw [ec]; exact hb.2.1) (by rw [ec]; exact hb.1) (fun c c0 c1 => by rw [e20]; exact (INV_g h c c0 (by omega)).1) ?_
  rw [ec, cF_cg (p := fun c => ¬ J1 1020 c = 0) (q := fun c => ¬ J 1020 c = 0) (fun c _ _ => by rw [e20])]
  refine m_zero (fun J' g1 g2 => ⟨by rw [g1 _ _ (by omega)]; exact e00, rfl, ?_⟩)
  obtain ⟨p, v, s, t, w, k, x⟩ := h0
  have j : smQ J1 J' := ⟨fun b y q1 q2 => g1 _ _ (by omega), g1 _ _ (by omega), g1 _ _ (by omega), g1 _ _ (by omega), g1 _ _ (by omega)⟩
  have k13 := (INV_k h).1
  refine ⟨iP_q p v (fun b y q1 q2 => f1 _ _ (by omega)) j (fun y y0 y1 => ⟨by rw [f2 y y0 y1, g2 y y0 y1], by rw [g2 y y0 y1]; exact Int.le_refl 0, by rw [g2 y y0 y1, show J1 1000 13 = J 1000 13 by subst e1; exact u2x (by decide)]; exact k13⟩), vP_q v j,
    iS_fr s (fun y => f1 _ _ (by omega)) (fun y => f1 _ _ (by omega)) (f1 _ _ (by omega)) (f1 _ _ (by omega)) (fun y => g1 _ _ (by omega)) (g1 _ _ (by omega)) (g1 _ _ (by omega)),
    iT_fr t (fun y => f1 _ _ (by omega)) (f1 _ _ (by omega)) (fun y => g1 _ _ (by omega)) (g1 _ _ (by omega)),
    iW_fr w (fun y => f1 _ _ (by omega)) (f1 _ _ (by omega)) (fun y => g1 _ _ (by omega)) (g1 _ _ (by omega)),
    iK_fr k (fun b y q1 q2 => f1 _ _ (by omega)) (f1 _ _ (by omega)) (f1 _ _ (by omega)) (fun y => g1 _ _ (by omega)) (g1 _ _ (by omega)) (g1 _ _ (by omega)) (smQ_M j),
    iE_fr x (f1 _ _ (by omega)) (g1 _ _ (by omega))⟩
/-- the puzzle's rules are others, or there are fewer of them -/
theorem iP_r {I' : cI} {R' : cR} {J' : cI} {n : Int} {ρ : Int → Int → Int} (h : iP I R J) (o : okp R' (R 0 7)) (o2 : okp R' (R 0 8)) (e7 : R' 0 7 = R 0 7) (e8 : R' 0 8 = R 0 8) (c : ∀ a x, a = R 0 7 ∨ a = R 0 7 + 1 → ¬ (a = R 0 7 ∧ x = 5) → I' a x = I a x) (e5 : I' (R 0 7) 5 = n) (j14 : J' 1000 14 = n) (hv : pv I' R' (R 0 7) n ρ) {m : Int} (hg : gp m n ρ) (er : ∀ i, 0 ≤ i → i < n → e9 (mr J' 1015 i) (ρ i))
    (j11 : J' 1000 11 = J 1000 11) (j12 : J' 1000 12 = J 1000 12) (j13 : J' 1000 13 = J 1000 13) (j20 : ∀ x, J' 1020 x = J 1020 x) : iP I' R' J' := by
  obtain ⟨a1, a2, a3, a4, a5, a6, a7, a8, a9⟩ := h
  unfold iP
  rw [e7, e8, j11, j12, j13, j14]
  refine ⟨o, o2, a3, ?_, ?_, ?_, e5, ?_, fun y c0 c1 => ?_⟩
  · rw [c _ 0 (Or.inl rfl) (by omega)]; exact a4
  · rw [c _ 1 (Or.inl rfl) (by omega)]; exact a5
  · rw [c _ 2 (Or.inl rfl) (by omega)]; exact a6
  · exact pv_e (gp_e (fun i i0 i1 => e9_r) hg) (fun i i0 i1 => e9_s (er i i0 i1)) hv
  · rw [c _ y (Or.inr rfl) (by omega), j20]; exact a9 y c0 c1
theorem st_drop {a : Int} (h : INV I R J) : wX11_drop a I R (okN (wX12_drop a J)) (okX (xf 0 0 1) (wX12_drop a J)) := by
  have h0 := INV_0 (v := 0) h
  have hb := vM_b h.2.1
  have hp : R 0 7 = 85 ∨ R 0 7 = 89 := h.1.1.1
  have hp2 : R 0 8 = 85 ∨ R 0 8 = 89 := h.1.2.1.1
  have hne := h.1.2.2.1
  have h65 := h.2.1.2
  have e14 : up2 J 1000 0 0 1000 14 = J 1000 14 := u2x (by decide)
  refine c_reqRule h (fun c => ?_) (fun c => ⟨by decide, fun J1 e1 => m_isRule ?_ ?_ ?_⟩)
  · refine c_remove h.1.1 c.1 c.2 h65.2.1 h.1.2.2.2.2.2.2.1 h.1.2.2.2.2.2.2.2.1 (fun I' R' g1 g2 g3 g4 g5 J1 e1 => m_isRule ?_ ?_ ?_)
    · subst e1; rw [e14]; exact h65.1
    · subst e1; rw [e14]; exact h65.2.1
    · subst e1
      rw [e14, b2_t c, g2 0 7 (by omega), g4]
      refine ⟨fun _ => m_drop c.1 c.2 h65.2.1 e14 (fun J' k1 k2 k3 => ⟨by rw [k1 _ _ (by omega) (by omega)]; exact u2e, k2.symm, ?_⟩), fun w => absurd w (by decide)⟩
      have em : mr (up2 J 1000 0 0) 1015 = mr J 1015 := mr_fr (fun b x q1 q2 => u2a (by omega))
      rw [em] at k3
      generalize hJ0 : up2 J 1000 0 0 = J0 at *
      have f0 : ∀ x, x ≠ 0 → J0 1000 x = J 1000 x := fun x hx => by rw [← hJ0]; exact u2x hx
      have f1 : ∀ b x, b ≠ 1000 → J0 b x = J b x := fun b x hx => by rw [← hJ0]; exact u2a hx
      have gd0 : gp (vM J) (J 1000 14 - 1) (dr a (mr J 1015)) := dr_gp c.1 h65.2.2.1
      obtain ⟨p, v, s, t, w, k, x⟩ := h0
      have eM : vM J' = vM J0 := by unfold vM; rw [k1 _ 11 (by omega) (by omega), k1 _ 12 (by omega) (by omega)]
      have eM2 : vM J0 = vM J := by unfold vM; rw [f0 11 (by decide), f0 12 (by decide)]
      refine ⟨iP_r p g1 ⟨h.1.2.1.1, fun j j0 j1 => by rw [g2 _ _ (by omega)]; exact h.1.2.1.2.1 j j0 j1, fun i j i0 i1 j0 j1 => by rw [g2 _ _ (by omega), g2 _ _ (by omega)]; exact h.1.2.1.2.2 i j i0 i1 j0 j1⟩ (g2 _ _ (by omega)) (g2 _ _ (by omega)) (fun b y q1 q2 => g3 _ _ q2) g4 k2 g5 gd0 k3 (k1 _ _ (by omega) (by omega)) (k1 _ _ (by omega) (by omega)) (k1 _ _ (by omega) (by omega)) (fun y => k1 _ _ (by omega) (by omega)), ?_,
        iS_fr s (fun y => g3 _ _ (by omega)) (fun y => g3 _ _ (by omega)) (g3 _ _ (by omega)) (g3 _ _ (by omega)) (fun y => k1 _ _ (by omega) (by omega)) (k1 _ _ (by omega) (by omega)) (k1 _ _ (by omega) (by omega)),
        iT_fr t (fun y => g3 _ _ (by omega)) (g3 _ _ (by omega)) (fun y => k1 _ _ (by omega) (by omega)) (k1 _ _ (by omega) (by omega)),
        iW_fr w (fun y => g3 _ _ (by omega)) (g3 _ _ (by omega)) (fun y => k1 _ _ (by omega) (by omega)) (k1 _ _ (by omega) (by omega)),
        iK_fr k (fun b y q1 q2 => g3 _ _ (by omega)) (g3 _ _ (by omega)) (g3 _ _ (by omega)) (fun y => k1 _ _ (by omega) (by omega)) (k1 _ _ (by omega) (by omega)) (k1 _ _ (by omega) (by omega)) eM,
        iE_fr x (g3 _ _ (by omega)) (k1 _ _ (by omega) (by omega))⟩
      have v' := h.2.1
      unfold vP at v' ⊢
      rw [k2, eM, eM2, k1 _ 11 (by omega) (by omega), k1 _ 12 (by omega) (by omega), k1 _ 13 (by omega) (by omega), f0 11 (by decide), f0 12 (by decide), f0 13 (by decide)]
      refine ⟨?_, by omega, by omega, gp_e (fun i i0 i1 => e9_s (k3 i i0 i1)) gd0, ?_⟩
      · have q := v'.1
        omega
      · have e := cF_dr (p := fun σ => ¬ σ 0 = 9) (ρ := mr J 1015) c.1 c.2
        rw [cF_cg (p := fun i => ¬ mr J' 1015 i 0 = 9) (q := fun i => ¬ dr a (mr J 1015) i 0 = 9) (fun i i0 i1 => by rw [k3 i i0 i1 0 (by decide) (by decide) (Or.inl (by decide))])]
        have := b2_or (¬ mr J 1015 a 0 = 9)
        have v5 := v'.2.2.2.2
        omega
  · subst e1; rw [e14]; exact h65.1
  · subst e1; rw [e14]; exact h65.2.1
  · subst e1
    rw [e14, b2_f c]
    exact ⟨fun w => absurd rfl w, fun _ => m_no ⟨u2e, INV_0 h0⟩⟩
end ST3
