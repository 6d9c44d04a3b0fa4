/-! ===== passes ===== -/
noncomputable def rsF (f : rT → rT) : Nat → rT → Int → rT × Int
  | 0, s, p => (s, p)
  | m + 1, s, p => @ite _ ((f s).2.2 = s.2.2) (Classical.propDecidable _) (f s, p + 1) (rsF f m (f s) (p + 1))
theorem rsF_e {f : rT → rT} {m : Nat} {s : rT} {p : Int} (h : (f s).2.2 = s.2.2) : rsF f (m + 1) s p = (f s, p + 1) := if_pos h
theorem rsF_n {f : rT → rT} {m : Nat} {s : rT} {p : Int} (h : ¬ (f s).2.2 = s.2.2) : rsF f (m + 1) s p = rsF f m (f s) (p + 1) := if_neg h
/-- reasoning from sets -/
noncomputable def rsn (ρ : Int → Int → Int) (n h : Int) (S : Int → Int) : rT × Int := rsF (ddP ρ n h) 126 (S, 0, 0) 0
def fR2 (I0 I : cI) : Prop := ∀ a y, ¬ (a = 80 ∨ a = 81 ∨ a = 82) → I a y = I0 a y
section PC
variable {p : Nat} {n h : Int} {ρ : Int → Int → Int} {I0 : cI} {R : cR}
theorem c_26 {K : Int → Int → cI → cR → Prop} {Q : Int → cI → cR → Prop} {a j : Int} (hp : okp R p) (hh : 0 ≤ h ∧ h ≤ 5) (e2 : I0 p 2 = h) (e5 : I0 p 5 = n) (hv : pv I0 R p n ρ) (hg : gp 25 n ρ) (hn : 0 ≤ n ∧ n ≤ 65) {s0 : rT} (hs0 : gR s0) (k0 : 0 ≤ s0.2.2 ∧ s0.2.2 ≤ 125 ∧ cnt s0.1 + s0.2.2 ≤ 125) (hR : RV I0 s0) (hj : 0 ≤ j ∧ j ≤ 125) (ha : a = s0.2.2) (h1 : 0 ≤ I0 80 1 ∧ I0 80 1 ≤ 200)
    (hK : (ddP ρ n h s0).2.2 ≠ s0.2.2 → ∀ I, fR2 I0 I → RV I (ddP ρ n h s0) → I 80 1 = I0 80 1 + 1 → K (ddP ρ n h s0).2.2 (j + 1) I R) (hQ : (ddP ρ n h s0).2.2 = s0.2.2 → ∀ I, fR2 I0 I → RV I (ddP ρ n h s0) → I 80 1 = I0 80 1 + 1 → Q (ddP ρ n h s0).2.2 I R) : wX6_doPasses_26 Q p K 67 a j 0 0 I0 R := by
  have hp' : p = 85 ∨ p = 89 := hp.1
  have kb : ∀ t, stp s0 t → 0 ≤ t.2.2 - s0.2.2 ∧ t.2.2 - s0.2.2 ≤ 125 ∧ t.2.2 ≤ 125 ∧ cnt t.1 + t.2.2 ≤ 125 := fun t ht => by
    have := cnt_b ht.1
    have := ht.2.1
    have := ht.2.2
    omega
  have L : ∀ (m : Nat) (i k : Int) (t : rT) (I : cI), 0 ≤ i → i ≤ n → n - i < m → stp s0 t → k = t.2.2 - s0.2.2 → fR I0 I → RV I t → itF (fun i => ddR (ρ i) h) (n - i).toNat i t = ddP ρ n h s0 → wX6_doPasses_26 Q p K m a j k i I R := by
    intro m
    induction m with
    | zero => intro i k t I i0 i1 i2; omega
    | succ m ih =>
      intro i k t I i0 i1 i2 ht hk hf hR he
      show wbX6_doPasses_26 Q p K (wX6_doPasses_26 Q p K m) a j k i I R
      unfold wbX6_doPasses_26
      have hkb := kb t ht
      rw [hf p 5 (by omega), e5, hf p 2 (by omega), e2, hf 80 1 (by decide)]
      refine ⟨fun e => ⟨by unfold inR; omega, fun I2 e3 => ⟨by unfold inR; omega, fun z hz => ?_⟩⟩, fun e => ⟨by omega, ?_⟩⟩
      · have e0 : (n - i).toNat = 0 := by omega
        rw [e0] at he
        have he' : t = ddP ρ n h s0 := he
        rw [← he'] at hK hQ
        have f2 : fR2 I0 I2 := fun b y q => by subst e3; rw [u2a (by omega)]; exact hf b y (by omega)
        have r2 : RV I2 t := ⟨fun c c0 c1 => by subst e3; rw [u2a (by decide)]; exact hR.1 c c0 c1, by subst e3; rw [u2x (by decide)]; exact hR.2.1, fun c c0 c1 => by subst e3; rw [u2a (by decide)]; exact hR.2.2 c c0 c1⟩
        have p2 : I2 80 1 = I0 80 1 + 1 := by subst e3; exact u2e
        have ez : z = t.2.2 := by omega
        subst ez
        refine ⟨fun e4 => ⟨by unfold inR; omega, fun z2 hz2 => ?_⟩, fun e4 => ?_⟩
        · subst hz2; exact hK (by omega) I2 f2 r2 p2
        · exact hQ (by omega) I2 f2 r2 p2
      · have e1 : (n - i).toNat = (n - (i + 1)).toNat + 1 := by omega
        rw [e1] at he
        have hr := rg_R (hp.2.1 i i0 (by omega))
        have hvi := hv i i0 (by omega)
        have hri := okp_isR hp i0 (show i < 65 by omega)
        have hvI : rv I R (R (p + 2) i) (ρ i) := rv_fr (fun y => hf _ y (by omega)) (fun y => hf _ y (by omega)) hvi
        refine c_ddR hr hh hvI (hg i i0 (by omega)) ht.1 (by omega) hR (fun I3 hf3 hR3 => ?_)
        have hst := ddR_ok (h := h) (hg i i0 (by omega)) hh ht.1
        have hst2 := stp_t ht hst
        have hkb2 := kb _ hst2
        refine ⟨by unfold inR; omega, fun z hz => ⟨by unfold inR; omega, fun z2 hz2 => ?_⟩⟩
        subst hz2
        exact ih (i + 1) z (ddR (ρ i) h t) I3 (by omega) (by omega) (by omega) hst2 (by omega) (fR_t hf hf3) hR3 he
  exact L 67 0 0 s0 I0 (by decide) hn.1 (by omega) (stp_r hs0) (by omega) fR_r hR (by rw [show n - 0 = n by omega]; rfl)
theorem c_reason {Q : Int → cI → cR → Prop} {S : Int → Int} (hp : okp R p) (hh : 0 ≤ h ∧ h ≤ 5) (e2 : I0 p 2 = h) (e5 : I0 p 5 = n) (hv : pv I0 R p n ρ) (hg : gp 25 n ρ) (hn : 0 ≤ n ∧ n ≤ 65) (hS : ∀ c, 0 ≤ c → c < 25 → I0 81 c = S c) (hS2 : ∀ c, 0 ≤ c → c < 25 → 0 ≤ S c ∧ S c < 32) (h82 : ∀ c, 0 ≤ c → c < 25 → 0 ≤ I0 82 c ∧ I0 82 c ≤ 5)
    (hQ : ∀ I, fR2 I0 I → RV I (rsn ρ n h S).1 → I 80 1 = (rsn ρ n h S).2 → Q (rsn ρ n h S).1.2.2 I R) : wX6_doPasses p I0 R Q := by
  have hp' : p = 85 ∨ p = 89 := hp.1
  unfold wX6_doPasses
  intro I1 e1 I4 e4
  have L : ∀ (m : Nat) (j : Int) (s : rT) (I : cI), 0 ≤ j → 126 - j < m → j ≤ s.2.2 → cnt s.1 + s.2.2 ≤ 125 → gR s → fR2 I0 I → RV I s → I 80 1 = j → rsF (ddP ρ n h) (126 - j).toNat s j = rsn ρ n h S → wX6_doPasses_14 Q p m s.2.2 j I R := by
    intro m
    induction m with
    | zero =>
      intro j s I j0 j1 j2 j3 hs
      have := cnt_b hs
      omega
    | succ m ih =>
      intro j s I j0 j1 j2 j3 hs hf hR hj he
      have hcb := cnt_b hs
      show wbX6_doPasses_14 Q p (wX6_doPasses_14 Q p m) s.2.2 j I R
      unfold wbX6_doPasses_14
      have em : (126 - j).toNat = (126 - (j + 1)).toNat + 1 := by omega
      rw [em] at he
      have hst := ddP_ok (h := h) hg hn.1 hh hs
      refine ⟨fun e => by omega, fun e => ⟨67, c_26 (ρ := ρ) (n := n) (h := h) hp hh (by rw [hf p 2 (by omega)]; exact e2) (by rw [hf p 5 (by omega)]; exact e5) (pv_fr hp hn.2 (fun a x q => hf a x (by omega)) hv) hg hn hs (by omega) hR (by omega) rfl (by omega) (fun ne I2 hf2 hR2 h12 => ?_) (fun eq I2 hf2 hR2 h12 => ?_)⟩⟩
      · rw [rsF_n ne] at he
        have := hst.2.1
        have := hst.2.2
        exact ih (j + 1) _ I2 (by omega) (by omega) (by omega) (by omega) hst.1 (fun a y q => (hf2 a y q).trans (hf a y q)) hR2 (by omega) he
      · rw [rsF_e eq] at he
        rw [← he] at hQ
        exact hQ I2 (fun a y q => (hf2 a y q).trans (hf a y q)) hR2 (by show I2 80 1 = j + 1; omega)
  subst e1; subst e4
  have g0 : gR (S, 0, 0) := ⟨hS2, by show (0 : Int) ≤ 0; decide, by show (0 : Int) ≤ 5; decide⟩
  have c0 := cnt_b g0
  have c1 : cnt S ≤ 125 := c0.2
  refine ⟨127, L 127 0 (S, 0, 0) _ (by decide) (by decide) (show (0 : Int) ≤ 0 by decide) ?_ g0 (fun a y q => ?_) ⟨fun c c0 c1 => ?_, u2e, fun c c0 c1 => ?_⟩ ?_ rfl⟩
  · show cnt S + 0 ≤ 125; omega
  · rw [u2a (by omega), u2a (by omega)]
  · rw [u2a (by decide), u2a (by decide)]; exact hS c c0 c1
  · rw [u2a (by decide), u2a (by decide)]; exact h82 c c0 c1
  · rw [u2x (by decide), u2e]
end PC
/-! the reference -/
def RM (J : cI) (s : rT) : Prop := (∀ c, 0 ≤ c → c < 25 → J 1030 c = s.1 c) ∧ J 1000 32 = s.2.1
def fRM (J0 J : cI) : Prop := ∀ a y, ¬ (a = 1030 ∨ a = 1021 ∨ (a = 1000 ∧ y = 32)) → J a y = J0 a y
theorem fRM_r {J : cI} : fRM J J := fun _ _ _ => rfl
theorem fRM_t {I J K : cI} (h : fRM I J) (g : fRM J K) : fRM I K := fun a y q => (g a y q).trans (h a y q)
theorem fRM_u {J0 J : cI} {a : Nat} {x v : Int} (h : fRM J0 J) (e : a = 1030 ∨ a = 1021 ∨ (a = 1000 ∧ x = 32)) : fRM J0 (up2 J a x v) := fun b y q => (u2n (fun w => q (by rw [w.1, w.2]; exact e))).trans (h b y q)
theorem fRM_mr {J0 J : cI} (h : fRM J0 J) : mr J 1015 = mr J0 1015 := mr_fr (fun a x q1 q2 => h a x (by omega))
section PM
variable {r n h : Int} {J0 : cI} {Q : Int → cI → Prop}
theorem m_grade {J : cI} {S : Int → Int} (hr : 0 ≤ r ∧ r < 70) (hg : gr 25 (mr J 1015 r)) (hS : ∀ c, 0 ≤ c → c < 25 → J 1030 c = S c) (hQ : Q (gd (mr J 1015 r) S) J) : wX12_gradeOf r J Q := by
  obtain ⟨g0, g1, g2, g3, g4, g5, g6, g7, g8, g9, g10, g11, g12⟩ := hg
  have e3 : mr J 1015 r 3 = J 1018 r := mr3
  have L : ∀ (m : Nat) (x s : Int), 0 ≤ x → x ≤ mr J 1015 r 3 → 0 ≤ s → s ≤ x → mr J 1015 r 3 - x < m → s + cF (fun i => 1 < bc (S (mr J 1015 r (4 + i)))) x (mr J 1015 r 3) = gd (mr J 1015 r) S → wX12_gradeOf_4 Q r m s x J := by
    intro m
    induction m with
    | zero => intro x s h0 h1 h2 h3 h4; omega
    | succ m ih =>
      intro x s h0 h1 h2 h3 h4 h5
      show wbX12_gradeOf_4 Q r (wX12_gradeOf_4 Q r m) s x J
      unfold wbX12_gradeOf_4 wX12_cellOf
      dsimp only
      rw [← e3]
      refine ⟨hr, fun e => ?_, fun e => ⟨by omega, ?_⟩⟩
      · rw [cF_e e] at h5
        have : s = gd (mr J 1015 r) S := by omega
        rw [this]; exact hQ
      · have hc := g11 x h0 (by omega)
        have e4 : J 1019 (5 * r + x) = mr J 1015 r (4 + x) := (mr4 h0).symm
        rw [e4, hS _ hc.1 hc.2]
        refine ⟨hc, fun b => ⟨by unfold inR; omega, fun y hy => ⟨by unfold inR; omega, fun y2 hy2 => ?_⟩⟩, fun b => ⟨by unfold inR; omega, fun y hy => ⟨by unfold inR; omega, fun y2 hy2 => ?_⟩⟩⟩
        · rw [cF_f (p := fun i => 1 < bc (S (mr J 1015 r (4 + i)))) (show ¬ 1 < bc (S (mr J 1015 r (4 + x))) by omega)] at h5
          subst hy; subst hy2; exact ih _ _ (by omega) (by omega) (by omega) (by omega) (by omega) (by omega)
        · rw [cF_t (p := fun i => 1 < bc (S (mr J 1015 r (4 + i)))) (by omega) (show 1 < bc (S (mr J 1015 r (4 + x))) by omega)] at h5
          subst hy; subst hy2; exact ih _ _ (by omega) (by omega) (by omega) (by omega) (by omega) (by omega)
  exact ⟨7, L 7 0 0 (by decide) g6 (by decide) (by decide) (by omega) (by unfold gd; omega)⟩
theorem m_27 {K4 : Int → Int → cI → Prop} {K14 : Int → Int → Int → cI → Prop} {x : Int} {s0 : rT} (hr : 0 ≤ r ∧ r < 70) (hk : J0 1000 13 = h) (hh : 0 ≤ h ∧ h ≤ 5) (hg : gr 25 (mr J0 1015 r)) (hx : 0 ≤ x ∧ x < mr J0 1015 r 3) (k0 : 0 ≤ s0.2.2 ∧ s0.2.2 ≤ 125 ∧ cnt s0.1 + s0.2.2 ≤ 125) :
    ∀ (m : Nat) (w k : Int) (t : rT) (J : cI), 1 ≤ w → w ≤ h + 1 → h + 1 - w < m → stp s0 t → k = t.2.2 - s0.2.2 → fRM J0 J → RM J t →
      (∀ J, fRM J0 J → RM J (itF (fun w => ded (mr J0 1015 r) h x w) (h + 1 - w).toNat w t) → K14 ((itF (fun w => ded (mr J0 1015 r) h x w) (h + 1 - w).toNat w t).2.2 - s0.2.2) r (x + 1) J) → wX12_pass_27 Q K4 K14 m k r x w J := by
  have hg' := hg
  obtain ⟨g0, g1, g2, g3, g4, g5, g6, g7, g8, g9, g10, g11, g12⟩ := hg'
  have kb : ∀ t, stp s0 t → 0 ≤ t.2.2 - s0.2.2 ∧ t.2.2 - s0.2.2 ≤ 125 := fun t ht => by
    have := cnt_b ht.1
    have := ht.2.1
    have := ht.2.2
    omega
  intro m
  induction m with
  | zero => intro w k t J w0 w1 w2; omega
  | succ m ih =>
    intro w k t J w0 w1 w2 ht hkk hf hR hK
    show wbX12_pass_27 Q K4 K14 (wX12_pass_27 Q K4 K14 m) k r x w J
    unfold wbX12_pass_27 wX12_cellOf
    dsimp only
    have hkb := kb t ht
    have jk : J 1000 13 = h := (hf 1000 13 (by decide)).trans hk
    rw [jk]
    refine ⟨fun e => ⟨by unfold inR; omega, fun z hz => ?_⟩, fun e => ⟨by omega, ?_⟩⟩
    · have e0 : (h + 1 - w).toNat = 0 := by omega
      rw [e0] at hK
      subst hz; subst hkk
      exact hK J hf hR
    · have e1 : (h + 1 - w).toNat = (h + 1 - (w + 1)).toNat + 1 := by omega
      rw [e1] at hK
      have hc := g11 x hx.1 hx.2
      have jr := fRM_mr hf
      have ez : J 1019 (5 * r + x) = mr J0 1015 r (4 + x) := (hf 1019 _ (by omega)).trans (mr4 hx.1).symm
      rw [ez, hR.1 _ hc.1 hc.2]
      have hb := ht.1.1 _ hc.1 hc.2
      have skip : ded (mr J0 1015 r) h x w t = t → ∀ J, fRM J0 J → RM J t → inR (w + 1) ∧ ∀ z, z = w + 1 → wX12_pass_27 Q K4 K14 m k r x z J := fun ed J hf hR => ⟨by unfold inR; omega, fun z hz => by
        subst hz
        refine ih (w + 1) k t J (by omega) (by omega) (by omega) ht hkk hf hR ?_
        have hK2 : ∀ J, fRM J0 J → RM J (itF (fun w => ded (mr J0 1015 r) h x w) (h + 1 - (w + 1)).toNat (w + 1) (ded (mr J0 1015 r) h x w t)) → K14 ((itF (fun w => ded (mr J0 1015 r) h x w) (h + 1 - (w + 1)).toNat (w + 1) (ded (mr J0 1015 r) h x w t)).2.2 - s0.2.2) r (x + 1) J := hK
        rw [ed] at hK2
        exact hK2⟩
      refine ⟨hc, fun t0 => skip (if_neg (fun n => n.1 t0)) J hf hR, fun t1 => ?_⟩
      refine m_poss (S := t.1) hr jk hh (by rw [jr]; exact hg) (by rw [jr]; exact hx) ⟨w0, by omega⟩ hR.1 (by rw [jr]; exact t1) (fun J13 h13 => ?_)
      rw [jr]
      have hf13 : fRM J0 J13 := fRM_t hf (fun a y q => h13 a y (by omega))
      have hR13 : RM J13 t := ⟨fun c c0 c1 => (h13 1030 c (by decide)).trans (hR.1 c c0 c1), (h13 1000 32 (by decide)).trans hR.2⟩
      by_cases rr : rf (mr J0 1015 r) h t.1 x w
      · have ed : ded (mr J0 1015 r) h x w t = (upF t.1 (mr J0 1015 r (4 + x)) (tk (t.1 (mr J0 1015 r (4 + x))) w), imax t.2.1 (gd (mr J0 1015 r) t.1), t.2.2 + 1) := if_pos rr
        rw [b2_f (fun n => n rr)]
        refine ⟨fun _ => ?_, fun n => absurd rfl n⟩
        have htk := tk_b hb.1 hb.2 w0 (by omega) rr.1
        have hst := ded_ok (h := h) (x := x) (w := w) hg hx ⟨w0, by omega⟩ ht.1
        refine m_grade hr (by rw [fRM_mr hf13]; exact hg) hR13.1 (fun J20 e20 => ⟨hc, hc, fun J25 e25 => ⟨by unfold inR; omega, fun z hz => ⟨by unfold inR; omega, fun z2 hz2 => ?_⟩⟩⟩)
        rw [fRM_mr hf13] at e20
        subst hz2
        rw [ed] at hst
        have q30 : J20 1030 (mr J0 1015 r (4 + x)) = t.1 (mr J0 1015 r (4 + x)) := by subst e20; rw [u2a (by decide)]; exact hR13.1 _ hc.1 hc.2
        rw [q30, htk.2.2.1] at e25
        refine ih (w + 1) z _ J25 (by omega) (by omega) (by omega) (stp_t ht hst) (by show z = t.2.2 + 1 - s0.2.2; omega) ?_ ⟨fun c c0 c1 => ?_, ?_⟩ ?_
        · subst e25; subst e20; exact fRM_u (fRM_u hf13 (Or.inr (Or.inr ⟨rfl, rfl⟩))) (Or.inl rfl)
        · show J25 1030 c = upF t.1 (mr J0 1015 r (4 + x)) (tk (t.1 (mr J0 1015 r (4 + x))) w) c
          subst e25
          by_cases ec : c = mr J0 1015 r (4 + x)
          · subst ec; rw [u2e, uFe]
          · rw [u2x ec, uFn ec]; subst e20; rw [u2a (by decide)]; exact hR13.1 c c0 c1
        · show J25 1000 32 = imax t.2.1 (gd (mr J0 1015 r) t.1)
          subst e25; rw [u2a (by decide)]; subst e20; rw [u2e, hR13.2]
        · rw [← ed]; exact hK
      · have ed : ded (mr J0 1015 r) h x w t = t := if_neg rr
        rw [b2_t rr]
        exact ⟨fun n => absurd n (by decide), fun _ => skip ed J13 hf13 hR13⟩
theorem m_pass {s0 : rT} (hk : J0 1000 13 = h) (hh : 0 ≤ h ∧ h ≤ 5) (e5 : J0 1000 14 = n) (hg : gp 25 n (mr J0 1015)) (hn : 0 ≤ n ∧ n ≤ 65) (hs0 : gR s0) (k0 : 0 ≤ s0.2.2 ∧ s0.2.2 ≤ 125 ∧ cnt s0.1 + s0.2.2 ≤ 125) (hR : RM J0 s0)
    (hQ : ∀ J, fRM J0 J → RM J (ddP (mr J0 1015) n h s0) → Q ((ddP (mr J0 1015) n h s0).2.2 - s0.2.2) J) : wX12_pass J0 Q := by
  have L14 : ∀ (K4 : Int → Int → cI → Prop) (r : Int), 0 ≤ r → r < n → ∀ (m : Nat) (x k : Int) (t : rT) (J : cI), 0 ≤ x → x ≤ mr J0 1015 r 3 → mr J0 1015 r 3 - x < m → stp s0 t → k = t.2.2 - s0.2.2 → fRM J0 J → RM J t →
      (∀ J, fRM J0 J → RM J (itF (fun x => dd1 (mr J0 1015 r) h x) (mr J0 1015 r 3 - x).toNat x t) → K4 ((itF (fun x => dd1 (mr J0 1015 r) h x) (mr J0 1015 r 3 - x).toNat x t).2.2 - s0.2.2) (r + 1) J) → wX12_pass_14 Q K4 m k r x J := by
    intro K4 r r0 r1 m
    have hgr := hg r r0 r1
    have g7 := hgr.2.2.2.2.2.2.2.1
    induction m with
    | zero => intro x k t J x0 x1 x2; omega
    | succ m ih =>
      intro x k t J x0 x1 x2 ht hkk hf hR hK
      show wbX12_pass_14 Q K4 (wX12_pass_14 Q K4 m) k r x J
      unfold wbX12_pass_14
      have e3 : J 1018 r = mr J0 1015 r 3 := (hf 1018 r (by omega)).trans mr3.symm
      rw [e3]
      refine ⟨by omega, fun e => ⟨by unfold inR; omega, fun z hz => ?_⟩, fun e => ⟨7, ?_⟩⟩
      · have e0 : (mr J0 1015 r 3 - x).toNat = 0 := by omega
        rw [e0] at hK
        subst hz; subst hkk
        exact hK J hf hR
      · have e1 : (mr J0 1015 r 3 - x).toNat = (mr J0 1015 r 3 - (x + 1)).toNat + 1 := by omega
        rw [e1] at hK
        have h1 := dd1_ok (h := h) (x := x) hgr ⟨x0, by omega⟩ hh ht.1
        refine m_27 (J0 := J0) (by omega) hk hh hgr ⟨x0, by omega⟩ k0 7 1 k t J (by decide) (by omega) (by omega) ht hkk hf hR (fun J2 hf2 hR2 => ?_)
        rw [show (h + 1 - 1).toNat = h.toNat by omega] at hR2 ⊢
        exact ih (x + 1) _ (dd1 (mr J0 1015 r) h x t) J2 (by omega) (by omega) (by omega) (stp_t ht h1) rfl hf2 hR2 hK
  have L : ∀ (m : Nat) (i k : Int) (t : rT) (J : cI), 0 ≤ i → i ≤ n → n - i < m → stp s0 t → k = t.2.2 - s0.2.2 → fRM J0 J → RM J t → itF (fun i => ddR (mr J0 1015 i) h) (n - i).toNat i t = ddP (mr J0 1015) n h s0 → wX12_pass_4 Q m k i J := by
    intro m
    induction m with
    | zero => intro i k t J i0 i1 i2; omega
    | succ m ih =>
      intro i k t J i0 i1 i2 ht hkk hf hR he
      show wbX12_pass_4 Q (wX12_pass_4 Q m) k i J
      unfold wbX12_pass_4
      have e4 : J 1000 14 = n := (hf 1000 14 (by decide)).trans e5
      rw [e4]
      refine ⟨fun e => ?_, fun e => ⟨7, ?_⟩⟩
      · have e0 : (n - i).toNat = 0 := by omega
        rw [e0] at he
        have he' : t = ddP (mr J0 1015) n h s0 := he
        subst hkk
        rw [he'] at hR ⊢
        exact hQ J hf hR
      · have e1 : (n - i).toNat = (n - (i + 1)).toNat + 1 := by omega
        rw [e1] at he
        have hgr := hg i i0 (by omega)
        have g6 := hgr.2.2.2.2.2.2.1
        have g7 := hgr.2.2.2.2.2.2.2.1
        have hst := ddR_ok (h := h) hgr hh ht.1
        refine L14 _ i i0 (by omega) 7 0 k t J (by decide) g6 (by omega) ht hkk hf hR (fun J2 hf2 hR2 => ?_)
        rw [show (mr J0 1015 i 3 - 0).toNat = (mr J0 1015 i 3).toNat by omega] at hR2 ⊢
        exact ih (i + 1) _ (ddR (mr J0 1015 i) h t) J2 (by omega) (by omega) (by omega) (stp_t ht hst) rfl hf2 hR2 he
  exact ⟨67, L 67 0 0 s0 J0 (by decide) hn.1 (by omega) (stp_r hs0) (by omega) fRM_r hR (by rw [show n - 0 = n by omega]; rfl)⟩
def fRM2 (J0 J : cI) : Prop := ∀ a y, ¬ (a = 1030 ∨ a = 1021 ∨ (a = 1000 ∧ (y = 0 ∨ y = 31 ∨ y = 32))) → J a y = J0 a y
theorem m_reason {S : Int → Int} (hk : J0 1000 13 = h) (hh : 0 ≤ h ∧ h ≤ 5) (e5 : J0 1000 14 = n) (hg : gp 25 n (mr J0 1015)) (hn : 0 ≤ n ∧ n ≤ 65) (hS : ∀ c, 0 ≤ c → c < 25 → J0 1030 c = S c) (hS2 : ∀ c, 0 ≤ c → c < 25 → 0 ≤ S c ∧ S c < 32)
    (hQ : ∀ J, fRM2 J0 J → RM J (rsn (mr J0 1015) n h S).1 → J 1000 31 = (rsn (mr J0 1015) n h S).2 → J 1000 0 = 0 → Q (rsn (mr J0 1015) n h S).1.2.2 J) : wX12_reason J0 Q := by
  unfold wX12_reason
  intro J1 e1 J4 e4 J7 e7
  have L : ∀ (m : Nat) (j : Int) (s : rT) (J : cI) (last : Int), 0 ≤ j → j ≤ 126 → 126 - j < m → 0 ≤ s.2.2 → fRM2 J0 J → RM J s → J 1000 31 = j → J 1000 0 = 0 →
      ((0 < last ∧ j ≤ s.2.2 ∧ cnt s.1 + s.2.2 ≤ 125 ∧ gR s ∧ rsF (ddP (mr J0 1015) n h) (126 - j).toNat s j = rsn (mr J0 1015) n h S) ∨ (last ≤ 0 ∧ (s, j) = rsn (mr J0 1015) n h S)) → wX12_reason_19 Q m s.2.2 last J := by
    intro m
    induction m with
    | zero => intro j s J last j0 j1 j2; omega
    | succ m ih =>
      intro j s J last j0 j1 j2 j3 hf hR hj h00 hc
      show wbX12_reason_19 Q (wX12_reason_19 Q m) s.2.2 last J
      unfold wbX12_reason_19
      refine ⟨fun e => ?_, fun e => ?_⟩
      · rcases hc with hc | hc
        · omega
        · rw [← hc.2] at hQ; exact hQ J hf hR hj h00
      · rcases hc with hc | hc
        · obtain ⟨_, c1, c2, c3, he⟩ := hc
          have hcb := cnt_b c3
          have jr : mr J 1015 = mr J0 1015 := mr_fr (fun a x q1 q2 => hf a x (by omega))
          have em : (126 - j).toNat = (126 - (j + 1)).toNat + 1 := by omega
          rw [em] at he
          have hst := ddP_ok (h := h) hg hn.1 hh c3
          have hb2 := cnt_b hst.1
          have hs1 := hst.2.1
          have hs2 := hst.2.2
          refine m_pass (h := h) (n := n) ((hf 1000 13 (by decide)).trans hk) hh ((hf 1000 14 (by decide)).trans e5) (by rw [jr]; exact hg) hn c3 (by omega) hR (fun J2 hf2 hR2 => ?_)
          rw [jr] at hR2 ⊢
          have p31 : J2 1000 31 = j := (hf2 1000 31 (by decide)).trans hj
          rw [p31]
          refine ⟨by unfold inR; omega, fun J6 e6 => ⟨by unfold inR; omega, fun z hz => ?_⟩⟩
          have ez : z = (ddP (mr J0 1015) n h s).2.2 := by omega
          subst ez
          refine ih (j + 1) _ J6 _ (by omega) (by omega) (by omega) (by omega) (fun a y q => ?_) ⟨fun c c0 c1 => ?_, ?_⟩ (by subst e6; exact u2e) ?_ ?_
          · subst e6; rw [u2n (by omega)]; exact (hf2 a y (by omega)).trans (hf a y q)
          · subst e6; rw [u2a (by decide)]; exact hR2.1 c c0 c1
          · subst e6; rw [u2x (by decide)]; exact hR2.2
          · subst e6; rw [u2x (by decide)]; exact (hf2 1000 0 (by decide)).trans h00
          · by_cases ne : (ddP (mr J0 1015) n h s).2.2 = s.2.2
            · rw [rsF_e ne] at he
              exact Or.inr ⟨by omega, he⟩
            · rw [rsF_n ne] at he
              exact Or.inl ⟨by omega, by omega, by omega, hst.1, he⟩
        · omega
  have g0 : gR (S, 0, 0) := ⟨hS2, by show (0 : Int) ≤ 0; decide, by show (0 : Int) ≤ 5; decide⟩
  have c0 := cnt_b g0
  have c1 : cnt S ≤ 125 := c0.2
  refine ⟨127, L 127 0 (S, 0, 0) J7 1 (by decide) (by decide) (by decide) (show (0 : Int) ≤ 0 by decide) (fun a y q => ?_) ⟨fun c c0 c1 => ?_, ?_⟩ ?_ ?_ (Or.inl ⟨by decide, show (0 : Int) ≤ 0 by decide, ?_, g0, rfl⟩)⟩
  · subst e7; subst e4; subst e1; rw [u2n (by omega), u2n (by omega), u2n (by omega)]
  · subst e7; subst e4; subst e1; rw [u2a (by decide), u2a (by decide), u2a (by decide)]; exact hS c c0 c1
  · subst e7; exact u2e
  · subst e7; subst e4; rw [u2x (by decide), u2e]
  · subst e7; subst e4; subst e1; rw [u2x (by decide), u2x (by decide), u2e]
  · show cnt S + 0 ≤ 125; omega
end PM
