/-! ===== passes ===== -/
noncomputable def rsF (f : rT → rT) : Nat → rT → Int → rT × Int
  | 0, s, p => (s, p)
  | m + 1, s, p => @ite _ ((f s).2.2 = s.2.2) (Classical.propDecidable _) (f s, p + 1) (rsF f m (f s) (p + 1))
theorem rsF_e {f : rT → rT} {m : Nat} {s : rT} {p : Int} (h : (f s).2.2 = s.2.2) : rsF f (m + 1) s p = (f s, p + 1) := if_pos h
theorem rsF_n {f : rT → rT} {m : Nat} {s : rT} {p : Int} (h : ¬ (f s).2.2 = s.2.2) : rsF f (m + 1) s p = rsF f m (f s) (p + 1) := if_neg h
/-- reasoning from sets -/
noncomputable def rsn (ρ : Int → Int → Int) (n h : Int) (S : Int → Int) : rT × Int := rsF (ddP ρ n h) 126 (S, 0, 0) 0
def fR2 (I0 I : cI) : Prop := ∀ a y, ¬ (a = 80 ∨ a = 81 ∨ a = 82) → I a y = I0 a y
section PC
variable {p : Nat} {n h : Int} {ρ : Int → Int → Int} {I0 : cI} {R : cR}
theorem c_26 {K : Int → Int → cI → cR → Prop} {Q : Int → cI → cR → Prop} {a j : Int} (hp : okp R p) (hh : 0 ≤ h ∧ h ≤ 5) (e2 : I0 p 2 = h) (e5 : I0 p 5 = n) (hv : pv I0 R p n ρ) (hg : gp 25 n ρ) (hn : 0 ≤ n ∧ n ≤ 65) {s0 : rT} (hs0 : gR s0) (k0 : 0 ≤ s0.2.2 ∧ s0.2.2 ≤ 125 ∧ cnt s0.1 + s0.2.2 ≤ 125) (hR : RV I0 s0) (hj : 0 ≤ j ∧ j ≤ 125) (ha : a = s0.2.2) (h1 : 0 ≤ I0 80 1 ∧ I0 80 1 ≤ 200)
    (hK : (ddP ρ n h s0).2.2 ≠ s0.2.2 → ∀ I, fR2 I0 I → RV I (ddP ρ n h s0) → I 80 1 = I0 80 1 + 1 → K (ddP ρ n h s0).2.2 (j + 1) I R) (hQ : (ddP ρ n h s0).2.2 = s0.2.2 → ∀ I, fR2 I0 I → RV I (ddP ρ n h s0) → I 80 1 = I0 80 1 + 1 → Q (ddP ρ n h s0).2.2 I R) : wX6_doPasses_26 Q p K 67 a j 0 0 I0 R := by
  have hp' : p = 85 ∨ p = 89 := hp.1
  have kb : ∀ t, stp s0 t → 0 ≤ t.2.2 - s0.2.2 ∧ t.2.2 - s0.2.2 ≤ 125 ∧ t.2.2 ≤ 125 ∧ cnt t.1 + t.2.2 ≤ 125 := fun t ht => by
    have := cnt_b ht.1
    have := ht.2.1
    have := ht.2.2
    omega
  have L : ∀ (m : Nat) (i k : Int) (t : rT) (I : cI), 0 ≤ i → i ≤ n → n - i < m → stp s0 t → k = t.2.2 - s0.2.2 → fR I0 I → RV I t → itF (fun i => ddR (ρ i) h) (n - i).toNat i t = ddP ρ n h s0 → wX6_doPasses_26 Q p K m a j k i I R := by
    intro m
    induction m with
    | zero => intro i k t I i0 i1 i2; omega
    | succ m ih =>
      intro i k t I i0 i1 i2 ht hk hf hR he
      show wbX6_doPasses_26 Q p K (wX6_doPasses_26 Q p K m) a j k i I R
      unfold wbX6_doPasses_26
      have hkb := kb t ht
      rw [hf p 5 (by omega), e5, hf p 2 (by omega), e2, hf 80 1 (by decide)]
      refine ⟨fun e => ⟨by unfold inR; omega, fun I2 e3 => ⟨by unfold inR; omega, fun z hz => ?_⟩⟩, fun e => ⟨by omega, ?_⟩⟩
      · have e0 : (n - i).toNat = 0 := by omega
        rw [e0] at he
        have he' : t = ddP ρ n h s0 := he
        rw [← he'] at hK hQ
        have f2 : fR2 I0 I2 := fun b y q => by subst e3; rw [u2a (by omega)]; exact hf b y (by omega)
        have r2 : RV I2 t := ⟨fun c c0 c1 => by subst e3; rw [u2a (by decide)]; exact hR.1 c c0 c1, by subst e3; rw [u2x (by decide)]; exact hR.2.1, fun c c0 c1 => by subst e3; rw [u2a (by decide)]; exact hR.2.2 c c0 c1⟩
        have p2 : I2 80 1 = I0 80 1 + 1 := by subst e3; exact u2e
        have ez : z = t.2.2 := by omega
        subst ez
        refine ⟨fun e4 => ⟨by unfold inR; omega, fun z2 hz2 => ?_⟩, fun e4 => ?_⟩
        · subst hz2; exact hK (by omega) I2 f2 r2 p2
        · exact hQ (by omega) I2 f2 r2 p2
      · have e1 : (n - i).toNat = (n - (i + 1)).toNat + 1 := by omega
        rw [e1] at he
        have hr := rg_R (hp.2.1 i i0 (by omega))
        have hvi := hv i i0 (by omega)
        have hri := okp_isR hp i0 (show i < 65 by omega)
        have hvI : rv I R (R (p + 2) i) (ρ i) := rv_fr (fun y => hf _ y (by omega)) (fun y => hf _ y (by omega)) hvi
        refine c_ddR hr hh hvI (hg i i0 (by omega)) ht.1 (by omega) hR (fun I3 hf3 hR3 => ?_)
        have hst := ddR_ok (h := h) (hg i i0 (by omega)) hh ht.1
        have hst2 := stp_t ht hst
        have hkb2 := kb _ hst2
        refine ⟨by unfold inR; omega, fun z hz => ⟨by unfold inR; omega, fun z2 hz2 => ?_⟩⟩
        subst hz2
        exact ih (i + 1) z (ddR (ρ i) h t) I3 (by omega) (by omega) (by omega) hst2 (by omega) (fR_t hf hf3) hR3 he
  exact L 67 0 0 s0 I0 (by decide) hn.1 (by omega) (stp_r hs0) (by omega) fR_r hR (by rw [show n - 0 = n by omega]; rfl)
theorem c_reason {Q : Int → cI → cR → Prop} {S : Int → Int} (hp : okp R p) (hh : 0 ≤ h ∧ h ≤ 5) (e2 : I0 p 2 = h) (e5 : I0 p 5 = n) (hv : pv I0 R p n ρ) (hg : gp 25 n ρ) (hn : 0 ≤ n ∧ n ≤ 65) (hS : ∀ c, 0 ≤ c → c < 25 → I0 81 c = S c) (hS2 : ∀ c, 0 ≤ c → c < 25 → 0 ≤ S c ∧ S c < 32) (h82 : ∀ c, 0 ≤ c → c < 25 → 0 ≤ I0 82 c ∧ I0 82 c ≤ 5)
    (hQ : ∀ I, fR2 I0 I → RV I (rsn ρ n h S).1 → I 80 1 = (rsn ρ n h S).2 → Q (rsn ρ n h S).1.2.2 I R) : wX6_doPasses p I0 R Q := by
  have hp' : p = 85 ∨ p = 89 := hp.1
  unfold wX6_doPasses
  intro I1 e1 I4 e4
  have L : ∀ (m : Nat) (j : Int) (s : rT) (I : cI), 0 ≤ j → 126 - j < m → j ≤ s.2.2 → cnt s.1 + s.2.2 ≤ 125 → gR s → fR2 I0 I → RV I s → I 80 1 = j → rsF (ddP ρ n h) (126 - j).toNat s j = rsn ρ n h S → wX6_doPasses_14 Q p m s.2.2 j I R := by
    intro m
    induction m with
    | zero =>
      intro j s I j0 j1 j2 j3 hs
      have := cnt_b hs
      omega
    | succ m ih =>
      intro j s I j0 j1 j2 j3 hs hf hR hj he
      have hcb := cnt_b hs
      show wbX6_doPasses_14 Q p (wX6_doPasses_14 Q p m) s.2.2 j I R
      unfold wbX6_doPasses_14
      have em : (126 - j).toNat = (126 - (j + 1)).toNat + 1 := by omega
      rw [em] at he
      have hst := ddP_ok (h := h) hg hn.1 hh hs
      refine ⟨fun e => by omega, fun e => ⟨67, c_26 (ρ := ρ) (n := n) (h := h) hp hh (by rw [hf p 2 (by omega)]; exact e2) (by rw [hf p 5 (by omega)]; exact e5) (pv_fr hp hn.2 (fun a x q => hf a x (by omega)) hv) hg hn hs (by omega) hR (by omega) rfl (by omega) (fun ne I2 hf2 hR2 h12 => ?_) (fun eq I2 hf2 hR2 h12 => ?_)⟩⟩
      · rw [rsF_n ne] at he
        have := hst.2.1
        have := hst.2.2
        exact ih (j + 1) _ I2 (by omega) (by omega) (by omega) (by omega) hst.1 (fun a y q => (hf2 a y q).trans (hf a y q)) hR2 (by omega) he
      · rw [rsF_e eq] at he
        rw [← he] at hQ
        exact hQ I2 (fun a y q => (hf2 a y q).trans (hf a y q)) hR2 (by show I2 80 1 = j + 1; omega)
  subst e1; subst e4
  have g0 : gR (S, 0, 0) := ⟨hS2, by show (0 : Int) ≤ 0; decide, by show (0 : Int) ≤ 5; decide⟩
  have c0 := cnt_b g0
  have c1 : cnt S ≤ 125 := c0.2
  refine ⟨127, L 127 0 (S, 0, 0) _ (by decide) (by decide) (show (0 : Int) ≤ 0 by decide) ?_ g0 (fun a y q => ?_) ⟨fun c c0 c1 => ?_, u2e, fun c c0 c1 => ?_⟩ ?_ rfl⟩
  · show cnt S + 0 ≤ 125; omega
  · rw [u2a (by omega), u2a (by omega)]
  · rw [u2a (by decide), u2a (by decide)]; exact hS c c0 c1
  · rw [u2a (by decide), u2a (by decide)]; exact h82 c c0 c1
  · rw [u2x (by decide), u2e]
end PC
/-! the reference -/
def RM (J : cI) (s : rT) : Prop := (∀ c, 0 ≤ c → c < 25 → J 1030 c = s.1 c) ∧ J 1000 32 = s.2.1
def fRM (J0 J : cI) : Prop := ∀ a y, ¬ (a = 1030 ∨ a = 1021 ∨ (a = 1000 ∧ y = 32)) → J a y = J0 a y
theorem fRM_r {J : cI} : fRM J J := fun _ _ _ => rfl
theorem fRM_t {I J K : cI} (h : fRM I J) (g : fRM J K) : fRM I K := fun a y q => (g a y q).trans (h a y q)
theorem fRM_u {J0 J : cI} {a : Nat} {x v : Int} (h : fRM J0 J) (e : a = 1030 ∨ a = 1021 ∨ (a = 1000 ∧ x = 32)) : fRM J0 (up2 J a x v) := fun b y q => (u2n (fun w => q (by rw [w.1, w.2]; exact e))).trans (h b y q)
theorem fRM_mr {J0 J : cI} (h : fRM J0 J) : mr J 1015 = mr J0 1015 := mr_fr (fun a x q1 q2 => h a x (by omega))
section PM
variable {r n h : Int} {J0 : cI} {Q : Int → cI → Prop}
def fRM2 (J0 J : cI) : Prop := ∀ a y, ¬ (a = 1030 ∨ a = 1021 ∨ (a = 1000 ∧ (y = 0 ∨ y = 31 ∨ y = 32))) → J a y = J0 a y
end PM
