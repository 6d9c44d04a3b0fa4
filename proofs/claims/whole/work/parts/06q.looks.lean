/-! ===== look, hint, step, reason, reasoned ===== -/
theorem rsF_ok {f : rT → rT} (hf : ∀ s, gR s → gR (f s)) : ∀ (m : Nat) (s : rT) (p : Int), gR s → gR (rsF f m s p).1 := by
  intro m
  induction m with
  | zero => intro s p h; exact h
  | succ m ih =>
    intro s p h
    by_cases c : (f s).2.2 = s.2.2
    · rw [rsF_e c]; exact hf s h
    · rw [rsF_n c]; exact ih _ _ (hf s h)
theorem rsn_ok {ρ : Int → Int → Int} {n h : Int} {S : Int → Int} (hg : gp 25 n ρ) (hn : 0 ≤ n) (hh : 0 ≤ h ∧ h ≤ 5) (hS : ∀ c, 0 ≤ c → c < 25 → 0 ≤ S c ∧ S c < 32) : gR (rsn ρ n h S).1 :=
  rsF_ok (fun s hs => (ddP_ok hg hn hh hs).1) 126 _ _ ⟨hS, Int.le_refl 0, by show (0 : Int) ≤ 5; decide⟩
def lk (k g : Int) : Int := if g = 0 then iShl 1 k - 1 else iShl 1 (g - 1)
theorem lk_all : ∀ k : Nat, k < 6 → ∀ g : Nat, g < k + 1 → 0 ≤ lk (k : Int) (g : Int) ∧ lk (k : Int) (g : Int) < 32 := by decide +kernel
theorem lk_b {k g : Int} (k0 : 0 ≤ k) (k1 : k ≤ 5) (g0 : 0 ≤ g) (g1 : g ≤ k) : 0 ≤ lk k g ∧ lk k g < 32 := by
  have h := lk_all k.toNat (by omega) g.toNat (by omega)
  rw [Int.toNat_of_nonneg k0, Int.toNat_of_nonneg g0] at h
  exact h
def lkS (S : Int → Int) (M k : Int) (g : Int → Int) : Int → Int := fun c => if 0 ≤ c ∧ c < M then lk k (g c) else S c
section LK
variable {I : cI} {R : cR} {J : cI} {p : Nat} {M k : Int}
theorem c_beginR {Q : cI → cR → Prop} (hp : isP p) (eM : I p 0 * I p 1 = M) (M0 : 0 ≤ M) (M1 : M ≤ 25) (ek : I p 2 = k) (k0 : 0 ≤ k) (k1 : k ≤ 5) (hg : ∀ c, 0 ≤ c → c < M → 0 ≤ I (p + 1) c ∧ I (p + 1) c ≤ k)
    (hQ : ∀ I', (∀ a x, a ≠ 81 → ¬ (a = 80 ∧ (x = 1 ∨ x = 2)) → I' a x = I a x) → I' 80 1 = 0 → I' 80 2 = 0 → (∀ c, I' 81 c = lkS (I 81) M k (I (p + 1)) c) → Q I' R) : wX6_begin p I R Q := by
  have hp' : p = 85 ∨ p = 89 := hp
  unfold wX6_begin
  intro I1 e1 I4 e4
  refine ⟨26, ?_⟩
  have L : ∀ (m : Nat) (x : Int) (I' : cI), 0 ≤ x → x ≤ M → M - x < m → (∀ a y, ¬ (a = 81 ∧ 0 ≤ y ∧ y < x) → I' a y = I4 a y) → (∀ c, 0 ≤ c → c < x → I' 81 c = lk k (I (p + 1) c)) → wX6_begin_12 Q p m x I' R := by
    intro m
    induction m with
    | zero => intro x I' h0 h1 h2; omega
    | succ m ih =>
      intro x I' x0 x1 x2 h1 h2
      show wbX6_begin_12 Q p (wX6_begin_12 Q p m) x I' R
      have f4 : ∀ a y, a ≠ 80 → I4 a y = I a y := fun a y q => by subst e4; rw [u2a q]; subst e1; exact u2a q
      have c0 : I' p 0 = I p 0 := by rw [h1 _ _ (by omega)]; exact f4 _ _ (by omega)
      have c1 : I' p 1 = I p 1 := by rw [h1 _ _ (by omega)]; exact f4 _ _ (by omega)
      have c2 : I' p 2 = k := by rw [h1 _ _ (by omega)]; exact (f4 _ _ (by omega)).trans ek
      have cg : ∀ y, I' (p + 1) y = I (p + 1) y := fun y => by rw [h1 _ _ (by omega)]; exact f4 _ _ (by omega)
      unfold wbX6_begin_12 wX4_cellCount
      rw [c0, c1, eM]
      refine ⟨by unfold inR; omega, fun e => ?_, fun e => ⟨by omega, fun z hz => ?_⟩⟩
      · refine hQ I' (fun a y q1 q2 => ?_) ?_ ?_ (fun c => ?_)
        · rw [h1 _ _ (by omega)]; subst e4; rw [u2n (by omega)]; subst e1; exact u2n (by omega)
        · rw [h1 _ _ (by omega)]; subst e4; rw [u2n (by omega)]; subst e1; exact u2e
        · rw [h1 _ _ (by omega)]; subst e4; exact u2e
        · unfold lkS
          by_cases cc : 0 ≤ c ∧ c < M
          · rw [if_pos cc]; exact h2 c cc.1 (by omega)
          · rw [if_neg cc, h1 _ _ (by omega)]; exact f4 _ _ (by omega)
      · rw [cg] at hz
        have hb := hg x x0 (by omega)
        have hl := lk_b k0 k1 hb.1 hb.2
        have step : ∀ v, v = lk k (I (p + 1) x) → ∀ I10 : cI, I10 = up2 I' 81 x v → inR (x + 1) ∧ ∀ z13 : Int, z13 = x + 1 → wX6_begin_12 Q p m z13 I10 R := fun v hv I10 e10 => ⟨by unfold inR; omega, fun z13 e13 => by
          subst e13; subst e10
          refine ih (x + 1) _ (by omega) (by omega) (by omega) (fun a y q => ?_) (fun c d0 d1 => ?_)
          · rw [u2n (by omega)]; exact h1 a y (by omega)
          · by_cases ec : c = x
            · subst ec; rw [u2e]; exact hv
            · rw [u2x ec]; exact h2 c d0 (by omega)⟩
        refine ⟨fun n => ⟨by omega, step _ ?_⟩, fun n => ?_⟩
        · unfold lk; rw [if_neg (by omega), hz]
        · have el : lk k (I (p + 1) x) = iShl 1 k - 1 := by unfold lk; rw [if_pos (by omega)]
          rw [c2, ← el]
          exact ⟨by unfold inR; omega, by omega, step _ rfl⟩
  exact L 26 0 I4 (Int.le_refl 0) M0 (by omega) (fun _ _ _ => rfl) (fun c c0 c1 => by omega)
theorem c_values {Q : Int → cI → cR → Prop} (eM : I p 0 * I p 1 = M) (M0 : 0 ≤ M) (M1 : M ≤ 25) (hS : ∀ c, 0 ≤ c → c < M → 0 ≤ I 81 c ∧ I 81 c < 32) (hQ : Q (sF (fun c => bc (I 81 c)) 0 M) I R) : wX6_countValues p I R Q := by
  have L : ∀ (m : Nat) (x s : Int), 0 ≤ x → x ≤ M → M - x < m → 0 ≤ s → s ≤ 5 * x → s + sF (fun c => bc (I 81 c)) x M = sF (fun c => bc (I 81 c)) 0 M → wX6_countValues_4 Q p m s x I R := by
    intro m
    induction m with
    | zero => intro x s h0 h1 h2; omega
    | succ m ih =>
      intro x s x0 x1 x2 s0 s1 hs
      show wbX6_countValues_4 Q p (wX6_countValues_4 Q p m) s x I R
      unfold wbX6_countValues_4 wX4_cellCount
      rw [eM]
      refine ⟨by unfold inR; omega, fun e => ?_, fun e => ?_⟩
      · rw [sF_e e] at hs
        rw [← hs] at hQ
        rw [show s + 0 = s by omega] at hQ
        exact hQ
      · have hb := hS x x0 (by omega)
        have hc := bc_b hb.1 hb.2
        rw [sF_s (by omega)] at hs
        refine ⟨by omega, by unfold inR; omega, fun z hz => ⟨by unfold inR; omega, fun z2 hz2 => ?_⟩⟩
        subst hz; subst hz2
        exact ih (x + 1) _ (by omega) (by omega) (by omega) (by omega) (by omega) (by omega)
  exact ⟨26, L 26 0 0 (Int.le_refl 0) M0 (by omega) (Int.le_refl 0) (by omega) (by omega)⟩
theorem c_with {Q : Int → cI → cR → Prop} {d : Int} (eM : I p 0 * I p 1 = M) (M0 : 0 ≤ M) (M1 : M ≤ 25) (hQ : Q (cF (fun c => bc (I 81 c) = d) 0 M) I R) : wX6_countCellsWith p d I R Q := by
  have L : ∀ (m : Nat) (x s : Int), 0 ≤ x → x ≤ M → M - x < m → 0 ≤ s → s ≤ x → s + cF (fun c => bc (I 81 c) = d) x M = cF (fun c => bc (I 81 c) = d) 0 M → wX6_countCellsWith_5 Q p d m s x I R := by
    intro m
    induction m with
    | zero => intro x s h0 h1 h2; omega
    | succ m ih =>
      intro x s x0 x1 x2 s0 s1 hs
      show wbX6_countCellsWith_5 Q p d (wX6_countCellsWith_5 Q p d m) s x I R
      unfold wbX6_countCellsWith_5 wX4_cellCount
      rw [eM]
      refine ⟨by unfold inR; omega, fun e => ?_, fun e => ⟨by omega, fun n => ⟨by unfold inR; omega, fun z hz => ?_⟩, fun n => ⟨by unfold inR; omega, fun z hz => ⟨by unfold inR; omega, fun z2 hz2 => ?_⟩⟩⟩⟩
      · rw [cF_e e] at hs
        rw [← hs, show s + 0 = s by omega] at hQ
        exact hQ
      · subst hz
        rw [cF_f (p := fun c => bc (I 81 c) = d) n] at hs
        exact ih (x + 1) s (by omega) (by omega) (by omega) s0 (by omega) hs
      · subst hz; subst hz2
        rw [cF_t (p := fun c => bc (I 81 c) = d) (by omega) n] at hs
        exact ih (x + 1) _ (by omega) (by omega) (by omega) (by omega) (by omega) (by omega)
  exact ⟨26, L 26 0 0 (Int.le_refl 0) M0 (by omega) (Int.le_refl 0) (Int.le_refl 0) (by omega)⟩
theorem m_lookAnew {Q : Int → cI → Prop} (eM : vM J = M) (M0 : 0 ≤ M) (M1 : M ≤ 25) (ek : J 1000 13 = k) (k0 : 0 ≤ k) (k1 : k ≤ 5) (hg : ∀ c, 0 ≤ c → c < M → 0 ≤ J 1020 c ∧ J 1020 c ≤ k)
    (hQ : ∀ J', (∀ a x, a ≠ 1030 → ¬ (a = 1000 ∧ (x = 31 ∨ x = 32)) → J' a x = J a x) → J' 1000 31 = 0 → J' 1000 32 = 0 → (∀ c, J' 1030 c = lkS (J 1030) M k (J 1020) c) → Q (sF (fun c => bc (lk k (J 1020 c))) 0 M) J') : wX12_lookAnew J Q := by
  refine ⟨26, ?_⟩
  have L : ∀ (m : Nat) (x s : Int) (J' : cI), 0 ≤ x → x ≤ M → M - x < m → 0 ≤ s → s ≤ 5 * x → s + sF (fun c => bc (lk k (J 1020 c))) x M = sF (fun c => bc (lk k (J 1020 c))) 0 M → (∀ a y, ¬ (a = 1030 ∧ 0 ≤ y ∧ y < x) → J' a y = J a y) → (∀ c, 0 ≤ c → c < x → J' 1030 c = lk k (J 1020 c)) → wX12_lookAnew_4 Q m s x J' := by
    intro m
    induction m with
    | zero => intro x s J' h0 h1 h2; omega
    | succ m ih =>
      intro x s J' x0 x1 x2 s0 s1 hs h1 h2
      show wbX12_lookAnew_4 Q (wX12_lookAnew_4 Q m) s x J'
      unfold wbX12_lookAnew_4 wX12_cells
      have c1 : J' 1000 11 * J' 1000 12 = M := by rw [h1 _ _ (by omega), h1 _ _ (by omega)]; exact eM
      have cg : ∀ y, J' 1020 y = J 1020 y := fun y => h1 _ _ (by omega)
      have c3 : J' 1000 13 = k := by rw [h1 _ _ (by omega)]; exact ek
      rw [c1]
      dsimp only
      rw [cg, c3]
      refine ⟨by unfold inR; omega, fun e J5 e5 J8 e8 => ?_, fun e => ⟨by omega, ?_⟩⟩
      · rw [sF_e e, show s + 0 = s by omega] at hs
        rw [hs]
        refine hQ J8 (fun a y q1 q2 => ?_) ?_ ?_ (fun c => ?_)
        · subst e8; rw [u2n (by omega)]; subst e5; rw [u2n (by omega)]; exact h1 _ _ (by omega)
        · subst e8; rw [u2n (by omega)]; subst e5; exact u2e
        · subst e8; exact u2e
        · subst e8; rw [u2n (by omega)]; subst e5; rw [u2n (by omega)]
          unfold lkS
          by_cases cc : 0 ≤ c ∧ c < M
          · rw [if_pos cc]; exact h2 c cc.1 (by omega)
          · rw [if_neg cc]; exact h1 _ _ (by omega)
      · have hb := hg x x0 (by omega)
        have hl := lk_b k0 k1 hb.1 hb.2
        have hc := bc_b hl.1 hl.2
        rw [sF_s (by omega)] at hs
        have step : ∀ v, v = lk k (J 1020 x) → wX12_lookAnew_47 Q (wX12_lookAnew_4 Q m) s x x v J' := fun v hv => ⟨by omega, fun J2 e2 => by
          have ex : J2 1030 x = lk k (J 1020 x) := by subst e2; rw [u2e]; exact hv
          rw [ex]
          refine ⟨by omega, by unfold inR; omega, fun z7 e7 => ⟨by unfold inR; omega, fun z9 e9 => ?_⟩⟩
          subst e7; subst e9
          refine ih (x + 1) _ J2 (by omega) (by omega) (by omega) (by omega) (by omega) (by omega) (fun a y q => ?_) (fun c d0 d1 => ?_)
          · subst e2; rw [u2n (by omega)]; exact h1 a y (by omega)
          · by_cases ec : c = x
            · subst ec; exact ex
            · subst e2; rw [u2x ec]; exact h2 c d0 (by omega)⟩
        refine ⟨fun n => ?_, fun n => ⟨by omega, step _ ?_⟩⟩
        · have el : lk k (J 1020 x) = iShl 1 k - 1 := by unfold lk; rw [if_pos (by omega)]
          exact ⟨by rw [← el]; unfold inR; omega, step _ el.symm⟩
        · unfold lk; rw [if_neg (by omega)]
  exact L 26 0 0 J (Int.le_refl 0) M0 (by omega) (Int.le_refl 0) (by omega) (by omega) (fun _ _ _ => rfl) (fun c c0 c1 => by omega)
theorem m_with {Q : Int → cI → Prop} {a d : Int} (ha : (a = 0 ∧ d = 1) ∨ (a = 1 ∧ d = 0)) (eM : vM J = M) (M0 : 0 ≤ M) (M1 : M ≤ 25) (hQ : Q (cF (fun c => bc (J 1030 c) = d) 0 M) J) : wX12_withValues a J Q := by
  have L : ∀ (m : Nat) (x s : Int), 0 ≤ x → x ≤ M → M - x < m → 0 ≤ s → s ≤ x → s + cF (fun c => bc (J 1030 c) = d) x M = cF (fun c => bc (J 1030 c) = d) 0 M → wX12_withValues_4 Q a m s x J := by
    intro m
    induction m with
    | zero => intro x s h0 h1 h2; omega
    | succ m ih =>
      intro x s x0 x1 x2 s0 s1 hs
      show wbX12_withValues_4 Q a (wX12_withValues_4 Q a m) s x J
      unfold wbX12_withValues_4 wX12_cells
      have eM' : J 1000 11 * J 1000 12 = M := eM
      rw [eM']
      refine ⟨by unfold inR; omega, fun e => ?_, fun e => ⟨by omega, ?_⟩⟩
      · rw [cF_e e] at hs
        rw [← hs, show s + 0 = s by omega] at hQ
        exact hQ
      · have step : wX12_withValues_31 Q a (wX12_withValues_4 Q a m) x s (bc (J 1030 x)) d J := by
          refine ⟨fun n => ⟨by unfold inR; omega, fun z hz => ⟨by unfold inR; omega, fun z2 hz2 => ?_⟩⟩, fun n => ⟨by unfold inR; omega, fun z hz => ⟨by unfold inR; omega, fun z2 hz2 => ?_⟩⟩⟩
          · subst hz; subst hz2
            rw [cF_f (p := fun c => bc (J 1030 c) = d) n] at hs
            rw [show s + 0 = s by omega]
            exact ih (x + 1) s (by omega) (by omega) (by omega) s0 (by omega) hs
          · subst hz; subst hz2
            rw [cF_t (p := fun c => bc (J 1030 c) = d) (by omega) n] at hs
            exact ih (x + 1) _ (by omega) (by omega) (by omega) (by omega) (by omega) (by omega)
        rcases ha with ⟨rfl, rfl⟩ | ⟨rfl, rfl⟩
        · exact ⟨fun _ => step, fun n => absurd rfl n⟩
        · exact ⟨fun n => absurd n (by decide), fun _ => step⟩
  exact ⟨26, L 26 0 0 (Int.le_refl 0) M0 (by omega) (Int.le_refl 0) (Int.le_refl 0) (by omega)⟩
end LK
section ST4
variable {I : cI} {R : cR} {J : cI}
/-- the sets are laid anew on both sides -/
theorem iS_lk {I I' J J' : cI} {M k : Int} {g g' : Int → Int} (h : iS I J) (k0 : 0 ≤ k) (k1 : k ≤ 5) (M1 : M ≤ 25) (eg : ∀ c, 0 ≤ c → c < M → g c = g' c ∧ 0 ≤ g' c ∧ g' c ≤ k) (c1 : ∀ c, I' 81 c = lkS (I 81) M k g c) (c2 : ∀ c, J' 1030 c = lkS (J 1030) M k g' c) (c3 : ∀ c, I' 82 c = I 82 c) (p1 : I' 80 1 = 0) (p2 : I' 80 2 = 0) (q1 : J' 1000 31 = 0) (q2 : J' 1000 32 = 0) : iS I' J' := by
  refine ⟨fun c d0 d1 => ?_, fun c d0 d1 => by rw [c3]; exact h.2.1 c d0 d1, by rw [p1, q1], by rw [p2, q2]⟩
  rw [c1, c2]
  unfold lkS
  by_cases cc : 0 ≤ c ∧ c < M
  · rw [if_pos cc, if_pos cc, (eg c cc.1 cc.2).1]
    exact ⟨rfl, lk_b k0 k1 (eg c cc.1 cc.2).2.1 (eg c cc.1 cc.2).2.2⟩
  · rw [if_neg cc, if_neg cc]; exact h.1 c d0 d1
theorem st_look (h : INV I R J) : wX11_look I R (okN (wX12_look_ J)) := by
  have h0 := INV_0 (v := 0) h
  have hb := vM_b h.2.1
  have hk := INV_k h
  have hp : R 0 7 = 85 ∨ R 0 7 = 89 := h.1.1.1
  have hM := INV_M h
  have hg : ∀ c, 0 ≤ c → c < vM J → I (R 0 7 + 1) c = J 1020 c ∧ 0 ≤ J 1020 c ∧ J 1020 c ≤ J 1000 13 := fun c c0 c1 => h.1.2.2.2.2.2.2.2.2 c c0 (by omega)
  unfold wX11_look
  refine c_beginR (M := vM J) (k := J 1000 13) hp hM hb.1 hb.2.1 h.1.2.2.2.2.2.1 hk.1 hk.2 (fun c c0 c1 => by rw [(hg c c0 c1).1]; exact (hg c c0 c1).2) (fun I' f1 f2 f3 f4 => ?_)
  have e81 : ∀ c, 0 ≤ c → c < vM J → I' 81 c = lk (J 1000 13) (J 1020 c) := fun c c0 c1 => by rw [f4]; unfold lkS; rw [if_pos ⟨c0, c1⟩, (hg c c0 c1).1]
  refine c_values (M := vM J) (by rw [f1 _ 0 (by omega) (by omega), f1 _ 1 (by omega) (by omega)]; exact hM) hb.1 hb.2.1 (fun c c0 c1 => by rw [e81 c c0 c1]; exact lk_b hk.1 hk.2 (hg c c0 c1).2.1 (hg c c0 c1).2.2) ?_
  rw [sF_cg (g := fun c => bc (lk (J 1000 13) (J 1020 c))) 0 (fun c c0 c1 => by rw [e81 c c0 c1])]
  intro J1 e1
  have g20 : ∀ c, J1 1020 c = J 1020 c := fun c => by subst e1; exact u2a (by decide)
  have g13 : J1 1000 13 = J 1000 13 := by subst e1; exact u2x (by decide)
  have gM : vM J1 = vM J := by subst e1; exact vM_0
  have g0 : J1 1000 0 = 0 := by subst e1; exact u2e
  rw [← e1] at h0
  refine m_lookAnew (M := vM J) (k := J 1000 13) gM hb.1 hb.2.1 g13 hk.1 hk.2 (fun c c0 c1 => by rw [g20]; exact (hg c c0 c1).2) (fun J' k1 k2 k3 k4 => ⟨by rw [k1 _ _ (by omega) (by omega)]; exact g0, sF_cg 0 (fun c c0 c1 => by rw [g20]), ?_⟩)
  obtain ⟨p, v, s, t, w, k, x⟩ := h0
  have j : smP J1 J' := ⟨fun b y q1 q2 => k1 _ _ (by omega) (by omega), k1 _ _ (by omega) (by omega), k1 _ _ (by omega) (by omega), k1 _ _ (by omega) (by omega), k1 _ _ (by omega) (by omega)⟩
  exact ⟨iP_fr p v (fun b y q => f1 _ _ (by omega) (by omega)) j, vP_fr v j,
    iS_lk (g := I (R 0 7 + 1)) (g' := J1 1020) s hk.1 hk.2 hb.2.1 (fun c c0 c1 => by rw [g20]; exact hg c c0 c1) f4 k4 (fun c => f1 _ _ (by omega) (by omega)) f2 f3 k2 k3,
    iT_fr t (fun y => f1 _ _ (by omega) (by omega)) (f1 _ _ (by omega) (by omega)) (fun y => k1 _ _ (by omega) (by omega)) (k1 _ _ (by omega) (by omega)),
    iW_fr w (fun y => f1 _ _ (by omega) (by omega)) (f1 _ _ (by omega) (by omega)) (fun y => k1 _ _ (by omega) (by omega)) (k1 _ _ (by omega) (by omega)),
    iK_fr k (fun b y q1 q2 => f1 _ _ (by omega) (by omega)) (f1 _ _ (by omega) (by omega)) (f1 _ _ (by omega) (by omega)) (fun y => k1 _ _ (by omega) (by omega)) (k1 _ _ (by omega) (by omega)) (k1 _ _ (by omega) (by omega)) (smP_M j),
    iE_fr x (f1 _ _ (by omega) (by omega)) (k1 _ _ (by omega) (by omega))⟩
theorem INV_gp (h : INV I R J) : gp 25 (J 1000 14) (mr J 1015) := fun i i0 i1 => gr_w (vM_b h.2.1).2.1 (h.2.1.2.2.2.1 i i0 i1)
theorem st_hint {a : Int} (h : INV I R J) : wX11_hint a I R (okN (wX12_hint a J)) (okX (xf 0 0 1) (wX12_hint a J)) := by
  have h0 := INV_0 (v := 0) h
  have hk := INV_k h
  have no : ¬ (0 ≤ a ∧ a ≤ 3) → okX (xf 0 0 1) (wX12_hint a J) 2 I R := fun n => ⟨by decide, fun J1 e1 => m_isIn (by
    subst e1
    rw [b2_f n]
    exact ⟨fun w => absurd rfl w, fun _ => m_no ⟨u2e, INV_0 h0⟩⟩)⟩
  unfold wX11_hint wX11_hint_9
  refine ⟨fun e => no (by omega), fun e => ⟨fun e2 => ?_, fun e2 => no (by omega)⟩⟩
  have em : mr (up2 J 1000 0 0) 1015 = mr J 1015 := mr_fr (fun b x q1 q2 => u2a (by omega))
  have e14 : up2 J 1000 0 0 1000 14 = J 1000 14 := u2x (by decide)
  have e13 : up2 J 1000 0 0 1000 13 = J 1000 13 := u2x (by decide)
  have e30 : ∀ c, up2 J 1000 0 0 1030 c = J 1030 c := fun c => u2a (by decide)
  have gp0 := INV_gp h
  have hn := h.2.1.2
  have inv : ∀ I' J', fF I I' → fFM (up2 J 1000 0 0) J' → J' 1000 0 = 0 ∧ INV I' R J' := fun I' J' f g => ⟨by rw [g _ _ (by omega)]; exact u2e, INV_J (INV_I h0 (fun b x q => f.1 b x (fun w => q (by unfold iN; omega))) f.2) (fun b x q => g b x (fun w => q (by unfold jN; omega)))⟩
  have ref : ∀ {Q : Int → cI → Prop}, (no3 (mr J 1015) (J 1000 14) (J 1000 13) (J 1030) → ∀ J', fFM (up2 J 1000 0 0) J' → Q 0 J') → (∀ i x w, fr3 (mr J 1015) (J 1000 14) (J 1000 13) (J 1030) i x w → ∀ J', fFM (up2 J 1000 0 0) J' → J' 1042 0 = i → J' 1042 1 = mr J 1015 i (4 + x) → J' 1042 2 = w → J' 1042 3 = gd (mr J 1015 i) (J 1030) → Q 1 J') → wX12_findHint (up2 J 1000 0 0) Q := fun {Q} q0 q1 =>
    m_first (n := J 1000 14) (h := J 1000 13) (S := J 1030) e13 hk e14 (by rw [em]; exact gp0) ⟨hn.1, hn.2.1⟩ (fun c _ _ => e30 c) (by rw [em]; exact q0) (by rw [em]; exact q1)
  refine c_first (n := J 1000 14) (h := J 1000 13) (S := J 1030) h.1.1 hk h.1.2.2.2.2.2.1 h.1.2.2.2.2.2.2.1 h.1.2.2.2.2.2.2.2.1 gp0 ⟨hn.1, hn.2.1⟩ (fun c c0 c1 => (h.2.2.1.1 c c0 c1).1) h.2.2.1.2.1 (fun n3 I' f => ⟨fun w => absurd rfl w, fun _ J1 e1 => m_isIn ?_⟩) (fun i x w f3 I' f i3 i4 i5 i6 => ⟨fun _ => ?_, fun w => absurd w (by decide)⟩)
  · subst e1
    rw [b2_t (by omega)]
    exact ⟨fun _ => ref (fun _ J' g => ⟨fun _ => ⟨(inv I' J' f g).1, rfl, (inv I' J' f g).2⟩, fun w => absurd rfl w⟩) (fun i x w f3 => (fr3_n f3 n3).elim), fun w => absurd w (by decide)⟩
  · have go : ∀ r, (a = 0 → r = i) → (a = 1 → r = mr J 1015 i (4 + x)) → (a = 2 → r = w) → (a = 3 → r = gd (mr J 1015 i) (J 1030)) → okN (wX12_hint a J) r I' R := fun r r0 r1 r2 r3 J1 e1 => m_isIn (by
      subst e1
      rw [b2_t (by omega)]
      refine ⟨fun _ => ref (fun n3 => (fr3_n f3 n3).elim) (fun i' x' w' f3' J' g j0 j1 j2 j3 => ⟨fun w => absurd w (by decide), fun _ => ⟨by omega, (inv I' J' f g).1, ?_, (inv I' J' f g).2⟩⟩), fun w => absurd w (by decide)⟩
      obtain ⟨rfl, rfl, rfl⟩ := fr3_u f3 f3'
      have ea : a = 0 ∨ a = 1 ∨ a = 2 ∨ a = 3 := by omega
      rcases ea with rfl | rfl | rfl | rfl
      · rw [j0]; exact r0 rfl
      · rw [j1]; exact r1 rfl
      · rw [j2]; exact r2 rfl
      · rw [j3]; exact r3 rfl)
    refine ⟨fun ea => go _ (fun _ => i3) (by omega) (by omega) (by omega), fun ea => go _ (by omega) (fun _ => i4) (by omega) (by omega), fun ea => go _ (by omega) (by omega) (fun _ => i5) (by omega), fun a0 a1 a2 => go _ (by omega) (by omega) (by omega) (fun _ => i6)⟩
theorem st_step (h : INV I R J) : wX11_step I R (okN (wX12_step J)) := by
  have h0 := INV_0 (v := 0) h
  have hk := INV_k h
  have em : mr (up2 J 1000 0 0) 1015 = mr J 1015 := mr_fr (fun b x q1 q2 => u2a (by omega))
  have e14 : up2 J 1000 0 0 1000 14 = J 1000 14 := u2x (by decide)
  have e13 : up2 J 1000 0 0 1000 13 = J 1000 13 := u2x (by decide)
  have e30 : ∀ c, up2 J 1000 0 0 1030 c = J 1030 c := fun c => u2a (by decide)
  have gp0 := INV_gp h
  have hn := h.2.1.2
  have inv : ∀ I' J', fF I I' → fFM (up2 J 1000 0 0) J' → J' 1000 0 = 0 ∧ INV I' R J' := fun I' J' f g => ⟨by rw [g _ _ (by omega)]; exact u2e, INV_J (INV_I h0 (fun b x q => f.1 b x (fun w => q (by unfold iN; omega))) f.2) (fun b x q => g b x (fun w => q (by unfold jN; omega)))⟩
  have ref : ∀ {Q : Int → cI → Prop}, (no3 (mr J 1015) (J 1000 14) (J 1000 13) (J 1030) → ∀ J', fFM (up2 J 1000 0 0) J' → Q 0 J') → (∀ i x w, fr3 (mr J 1015) (J 1000 14) (J 1000 13) (J 1030) i x w → ∀ J', fFM (up2 J 1000 0 0) J' → J' 1042 0 = i → J' 1042 1 = mr J 1015 i (4 + x) → J' 1042 2 = w → J' 1042 3 = gd (mr J 1015 i) (J 1030) → Q 1 J') → wX12_findHint (up2 J 1000 0 0) Q := fun {Q} q0 q1 =>
    m_first (n := J 1000 14) (h := J 1000 13) (S := J 1030) e13 hk e14 (by rw [em]; exact gp0) ⟨hn.1, hn.2.1⟩ (fun c _ _ => e30 c) (by rw [em]; exact q0) (by rw [em]; exact q1)
  refine c_first (n := J 1000 14) (h := J 1000 13) (S := J 1030) h.1.1 hk h.1.2.2.2.2.2.1 h.1.2.2.2.2.2.2.1 h.1.2.2.2.2.2.2.2.1 gp0 ⟨hn.1, hn.2.1⟩ (fun c c0 c1 => (h.2.2.1.1 c c0 c1).1) h.2.2.1.2.1 (fun n3 I' f => ⟨fun w => absurd rfl w, fun _ J1 e1 => ?_⟩) (fun i x w f3 I' f i3 i4 i5 i6 => ⟨fun _ => ?_, fun w => absurd w (by decide)⟩)
  · subst e1
    exact ref (fun _ J' g => ⟨fun w => absurd rfl w, fun _ => ⟨(inv I' J' f g).1, rfl, (inv I' J' f g).2⟩⟩) (fun i x w f3 => (fr3_n f3 n3).elim)
  · rw [i4, i5]
    have f2 := f3.2.2.1
    have hr := f2.2.2.2.2.1
    have hc := (gp0 i f3.1 f3.2.1).2.2.2.2.2.2.2.2.2.2.2.1 x f2.1 f2.2.1
    generalize hcc : mr J 1015 i (4 + x) = c at *
    have hS := h.2.2.1.1 c hc.1 hc.2
    have w1 := f2.2.2.1
    have w2 := f2.2.2.2.1
    have ht : tb (J 1030 c) (w - 1) := by rw [← hcc]; exact hr.1
    have tk0 := tk_b hS.2.1 hS.2.2 w1 (by omega) ht
    have eI : I' 81 c = J 1030 c := by rw [f.1 _ _ (by omega)]; exact hS.1
    refine ⟨hc, fun e => absurd e (by rw [eI]; exact ht), fun e => ⟨fun w => absurd w (by decide), fun _ => ⟨hc, ?_, hc, fun I9 e9 J1 e1 => ?_⟩⟩⟩
    · rw [eI]; have := tk0.1; have := tk0.2.1; unfold tk at *; unfold inR; omega
    · subst e1
      refine ref (fun n3 => (fr3_n f3 n3).elim) (fun i' x' w' f3' J' g j0 j1 j2 j3 => ⟨fun _ => ?_, fun w => absurd w (by decide)⟩)
      obtain ⟨rfl, rfl, rfl⟩ := fr3_u f3 f3'
      rw [hcc] at j1
      have eJ : J' 1030 c = J 1030 c := by rw [g _ _ (by omega)]; exact e30 c
      rw [j1, j2, eJ]
      refine ⟨hc, hc, fun J10 e10 => ?_⟩
      obtain ⟨q0, p, v, s, t, w3, k, x3⟩ := inv I' J' f g
      subst e10; subst e9
      rw [eI] at *
      have j : smP J' (up2 J' 1030 c (iAnd (J 1030 c) (iXor (iShl 1 (w - 1)) (-1)))) := ⟨fun b y q1 q2 => u2a (by omega), u2a (by decide), u2a (by decide), u2a (by decide), u2a (by decide)⟩
      refine ⟨by rw [u2a (by decide)]; exact q0, rfl, iP_fr p v (fun b y q => u2a (by omega)) j, vP_fr v j, ⟨fun y y0 y1 => ?_, fun y y0 y1 => by rw [u2a (by decide)]; exact s.2.1 y y0 y1, by rw [u2a (by decide), u2a (by decide)]; exact s.2.2.1, by rw [u2a (by decide), u2a (by decide)]; exact s.2.2.2⟩,
        iT_fr t (fun y => u2a (by decide)) (u2a (by decide)) (fun y => u2a (by decide)) (u2a (by decide)),
        iW_fr w3 (fun y => u2a (by decide)) (u2a (by decide)) (fun y => u2a (by decide)) (u2a (by decide)),
        iK_fr k (fun b y q1 q2 => u2a (by omega)) (u2a (by decide)) (u2a (by decide)) (fun y => u2a (by decide)) (u2a (by decide)) (u2a (by decide)) (smP_M j),
        iE_fr x3 (u2a (by decide)) (u2a (by decide))⟩
      by_cases ey : y = c
      · subst ey
        rw [u2e, u2e, tk0.2.2.1]
        exact ⟨rfl, tk0.1, tk0.2.1⟩
      · rw [u2x ey, u2x ey]; exact s.1 y y0 y1
theorem st_reason (h : INV I R J) : wX11_reason I R (okN (wX12_reason J)) := by
  have hk := INV_k h
  have hn := h.2.1.2
  have gp0 := INV_gp h
  refine c_reason (n := J 1000 14) (h := J 1000 13) (S := J 1030) h.1.1 hk h.1.2.2.2.2.2.1 h.1.2.2.2.2.2.2.1 h.1.2.2.2.2.2.2.2.1 gp0 ⟨hn.1, hn.2.1⟩ (fun c c0 c1 => (h.2.2.1.1 c c0 c1).1) (fun c c0 c1 => (h.2.2.1.1 c c0 c1).2) h.2.2.1.2.1 (fun I' f rv1 i1 => ?_)
  refine m_reason (n := J 1000 14) (h := J 1000 13) (S := J 1030) rfl hk rfl gp0 ⟨hn.1, hn.2.1⟩ (fun c _ _ => rfl) (fun c c0 c1 => (h.2.2.1.1 c c0 c1).2) (fun J' g rm1 j31 j0 => ⟨j0, rfl, ?_⟩)
  obtain ⟨p, v, s, t, w, k, x⟩ := h
  have j : smP J J' := ⟨fun b y q1 q2 => g _ _ (by omega), g _ _ (by omega), g _ _ (by omega), g _ _ (by omega), g _ _ (by omega)⟩
  refine ⟨iP_fr p v (fun b y q => f _ _ (by omega)) j, vP_fr v j, ⟨fun c c0 c1 => ?_, rv1.2.2, by rw [i1, j31], by rw [rv1.2.1, rm1.2]⟩,
    iT_fr t (fun y => f _ _ (by omega)) (f _ _ (by omega)) (fun y => g _ _ (by omega)) (g _ _ (by omega)),
    iW_fr w (fun y => f _ _ (by omega)) (f _ _ (by omega)) (fun y => g _ _ (by omega)) (g _ _ (by omega)),
    iK_fr k (fun b y q1 q2 => f _ _ (by omega)) (f _ _ (by omega)) (f _ _ (by omega)) (fun y => g _ _ (by omega)) (g _ _ (by omega)) (g _ _ (by omega)) (smP_M j),
    iE_fr x (f _ _ (by omega)) (g _ _ (by omega))⟩
  rw [rv1.1 c c0 c1, rm1.1 c c0 c1]
  have ok := rsn_ok (ρ := mr J 1015) (n := J 1000 14) (h := J 1000 13) (S := J 1030) gp0 hn.1 hk (fun c c0 c1 => (s.1 c c0 c1).2)
  exact ⟨rfl, ok.1 c c0 c1⟩
theorem c_reasoned {a : Int} {Q : Int → cI → cR → Prop} {Qx : Nat → cI → cR → Prop} (h : INV I R J) (q1 : 0 ≤ a → a ≤ 3 → Q (rs J a) I R) (q0 : ¬ (0 ≤ a ∧ a ≤ 3) → Qx 2 I R) : wX11_reasoned a I R Q Qx := by
  have hb := vM_b h.2.1
  have hM := INV_M h
  have hS := h.2.2.1
  have e81 : ∀ d : Int, cF (fun c => bc (I 81 c) = d) 0 (vM J) = cF (fun c => bc (J 1030 c) = d) 0 (vM J) := fun d => cF_cg (fun c c0 c1 => by rw [(hS.1 c c0 (by omega)).1])
  unfold rs at q1
  refine ⟨fun e => ?_, fun e => ?_, fun e => c_with (M := vM J) hM hb.1 hb.2.1 ?_, fun e => c_with (M := vM J) hM hb.1 hb.2.1 ?_, fun e0 e1 e2 e3 => q0 (by omega)⟩ <;> subst e <;> have q := q1 (by decide) (by decide)
  · rw [hS.2.2.1]; simpa using q
  · rw [hS.2.2.2]; simpa using q
  · rw [e81]; simpa using q
  · rw [e81]; simpa using q
theorem m_reasonTold {a : Int} {Q : Int → cI → Prop} (h : INV I R J) (h0 : 0 ≤ a) (h1 : a ≤ 3) (q : Q (rs J a) J) : wX12_reasonTold a J Q := by
  have hb := vM_b h.2.1
  unfold rs at q
  refine ⟨fun e0 => ⟨fun e1 => ⟨fun e3 => ?_, fun e3 => ?_⟩, fun e1 => ?_⟩, fun e0 => ?_⟩
  · refine m_with (d := 1) (M := vM J) (Or.inl ⟨rfl, rfl⟩) rfl hb.1 hb.2.1 ?_
    rw [if_neg e0, if_neg e1, if_neg e3] at q; exact q
  · refine m_with (d := 0) (M := vM J) (Or.inr ⟨rfl, rfl⟩) rfl hb.1 hb.2.1 ?_
    rw [if_neg e0, if_neg e1, if_pos e3] at q; exact q
  · rw [if_neg e0, if_pos e1] at q; exact q
  · rw [if_pos e0] at q; exact q
theorem st_reasoned {a : Int} (h : INV I R J) : wX11_reasoned a I R (okN (wX12_reasoned a J)) (okX (xf 0 0 1) (wX12_reasoned a J)) := by
  have h0 := INV_0 (v := 0) h
  have ev : rs (up2 J 1000 0 0) a = rs J a := by
    unfold rs
    rw [vM_0, u2x (by decide), u2x (by decide), show up2 J 1000 0 0 1030 = J 1030 from funext fun x => u2a (by decide)]
  refine c_reasoned h (fun a0 a1 J1 e1 => m_isIn ?_) (fun n => ⟨by decide, fun J1 e1 => m_isIn ?_⟩)
  · subst e1
    rw [b2_t ⟨a0, a1⟩]
    exact ⟨fun w => absurd w (by decide), fun _ => m_reasonTold h0 a0 a1 ⟨u2e, ev.symm, h0⟩⟩
  · subst e1
    rw [b2_f n]
    exact ⟨fun _ => m_no ⟨u2e, INV_0 h0⟩, fun w => absurd rfl w⟩
end ST4
