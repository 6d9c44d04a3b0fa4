/-! ===== look, hint, step, reason, reasoned ===== -/
theorem rsF_ok {f : rT → rT} (hf : ∀ s, gR s → gR (f s)) : ∀ (m : Nat) (s : rT) (p : Int), gR s → gR (rsF f m s p).1 := by
  intro m
  induction m with
  | zero => intro s p h; exact h
  | succ m ih =>
    intro s p h
    by_cases c : (f s).2.2 = s.2.2
    · rw [rsF_e c]; exact hf s h
    · rw [rsF_n c]; exact ih _ _ (hf s h)
theorem rsn_ok {ρ : Int → Int → Int} {n h : Int} {S : Int → Int} (hg : gp 25 n ρ) (hn : 0 ≤ n) (hh : 0 ≤ h ∧ h ≤ 5) (hS : ∀ c, 0 ≤ c → c < 25 → 0 ≤ S c ∧ S c < 32) : gR (rsn ρ n h S).1 :=
  rsF_ok (fun s hs => (ddP_ok hg hn hh hs).1) 126 _ _ ⟨hS, Int.le_refl 0, by show (0 : Int) ≤ 5; decide⟩
def lk (k g : Int) : Int := if g = 0 then iShl 1 k - 1 else iShl 1 (g - 1)
theorem lk_all : ∀ k : Nat, k < 6 → ∀ g : Nat, g < k + 1 → 0 ≤ lk (k : Int) (g : Int) ∧ lk (k : Int) (g : Int) < 32 := by decide +kernel
theorem lk_b {k g : Int} (k0 : 0 ≤ k) (k1 : k ≤ 5) (g0 : 0 ≤ g) (g1 : g ≤ k) : 0 ≤ lk k g ∧ lk k g < 32 := by
  have h := lk_all k.toNat (by omega) g.toNat (by omega)
  rw [Int.toNat_of_nonneg k0, Int.toNat_of_nonneg g0] at h
  exact h
def lkS (S : Int → Int) (M k : Int) (g : Int → Int) : Int → Int := fun c => if 0 ≤ c ∧ c < M then lk k (g c) else S c
section LK
variable {I : cI} {R : cR} {J : cI} {p : Nat} {M k : Int}
theorem c_beginR {Q : cI → cR → Prop} (hp : isP p) (eM : I p 0 * I p 1 = M) (M0 : 0 ≤ M) (M1 : M ≤ 25) (ek : I p 2 = k) (k0 : 0 ≤ k) (k1 : k ≤ 5) (hg : ∀ c, 0 ≤ c → c < M → 0 ≤ I (p + 1) c ∧ I (p + 1) c ≤ k)
    (hQ : ∀ I', (∀ a x, a ≠ 81 → ¬ (a = 80 ∧ (x = 1 ∨ x = 2)) → I' a x = I a x) → I' 80 1 = 0 → I' 80 2 = 0 → (∀ c, I' 81 c = lkS (I 81) M k (I (p + 1)) c) → Q I' R) : wX6_begin p I R Q := by
  have hp' : p = 85 ∨ p = 89 := hp
  unfold wX6_begin
  intro I1 e1 I4 e4
  refine ⟨26, ?_⟩
  have L : ∀ (m : Nat) (x : Int) (I' : cI), 0 ≤ x → x ≤ M → M - x < m → (∀ a y, ¬ (a = 81 ∧ 0 ≤ y ∧ y < x) → I' a y = I4 a y) → (∀ c, 0 ≤ c → c < x → I' 81 c = lk k (I (p + 1) c)) → wX6_begin_12 Q p m x I' R := by
    intro m
    induction m with
    | zero => intro x I' h0 h1 h2; omega
    | succ m ih =>
      intro x I' x0 x1 x2 h1 h2
      show wbX6_begin_12 Q p (wX6_begin_12 Q p m) x I' R
      have f4 : ∀ a y, a ≠ 80 → I4 a y = I a y := fun a y q => by subst e4; rw [u2a q]; subst e1; exact u2a q
      have c0 : I' p 0 = I p 0 := by rw [h1 _ _ (by omega)]; exact f4 _ _ (by omega)
      have c1 : I' p 1 = I p 1 := by rw [h1 _ _ (by omega)]; exact f4 _ _ (by omega)
      have c2 : I' p 2 = k := by rw [h1 _ _ (by omega)]; exact (f4 _ _ (by omega)).trans ek
      have cg : ∀ y, I' (p + 1) y = I (p + 1) y := fun y => by rw [h1 _ _ (by omega)]; exact f4 _ _ (by omega)
      unfold wbX6_begin_12 wX4_cellCount
      rw [c0, c1, eM]
      refine ⟨by unfold inR; omega, fun e => ?_, fun e => ⟨by omega, fun z hz => ?_⟩⟩
      · refine hQ I' (fun a y q1 q2 => ?_) ?_ ?_ (fun c => ?_)
        · rw [h1 _ _ (by omega)]; subst e4; rw [u2n (by omega)]; subst e1; exact u2n (by omega)
        · rw [h1 _ _ (by omega)]; subst e4; rw [u2n (by omega)]; subst e1; exact u2e
        · rw [h1 _ _ (by omega)]; subst e4; exact u2e
        · unfold lkS
          by_cases cc : 0 ≤ c ∧ c < M
          · rw [if_pos cc]; exact h2 c cc.1 (by omega)
          · rw [if_neg cc, h1 _ _ (by omega)]; exact f4 _ _ (by omega)
      · rw [cg] at hz
        have hb := hg x x0 (by omega)
        have hl := lk_b k0 k1 hb.1 hb.2
        have step : ∀ v, v = lk k (I (p + 1) x) → ∀ I10 : cI, I10 = up2 I' 81 x v → inR (x + 1) ∧ ∀ z13 : Int, z13 = x + 1 → wX6_begin_12 Q p m z13 I10 R := fun v hv I10 e10 => ⟨by unfold inR; omega, fun z13 e13 => by
          subst e13; subst e10
          refine ih (x + 1) _ (by omega) (by omega) (by omega) (fun a y q => ?_) (fun c d0 d1 => ?_)
          · rw [u2n (by omega)]; exact h1 a y (by omega)
          · by_cases ec : c = x
            · subst ec; rw [u2e]; exact hv
            · rw [u2x ec]; exact h2 c d0 (by omega)⟩
        refine ⟨fun n => ⟨by omega, step _ ?_⟩, fun n => ?_⟩
        · unfold lk; rw [if_neg (by omega), hz]
        · have el : lk k (I (p + 1) x) = iShl 1 k - 1 := by unfold lk; rw [if_pos (by omega)]
          rw [c2, ← el]
          exact ⟨by unfold inR; omega, by omega, step _ rfl⟩
  exact L 26 0 I4 (Int.le_refl 0) M0 (by omega) (fun _ _ _ => rfl) (fun c c0 c1 => by omega)
theorem c_values {Q : Int → cI → cR → Prop} (eM : I p 0 * I p 1 = M) (M0 : 0 ≤ M) (M1 : M ≤ 25) (hS : ∀ c, 0 ≤ c → c < M → 0 ≤ I 81 c ∧ I 81 c < 32) (hQ : Q (sF (fun c => bc (I 81 c)) 0 M) I R) : wX6_countValues p I R Q := by
  have L : ∀ (m : Nat) (x s : Int), 0 ≤ x → x ≤ M → M - x < m → 0 ≤ s → s ≤ 5 * x → s + sF (fun c => bc (I 81 c)) x M = sF (fun c => bc (I 81 c)) 0 M → wX6_countValues_4 Q p m s x I R := by
    intro m
    induction m with
    | zero => intro x s h0 h1 h2; omega
    | succ m ih =>
      intro x s x0 x1 x2 s0 s1 hs
      show wbX6_countValues_4 Q p (wX6_countValues_4 Q p m) s x I R
      unfold wbX6_countValues_4 wX4_cellCount
      rw [eM]
      refine ⟨by unfold inR; omega, fun e => ?_, fun e => ?_⟩
      · rw [sF_e e] at hs
        rw [← hs] at hQ
        rw [show s + 0 = s by omega] at hQ
        exact hQ
      · have hb := hS x x0 (by omega)
        have hc := bc_b hb.1 hb.2
        rw [sF_s (by omega)] at hs
        refine ⟨by omega, by unfold inR; omega, fun z hz => ⟨by unfold inR; omega, fun z2 hz2 => ?_⟩⟩
        subst hz; subst hz2
        exact ih (x + 1) _ (by omega) (by omega) (by omega) (by omega) (by omega) (by omega)
  exact ⟨26, L 26 0 0 (Int.le_refl 0) M0 (by omega) (Int.le_refl 0) (by omega) (by omega)⟩
theorem c_with {Q : Int → cI → cR → Prop} {d : Int} (eM : I p 0 * I p 1 = M) (M0 : 0 ≤ M) (M1 : M ≤ 25) (hQ : Q (cF (fun c => bc (I 81 c) = d) 0 M) I R) : wX6_countCellsWith p d I R Q := by
  have L : ∀ (m : Nat) (x s : Int), 0 ≤ x → x ≤ M → M - x < m → 0 ≤ s → s ≤ x → s + cF (fun c => bc (I 81 c) = d) x M = cF (fun c => bc (I 81 c) = d) 0 M → wX6_countCellsWith_5 Q p d m s x I R := by
    intro m
    induction m with
    | zero => intro x s h0 h1 h2; omega
    | succ m ih =>
      intro x s x0 x1 x2 s0 s1 hs
      show wbX6_countCellsWith_5 Q p d (wX6_countCellsWith_5 Q p d m) s x I R
      unfold wbX6_countCellsWith_5 wX4_cellCount
      rw [eM]
      refine ⟨by unfold inR; omega, fun e => ?_, fun e => ⟨by omega, fun n => ⟨by unfold inR; omega, fun z hz => ?_⟩, fun n => ⟨by unfold inR; omega, fun z hz => ⟨by unfold inR; omega, fun z2 hz2 => ?_⟩⟩⟩⟩
      · rw [cF_e e] at hs
        rw [← hs, show s + 0 = s by omega] at hQ
        exact hQ
      · subst hz
        rw [cF_f (p := fun c => bc (I 81 c) = d) n] at hs
        exact ih (x + 1) s (by omega) (by omega) (by omega) s0 (by omega) hs
      · subst hz; subst hz2
        rw [cF_t (p := fun c => bc (I 81 c) = d) (by omega) n] at hs
        exact ih (x + 1) _ (by omega) (by omega) (by omega) (by omega) (by omega) (by omega)
  exact ⟨26, L 26 0 0 (Int.le_refl 0) M0 (by omega) (Int.le_refl 0) (Int.le_refl 0) (by omega)⟩
end LK
section ST4
variable {I : cI} {R : cR} {J : cI}
/-- the sets are laid anew on both sides -/
theorem iS_lk {I I' J J' : cI} {M k : Int} {g g' : Int → Int} (h : iS I J) (k0 : 0 ≤ k) (k1 : k ≤ 5) (M1 : M ≤ 25) (eg : ∀ c, 0 ≤ c → c < M → g c = g' c ∧ 0 ≤ g' c ∧ g' c ≤ k) (c1 : ∀ c, I' 81 c = lkS (I 81) M k g c) (c2 : ∀ c, J' 1030 c = lkS (J 1030) M k g' c) (c3 : ∀ c, I' 82 c = I 82 c) (p1 : I' 80 1 = 0) (p2 : I' 80 2 = 0) (q1 : J' 1000 31 = 0) (q2 : J' 1000 32 = 0) : iS I' J' := by
  refine ⟨fun c d0 d1 => ?_, fun c d0 d1 => by rw [c3]; exact h.2.1 c d0 d1, by rw [p1, q1], by rw [p2, q2]⟩
  rw [c1, c2]
  unfold lkS
  by_cases cc : 0 ≤ c ∧ c < M
  · rw [if_pos cc, if_pos cc, (eg c cc.1 cc.2).1]
    exact ⟨rfl, lk_b k0 k1 (eg c cc.1 cc.2).2.1 (eg c cc.1 cc.2).2.2⟩
  · rw [if_neg cc, if_neg cc]; exact h.1 c d0 d1
theorem INV_gp (h : INV I R J) : gp 25 (J 1000 14) (mr J 1015) := fun i i0 i1 => gr_w (vM_b h.2.1).2.1 (h.2.1.2.2.2.1 i i0 i1)
theorem c_reasoned {a : Int} {Q : Int → cI → cR → Prop} {Qx : Nat → cI → cR → Prop} (h : INV I R J) (q1 : 0 ≤ a → a ≤ 3 → Q (rs J a) I R) (q0 : ¬ (0 ≤ a ∧ a ≤ 3) → Qx 2 I R) : wX11_reasoned a I R Q Qx := by
  have hb := vM_b h.2.1
  have hM := INV_M h
  have hS := h.2.2.1
  have e81 : ∀ d : Int, cF (fun c => bc (I 81 c) = d) 0 (vM J) = cF (fun c => bc (J 1030 c) = d) 0 (vM J) := fun d => cF_cg (fun c c0 c1 => by rw [(hS.1 c c0 (by omega)).1])
  unfold rs at q1
  refine ⟨fun e => ?_, fun e => ?_, fun e => c_with (M := vM J) hM hb.1 hb.2.1 ?_, fun e => c_with (M := vM J) hM hb.1 hb.2.1 ?_, fun e0 e1 e2 e3 => q0 (by omega)⟩ <;> subst e <;> have q := q1 (by decide) (by decide)
  · rw [hS.2.2.1]; simpa using q
  · rw [hS.2.2.2]; simpa using q
  · rw [e81]; simpa using q
  · rw [e81]; simpa using q
end ST4
