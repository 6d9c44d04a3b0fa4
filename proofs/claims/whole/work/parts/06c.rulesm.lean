/-! ===== what breaks a rule: the reference ===== -/
/-- two filled places that don't go together -/
def PB (κ N i j a b : Int) : Prop := (κ = 0 ∧ a = b) ∨ (κ = 11 ∧ a ≠ b) ∨ (κ = 3 ∧ b ≤ a) ∨ (κ = 4 ∧ b - a < j - i) ∨ (κ ≠ 0 ∧ κ ≠ 11 ∧ κ ≠ 3 ∧ κ ≠ 4 ∧ j = i + 1 ∧ iabs (a - b) < N)
theorem PB_0 {κ N i j a b : Int} (h : κ = 0) : PB κ N i j a b ↔ a = b := by subst h; unfold PB; simp
theorem PB_11 {κ N i j a b : Int} (h : κ = 11) : PB κ N i j a b ↔ a ≠ b := by subst h; unfold PB; simp
theorem PB_3 {κ N i j a b : Int} (h : κ = 3) : PB κ N i j a b ↔ b ≤ a := by subst h; unfold PB; simp
theorem PB_4 {κ N i j a b : Int} (h : κ = 4) : PB κ N i j a b ↔ b - a < j - i := by subst h; unfold PB; simp
theorem PB_n {κ N i j a b : Int} (h0 : ¬ κ = 0) (h1 : ¬ κ = 11) (h3 : ¬ κ = 3) (h4 : ¬ κ = 4) : PB κ N i j a b ↔ (j = i + 1 ∧ iabs (a - b) < N) := by unfold PB; simp [h0, h1, h3, h4]
theorem lf0 {f : Int} {p : Prop} (d : f = 0) (h : ¬ p) : (0 : Int) = 1 ↔ (f = 1 ∨ p) := ⟨fun w => absurd w (by decide), fun w => w.elim (fun y => by omega) (fun y => absurd y h)⟩
theorem lf1 {f : Int} {p : Prop} (h : f = 1 ∨ p) : (1 : Int) = 1 ↔ (f = 1 ∨ p) := ⟨fun _ => h, fun _ => rfl⟩
theorem lff {f : Int} {p : Prop} (h : ¬ p) : f = 1 ↔ (f = 1 ∨ p) := ⟨Or.inl, fun w => w.elim id (fun y => absurd y h)⟩
section RM
variable {Q : Int → cI → Prop} {a1 n : Int} {a2 : Nat} {J : cI} {u : Int → Int}
theorem sm_seen (hr : 0 ≤ a1 ∧ a1 < 70) (h0 : 0 ≤ n) (h5 : n ≤ 5) (hn : J 1018 a1 = n) (hc : ∀ i, 0 ≤ i → i < n → 0 ≤ J 1019 (5 * a1 + i) ∧ J 1019 (5 * a1 + i) < 25) (hv : ∀ i, 0 ≤ i → i < n → J a2 (J 1019 (5 * a1 + i)) = u i)
    (hQ : Q (vF u n 0 0) J) : wX12_seen a1 a2 J Q := by
  have L : ∀ (m : Nat) (x s t : Int), 0 ≤ x → x ≤ n → 0 ≤ s → s ≤ x → n - x < m → s + vF u n x t = vF u n 0 0 → wX12_seen_8 Q a1 a2 m t s x J := by
    intro m
    induction m with
    | zero => intro x s t h0 h1 h2 h3 h4; omega
    | succ m ih =>
      intro x s t h0 h1 h2 h3 h4 h5
      show wbX12_seen_8 Q a1 a2 (wX12_seen_8 Q a1 a2 m) t s x J
      unfold wbX12_seen_8 wX12_seen_43 wX12_cellOf
      dsimp only
      rw [hn]
      refine ⟨hr, fun c => ?_, fun c => ⟨by omega, hc x h0 (by omega), fun z hz => ?_⟩⟩
      · rw [vF_e c] at h5
        have : s = vF u n 0 0 := by omega
        rw [this]; exact hQ
      · rw [hv x h0 (by omega)] at hz
        subst hz
        refine ⟨fun f => ⟨by unfold inR; omega, fun y hy y2 hy2 => ⟨by unfold inR; omega, fun y3 hy3 => ?_⟩⟩, fun f => ⟨by unfold inR; omega, fun y hy y2 hy2 => ⟨by unfold inR; omega, fun y3 hy3 => ?_⟩⟩⟩
        · rw [vF_f (by omega) (by omega)] at h5
          have e : imax t (u x) = t := by unfold imax; split <;> omega
          rw [e] at hy2
          subst hy; subst hy2; subst hy3
          exact ih _ _ _ (by omega) (by omega) (by omega) (by omega) (by omega) (by omega)
        · rw [vF_t (by omega) (by omega)] at h5
          have e : imax t (u x) = u x := by unfold imax; split <;> omega
          rw [e] at hy2
          subst hy; subst hy2; subst hy3
          exact ih _ _ _ (by omega) (by omega) (by omega) (by omega) (by omega) (by omega)
  exact ⟨7, L 7 0 0 0 (by omega) h0 (by omega) (by omega) (by omega) (by omega)⟩
/-- what one more place makes of 'some place does' -/
theorem fl_s {p : Int → Prop} {f g x n : Int} {G : Prop} (hx : x < n) (hg : g = 1 ↔ (f = 1 ∨ p x)) (h : (f = 1 ∨ exF p x n) ↔ G) : (g = 1 ∨ exF p (x + 1) n) ↔ G := by
  refine Iff.trans ⟨fun w => ?_, fun w => ?_⟩ h
  · rcases w with w | ⟨j, j1, j2, j3⟩
    · rcases hg.mp w with w | w
      · exact Or.inl w
      · exact Or.inr ⟨x, Int.le_refl x, hx, w⟩
    · exact Or.inr ⟨j, by omega, j2, j3⟩
  · rcases w with w | ⟨j, j1, j2, j3⟩
    · exact Or.inl (hg.mpr (Or.inl w))
    · by_cases e : j = x
      · subst e; exact Or.inl (hg.mpr (Or.inr j3))
      · exact Or.inr ⟨j, by omega, j2, j3⟩
theorem sm_pair {κ N : Int} (hr : 0 ≤ a1 ∧ a1 < 70) (h0 : 0 ≤ n) (h5 : n ≤ 5) (hn : J 1018 a1 = n) (hκ : J 1015 a1 = κ) (hN : J 1016 a1 = N) (hc : ∀ i, 0 ≤ i → i < n → 0 ≤ J 1019 (5 * a1 + i) ∧ J 1019 (5 * a1 + i) < 25) (hv : ∀ i, 0 ≤ i → i < n → J a2 (J 1019 (5 * a1 + i)) = u i) (hu : ∀ i, 0 ≤ i → i < n → 0 ≤ u i ∧ u i ≤ 5)
    (hQ : Q (b2 (prF (fun i j => u i ≠ 0 ∧ u j ≠ 0 ∧ PB κ N i j (u i) (u j)) n)) J) : wX12_isPairBroken a1 a2 J (fun r J => (r = 0 ∨ r = 1) ∧ Q r J) := by
  rw [b2_c prF_2] at hQ
  obtain ⟨q1, q0⟩ := b2_q (Q := fun z => Q z J) hQ
  have Li : ∀ (K : Int → Int → cI → Prop) (i : Int), 0 ≤ i → i < n → ∀ (m : Nat) (x f : Int) (G : Prop), 0 ≤ x → x ≤ n → n - x < m → (f = 0 ∨ f = 1) →
      ((f = 1 ∨ exF (fun j => u i ≠ 0 ∧ u j ≠ 0 ∧ PB κ N i j (u i) (u j)) x n) ↔ G) → (G → K 1 (i + 1) J) → (¬ G → K 0 (i + 1) J) →
      wX12_isPairBroken_22 (fun r J => (r = 0 ∨ r = 1) ∧ Q r J) a1 a2 K m f i x J := by
    intro K i hi hi2 m
    induction m with
    | zero => intro x f G h0 h1 h2; omega
    | succ m ih =>
      intro x f G h0 h1 h2 hf hG k1 k0
      show wbX12_isPairBroken_22 (fun r J => (r = 0 ∨ r = 1) ∧ Q r J) a1 a2 K (wX12_isPairBroken_22 (fun r J => (r = 0 ∨ r = 1) ∧ Q r J) a1 a2 K m) f i x J
      unfold wbX12_isPairBroken_22 wX12_cellOf
      dsimp only
      rw [hn, hκ, hN]
      refine ⟨hr, fun c => ⟨by unfold inR; omega, fun z hz => ?_⟩, fun c => ⟨by omega, hc i hi hi2, fun z hz => ⟨by omega, hc x h0 (by omega), fun y hy => ?_⟩⟩⟩
      · have t := exF_x (p := fun j => u i ≠ 0 ∧ u j ≠ 0 ∧ PB κ N i j (u i) (u j)) c
        subst hz
        rcases hf with rfl | rfl
        · exact k0 (fun w => (hG.mpr w).elim (fun y => absurd y (by decide)) t)
        · exact k1 (hG.mp (Or.inl rfl))
      · rw [hv i hi hi2] at hz
        rw [hv x h0 (by omega)] at hy
        have u1 := hu i hi hi2
        have u2 := hu x h0 (by omega)
        have hit : ∀ g, (g = 0 ∨ g = 1) → (g = 1 ↔ (f = 1 ∨ (u i ≠ 0 ∧ u x ≠ 0 ∧ PB κ N i x (u i) (u x)))) → inR (x + 1) ∧ ∀ z, z = x + 1 → wX12_isPairBroken_22 (fun r J => (r = 0 ∨ r = 1) ∧ Q r J) a1 a2 K m g i z J := fun g hg2 hg => ⟨by unfold inR; omega, fun z hz => by subst hz; exact ih (x + 1) g G (by omega) (by omega) (by omega) hg2 (fl_s (p := fun j => u i ≠ 0 ∧ u j ≠ 0 ∧ PB κ N i j (u i) (u j)) (by omega) hg hG) k1 k0⟩
        have g0 := hit 0 (Or.inl rfl)
        have g1 := hit 1 (Or.inr rfl)
        have gf := hit f hf
        rw [← hz, ← hy] at g0 g1 gf
        rw [← hz] at u1
        rw [← hy] at u2
        clear hit ih hG k1 k0 hQ q1 q0 hc hv hu hz hy
        have i1 : inR (i + 1) := by unfold inR; omega
        have i2 : inR (z - y) := by unfold inR; omega
        have i3 : inR (y - z) := by unfold inR; omega
        have i4 : inR (x - i) := by unfold inR; omega
        have i5 : inR (iabs (z - y)) := by unfold iabs inR; split <;> omega
        refine ⟨fun e => gf (lff (fun w => w.1 e)), fun e => ⟨fun e2 => ⟨hr, fun k hk => ?_⟩, fun e2 => gf (lff (fun w => w.2.1 e2))⟩⟩
        subst hk
        have no : ¬ f = 0 → f = 1 := fun d => by omega
        refine ⟨fun k0 => ⟨fun k11 => ⟨fun k3 => ⟨fun k4 => ⟨fun d => g1 (lf1 (Or.inl (no d))), fun d => ⟨i1, fun d2 => g0 (lf0 d (fun w => d2 ((PB_n k0 k11 k3 k4).mp w.2.2).1)), fun d2 => ⟨i2, hr, i5, fun d3 => g0 (lf0 d (fun w => by have := ((PB_n k0 k11 k3 k4).mp w.2.2).2; omega)), fun d3 => g1 (lf1 (Or.inr ⟨e, e2, (PB_n k0 k11 k3 k4).mpr ⟨d2, by omega⟩⟩))⟩⟩⟩, fun k4 => ⟨fun d => g1 (lf1 (Or.inl (no d))), fun d => ⟨i3, i4, fun d2 => g0 (lf0 d (fun w => by have := (PB_4 k4).mp w.2.2; omega)), fun d2 => g1 (lf1 (Or.inr ⟨e, e2, (PB_4 k4).mpr (by omega)⟩))⟩⟩⟩, fun k3 => ⟨fun d => g1 (lf1 (Or.inl (no d))), fun d => ⟨fun d2 => g0 (lf0 d (fun w => by have := (PB_3 k3).mp w.2.2; omega)), fun d2 => g1 (lf1 (Or.inr ⟨e, e2, (PB_3 k3).mpr (by omega)⟩))⟩⟩⟩, fun k11 => ⟨fun d => g1 (lf1 (Or.inl (no d))), fun d => ⟨fun d2 => g0 (lf0 d (fun w => (PB_11 k11).mp w.2.2 d2)), fun d2 => g1 (lf1 (Or.inr ⟨e, e2, (PB_11 k11).mpr d2⟩))⟩⟩⟩, fun k0 => ⟨fun d => g1 (lf1 (Or.inl (no d))), fun d => ⟨fun d2 => g0 (lf0 d (fun w => d2 ((PB_0 k0).mp w.2.2))), fun d2 => g1 (lf1 (Or.inr ⟨e, e2, (PB_0 k0).mpr d2⟩))⟩⟩⟩
  have L : ∀ (m : Nat) (x f : Int), 0 ≤ x → x ≤ n → n - x < m → (f = 0 ∨ f = 1) → ((f = 1 ∨ exF (fun i => exF (fun j => u i ≠ 0 ∧ u j ≠ 0 ∧ PB κ N i j (u i) (u j)) (i + 1) n) x n) ↔
      exF (fun i => exF (fun j => u i ≠ 0 ∧ u j ≠ 0 ∧ PB κ N i j (u i) (u j)) (i + 1) n) 0 n) → wX12_isPairBroken_5 (fun r J => (r = 0 ∨ r = 1) ∧ Q r J) a1 a2 m f x J := by
    intro m
    induction m with
    | zero => intro x f h0 h1 h2; omega
    | succ m ih =>
      intro x f h0 h1 h2 hf hh
      show wbX12_isPairBroken_5 (fun r J => (r = 0 ∨ r = 1) ∧ Q r J) a1 a2 (wX12_isPairBroken_5 (fun r J => (r = 0 ∨ r = 1) ∧ Q r J) a1 a2 m) f x J
      unfold wbX12_isPairBroken_5
      rw [hn]
      refine ⟨hr, fun c => ⟨hf, hf, ?_⟩, fun c => ⟨by unfold inR; omega, fun z hz => ⟨7, ?_⟩⟩⟩
      · rcases hf with rfl | rfl
        · exact q0 (fun h => (hh.mpr h).elim (fun y => absurd y (by decide)) (exF_x c))
        · exact q1 (hh.mp (Or.inl rfl))
      · subst hz
        refine Li _ x h0 (by omega) 7 (x + 1) f _ (by omega) (by omega) (by omega) hf Iff.rfl (fun he => ?_) (fun he => ?_)
        · exact ih (x + 1) 1 (by omega) (by omega) (by omega) (Or.inr rfl) (fl_s (p := fun i => exF (fun j => u i ≠ 0 ∧ u j ≠ 0 ∧ PB κ N i j (u i) (u j)) (i + 1) n) (by omega) ⟨fun _ => he, fun _ => rfl⟩ hh)
        · exact ih (x + 1) 0 (by omega) (by omega) (by omega) (Or.inl rfl) (fl_s (p := fun i => exF (fun j => u i ≠ 0 ∧ u j ≠ 0 ∧ PB κ N i j (u i) (u j)) (i + 1) n) (by omega) ⟨fun w => absurd w (by decide), fun w => absurd w he⟩ hh)
  exact ⟨7, L 7 0 0 (by omega) h0 (by omega) (Or.inl rfl) ⟨fun z => z.elim (fun y => absurd y (by decide)) id, Or.inr⟩⟩
theorem sm_sum {N h : Int} (hr : 0 ≤ a1 ∧ a1 < 70) (h0 : 0 ≤ n) (h5 : n ≤ 5) (hh : J 1000 13 = h) (hc : ∀ i, 0 ≤ i → i < n → 0 ≤ J 1019 (5 * a1 + i) ∧ J 1019 (5 * a1 + i) < 25) (hv : ∀ i, 0 ≤ i → i < n → J a2 (J 1019 (5 * a1 + i)) = u i) (hu : ∀ i, 0 ≤ i → i < n → 0 ≤ u i ∧ u i ≤ 5) (ha : 0 ≤ h ∧ h ≤ 5)
    (hQ : Q (b2 (N < sF u 0 n + cF (fun i => u i = 0) 0 n ∨ sF u 0 n + h * cF (fun i => u i = 0) 0 n < N)) J) : ∃ m, wX12_isBroken_121 Q a1 a2 m n N 0 0 0 J := by
  obtain ⟨q1, q0⟩ := b2_q (Q := fun z => Q z J) hQ
  have L : ∀ (m : Nat) (x s t : Int), 0 ≤ x → x ≤ n → 0 ≤ s → s ≤ 5 * x → 0 ≤ t → t ≤ 5 * x → n - x < m →
      s + (sF u x n + cF (fun i => u i = 0) x n) = sF u 0 n + cF (fun i => u i = 0) 0 n →
      t + (sF u x n + h * cF (fun i => u i = 0) x n) = sF u 0 n + h * cF (fun i => u i = 0) 0 n →
      wX12_isBroken_121 Q a1 a2 m n N s t x J := by
    intro m
    induction m with
    | zero => intro x s t h0 h1 h2 h3 h4 h5; omega
    | succ m ih =>
      intro x s t h0 h1 h2 h3 h4 h5 h6 h7 h8
      show wbX12_isBroken_121 Q a1 a2 (wX12_isBroken_121 Q a1 a2 m) n N s t x J
      unfold wbX12_isBroken_121 wX12_isBroken_151 wX12_cellOf
      dsimp only
      rw [hh]
      refine ⟨fun c => ?_, fun c => ⟨by omega, hc x h0 (by omega), fun z hz => ?_⟩⟩
      · rw [sF_e c, cF_e c] at h7 h8
        rw [Int.mul_zero] at h8
        rw [← h8, ← h7] at q1 q0
        exact ⟨fun e => q1 (Or.inl (by omega)), fun e => ⟨fun f => q0 (by omega), fun f => q1 (by omega)⟩⟩
      · rw [hv x h0 (by omega)] at hz
        subst hz
        have u1 := hu x h0 (by omega)
        rw [sF_s (by omega)] at h7 h8
        refine ⟨fun e => ⟨by unfold inR; omega, fun y hy => ⟨fun d => ⟨by unfold inR; omega, fun y2 hy2 => ⟨by unfold inR; omega, fun y3 hy3 => ?_⟩⟩, fun d => absurd d e⟩⟩, fun e => ⟨by unfold inR; omega, fun y hy => ⟨fun d => absurd e d, fun d => ⟨by unfold inR; omega, fun y2 hy2 => ⟨by unfold inR; omega, fun y3 hy3 => ?_⟩⟩⟩⟩⟩
        · rw [cF_f (p := fun i => u i = 0) e] at h7 h8
          subst hy; subst hy2; subst hy3
          exact ih _ _ _ (by omega) (by omega) (by omega) (by omega) (by omega) (by omega) (by omega) (by omega) (by omega)
        · rw [cF_t (p := fun i => u i = 0) (by omega) e] at h7 h8
          rw [Int.mul_add, Int.mul_one] at h8
          subst hy; subst hy2; subst hy3
          exact ih _ _ _ (by omega) (by omega) (by omega) (by omega) (by omega) (by omega) (by omega) (by omega) (by omega)
  exact ⟨7, L 7 0 0 0 (by omega) h0 (by omega) (by omega) (by omega) (by omega) (by omega) (by omega) (by omega)⟩
theorem sm_prod {N e : Int} (hr : 0 ≤ a1 ∧ a1 < 70) (h0 : 0 ≤ n) (h5 : n ≤ 5) (hc : ∀ i, 0 ≤ i → i < n → 0 ≤ J 1019 (5 * a1 + i) ∧ J 1019 (5 * a1 + i) < 25) (hv : ∀ i, 0 ≤ i → i < n → J a2 (J 1019 (5 * a1 + i)) = u i) (hu : ∀ i, 0 ≤ i → i < n → 0 ≤ u i ∧ u i ≤ 5) (hN : 0 ≤ N ∧ N ≤ 9999)
    (hQ : Q (b2 (N % pF (fun i => imax 1 (u i)) 0 n ≠ 0 ∨ (e = 0 ∧ pF (fun i => imax 1 (u i)) 0 n ≠ N))) J) : ∃ m, wX12_isBroken_205 Q a1 a2 m n N e 1 0 J := by
  obtain ⟨q1, q0⟩ := b2_q (Q := fun z => Q z J) hQ
  have f1 : ∀ i, 1 ≤ imax 1 (u i) := fun i => by unfold imax; split <;> omega
  have P1 : pF (fun i => imax 1 (u i)) 0 n ≤ 5 ^ 5 := pF_u f1 0 (fun i h1 h2 => by have := hu i h1 h2; unfold imax; split <;> omega) 5 (by omega)
  have P2 : pF (fun i => imax 1 (u i)) 0 n ≤ 3125 := P1
  have L : ∀ (m : Nat) (x p : Int), 0 ≤ x → x ≤ n → n - x < m → 1 ≤ p → p * pF (fun i => imax 1 (u i)) x n = pF (fun i => imax 1 (u i)) 0 n → wX12_isBroken_205 Q a1 a2 m n N e p x J := by
    intro m
    induction m with
    | zero => intro x p h0 h1 h2; omega
    | succ m ih =>
      intro x p h0 h1 h2 h3 h4
      show wbX12_isBroken_205 Q a1 a2 (wX12_isBroken_205 Q a1 a2 m) n N e p x J
      unfold wbX12_isBroken_205 wX12_cellOf
      dsimp only
      have p1 := pF_p (n := n) f1 x
      have p2 := pF_p (n := n) f1 (x + 1)
      have p3 := le_mulr (by omega) p1 h4
      refine ⟨fun c => ?_, fun c => ?_⟩
      · rw [pF_e c, Int.mul_one] at h4
        rw [← h4] at q1 q0
        have t1 := Int.emod_nonneg N (b := p) (by omega)
        have t2 := Int.emod_lt_of_pos N (b := p) (by omega)
        exact ⟨by omega, by unfold inR; omega, fun d => q1 (Or.inl d), fun d => ⟨fun d2 => q0 (by omega), fun d2 => ⟨fun d3 => q0 (by omega), fun d3 => q1 (Or.inr ⟨d2, d3⟩)⟩⟩⟩
      · rw [pF_s (by omega), ← Int.mul_assoc] at h4
        have f2 := f1 x
        have hz1 : 1 ≤ p * imax 1 (u x) := by
          have := Int.mul_le_mul h3 f2 (by decide) (by omega)
          omega
        have p4 := le_mulr (by omega) p2 h4
        rw [hv x h0 (by omega)]
        refine ⟨by omega, hc x h0 (by omega), by unfold inR; omega, fun z2 hz2 => ⟨by unfold inR; omega, fun z3 hz3 => ?_⟩⟩
        subst hz2; subst hz3
        exact ih (x + 1) _ (by omega) (by omega) (by omega) hz1 h4
  exact ⟨7, L 7 0 1 (by omega) h0 (by omega) (by omega) (Int.one_mul _)⟩
theorem sm_count {N e T : Int} (hr : 0 ≤ a1 ∧ a1 < 70) (h0 : 0 ≤ n) (h5 : n ≤ 5) (hT : J 1017 a1 = T) (hc : ∀ i, 0 ≤ i → i < n → 0 ≤ J 1019 (5 * a1 + i) ∧ J 1019 (5 * a1 + i) < 25) (hv : ∀ i, 0 ≤ i → i < n → J a2 (J 1019 (5 * a1 + i)) = u i) (he : 0 ≤ e ∧ e ≤ 5)
    (hQ : Q (b2 (T < cF (fun i => u i = N) 0 n ∨ cF (fun i => u i = N) 0 n + e < T)) J) : ∃ m, wX12_isBroken_289 Q a1 a2 m n N e 0 0 J := by
  obtain ⟨q1, q0⟩ := b2_q (Q := fun z => Q z J) hQ
  have L : ∀ (m : Nat) (x s : Int), 0 ≤ x → x ≤ n → 0 ≤ s → s ≤ x → n - x < m → s + cF (fun i => u i = N) x n = cF (fun i => u i = N) 0 n → wX12_isBroken_289 Q a1 a2 m n N e s x J := by
    intro m
    induction m with
    | zero => intro x s h0 h1 h2 h3 h4; omega
    | succ m ih =>
      intro x s h0 h1 h2 h3 h4 h5
      show wbX12_isBroken_289 Q a1 a2 (wX12_isBroken_289 Q a1 a2 m) n N e s x J
      unfold wbX12_isBroken_289 wX12_cellOf
      dsimp only
      rw [hT]
      refine ⟨fun c => ?_, fun c => ⟨by omega, hc x h0 (by omega), ?_⟩⟩
      · rw [cF_e c] at h5
        exact ⟨hr, fun d => q1 (Or.inl (by omega)), fun d => ⟨hr, by unfold inR; omega, fun f => q0 (by omega), fun f => q1 (by omega)⟩⟩
      · rw [hv x h0 (by omega)]
        refine ⟨fun d => ⟨by unfold inR; omega, fun y hy => ⟨by unfold inR; omega, fun y2 hy2 => ?_⟩⟩, fun d => ⟨by unfold inR; omega, fun y hy => ⟨by unfold inR; omega, fun y2 hy2 => ?_⟩⟩⟩
        · rw [cF_f (p := fun i => u i = N) d] at h5
          subst hy; subst hy2
          exact ih _ _ (by omega) (by omega) (by omega) (by omega) (by omega) (by omega)
        · rw [cF_t (p := fun i => u i = N) (by omega) d] at h5
          subst hy; subst hy2
          exact ih _ _ (by omega) (by omega) (by omega) (by omega) (by omega) (by omega)
  exact ⟨7, L 7 0 0 (by omega) h0 (by omega) (by omega) (by omega) (by omega)⟩
/-- odd, even, is -/
def oeF (κ N v : Int) : Prop := v ≠ 0 ∧ ((κ = 9 ∧ v ≠ N) ∨ (κ ≠ 9 ∧ κ = 6 ∧ v % 2 ≠ 1) ∨ (κ ≠ 9 ∧ κ ≠ 6 ∧ v % 2 ≠ 0))
theorem sm_oe {κ N : Int} (hr : 0 ≤ a1 ∧ a1 < 70) (h0 : 0 ≤ n) (h5 : n ≤ 5) (hκ : J 1015 a1 = κ) (hc : ∀ i, 0 ≤ i → i < n → 0 ≤ J 1019 (5 * a1 + i) ∧ J 1019 (5 * a1 + i) < 25) (hv : ∀ i, 0 ≤ i → i < n → J a2 (J 1019 (5 * a1 + i)) = u i) (hu : ∀ i, 0 ≤ i → i < n → 0 ≤ u i ∧ u i ≤ 5)
    (hQ : Q (b2 (exF (fun i => oeF κ N (u i)) 0 n)) J) : ∃ m, wX12_isBroken_362 Q a1 a2 m n N 0 0 J := by
  obtain ⟨q1, q0⟩ := b2_q (Q := fun z => Q z J) hQ
  have L : ∀ (m : Nat) (x f : Int), 0 ≤ x → x ≤ n → n - x < m → (f = 0 ∨ f = 1) → ((f = 1 ∨ exF (fun i => oeF κ N (u i)) x n) ↔ exF (fun i => oeF κ N (u i)) 0 n) → wX12_isBroken_362 Q a1 a2 m n N f x J := by
    intro m
    induction m with
    | zero => intro x f h0 h1 h2; omega
    | succ m ih =>
      intro x f h0 h1 h2 h3 h4
      show wbX12_isBroken_362 Q a1 a2 (wX12_isBroken_362 Q a1 a2 m) n N f x J
      unfold wbX12_isBroken_362 wX12_isBroken_430 wX12_cellOf
      dsimp only
      rw [hκ]
      refine ⟨fun c => ⟨h3, ?_⟩, fun c => ⟨by omega, hc x h0 (by omega), fun z hz => ?_⟩⟩
      · rcases h3 with rfl | rfl
        · exact q0 (fun h => (h4.mpr h).elim (fun y => absurd y (by decide)) (exF_x c))
        · exact q1 (h4.mp (Or.inl rfl))
      · rw [hv x h0 (by omega)] at hz
        have u2 := hu x h0 (by omega)
        have go : ∀ g, (g = 0 ∨ g = 1) → (g = 1 ↔ (f = 1 ∨ oeF κ N (u x))) → inR (x + 1) ∧ ∀ z, z = x + 1 → wX12_isBroken_362 Q a1 a2 m n N g z J := fun g hg hg2 => ⟨by unfold inR; omega, fun z hz => by subst hz; exact ih (x + 1) g (by omega) (by omega) (by omega) hg (fl_s (p := fun i => oeF κ N (u i)) (by omega) hg2 h4)⟩
        have g0 := go 0 (Or.inl rfl)
        have g1 := go 1 (Or.inr rfl)
        rw [← hz] at g0 g1 u2
        clear go ih h4 hQ q1 q0 hc hv hu hz
        generalize hx : x + 1 = x1 at *
        unfold oeF at g0 g1
        have i1 : inR (z % 2) := by unfold inR; omega
        exact ⟨fun d => g1 (by omega), fun d => ⟨fun d2 => g0 (by omega), fun d2 => ⟨hr, fun k => ⟨u2.1, hr, fun k2 => ⟨i1, fun d3 => g0 (by omega), fun d3 => g1 (by omega)⟩, fun k2 => ⟨i1, fun d3 => g0 (by omega), fun d3 => g1 (by omega)⟩⟩, fun k => ⟨fun d3 => g0 (by omega), fun d3 => g1 (by omega)⟩⟩⟩⟩
  exact ⟨7, L 7 0 0 (by omega) h0 (by omega) (Or.inl rfl) ⟨fun z => z.elim (fun y => absurd y (by decide)) id, Or.inr⟩⟩
theorem sm_brk {κ N T h : Int} (hr : 0 ≤ a1 ∧ a1 < 70) (h0 : 0 ≤ n) (h5 : n ≤ 5) (hn : J 1018 a1 = n) (hκ : J 1015 a1 = κ) (hI : J 1016 a1 = N) (hT : J 1017 a1 = T) (hh : J 1000 13 = h) (hc : ∀ i, 0 ≤ i → i < n → 0 ≤ J 1019 (5 * a1 + i) ∧ J 1019 (5 * a1 + i) < 25) (hv : ∀ i, 0 ≤ i → i < n → J a2 (J 1019 (5 * a1 + i)) = u i) (hu : ∀ i, 0 ≤ i → i < n → 0 ≤ u i ∧ u i ≤ 5) (ha : 0 ≤ h ∧ h ≤ 5) (hN : 0 ≤ N ∧ N ≤ 9999)
    (hk : 0 ≤ κ ∧ κ < 12) (hk3 : κ = 3 → n ≤ 2)
    (hQ : Q (b2 (brk κ N T n h u)) J) : wX12_isBroken a1 a2 J Q := by
  have q2 : ∀ {P : Prop}, (brk κ N T n h u ↔ P) → Q (b2 P) J := fun {P} h => by rw [← b2_c h]; exact hQ
  have L : ∀ (m : Nat) (x e : Int), 0 ≤ x → x ≤ n → n - x < m → 0 ≤ e → e ≤ x → e + cF (fun i => u i = 0) x n = cF (fun i => u i = 0) 0 n → wX12_isBroken_21 Q a1 a2 m n N e x J := by
    intro m
    induction m with
    | zero => intro x f h0 h1 h2; omega
    | succ m ih =>
      intro x e g0 g1 g2 g3 g4 g5
      show wbX12_isBroken_21 Q a1 a2 (wX12_isBroken_21 Q a1 a2 m) n N e x J
      unfold wbX12_isBroken_21
      rw [hκ]
      refine ⟨fun c => ⟨hr, ?_⟩, fun c => ?_⟩
      · rw [cF_e c] at g5
        have e0 : e = 0 ↔ ¬ exF (fun i => u i = 0) 0 n := by rw [← cF_0]; omega
        have eE : cF (fun i => u i = 0) 0 n = e := by omega
        unfold brk at q2
        have pb : ∀ {P : Int → Int → Prop}, (∀ i j, 0 ≤ i → i < j → j < n → (P i j ↔ (u i ≠ 0 ∧ u j ≠ 0 ∧ PB κ N i j (u i) (u j)))) → (prF P n ↔ prF (fun i j => u i ≠ 0 ∧ u j ≠ 0 ∧ PB κ N i j (u i) (u j)) n) := fun h => prF_cg h
        refine ⟨fun k => ?_, fun k => ?_, fun k => ?_, fun k => ?_, fun k => ?_, fun k => ?_, fun k => ?_, fun k => ?_, fun k => ?_, fun k1 k2 k3 k4 k5 k6 k7 k8 k9 => ?_⟩
        · exact sm_sum hr h0 h5 hh hc hv hu ha (q2 (by simp [k]))
        · exact sm_prod hr h0 h5 hc hv hu hN (q2 (by simp [k, e0]))
        · refine sm_pair hr h0 h5 hn hκ hI hc hv hu (q2 ?_)
          rw [← pb (P := fun i j => u i ≠ 0 ∧ u j ≠ 0 ∧ u j - u i < j - i) (fun i j h1 h2 h3 => by have := hk3 k; rw [PB_3 k]; omega)]
          simp [k]
        · refine sm_pair hr h0 h5 hn hκ hI hc hv hu (q2 ?_)
          rw [← pb (P := fun i j => u i ≠ 0 ∧ u j ≠ 0 ∧ u j - u i < j - i) (fun i j h1 h2 h3 => by rw [PB_4 k])]
          simp [k]
        · refine ⟨fun ne => ?_, fun ez => ?_⟩
          · have := q2 (P := False) (by simp [k]; intro w; exact absurd (e0.mpr w) ne)
            rw [b2_f id] at this; exact this
          · refine sm_seen hr h0 h5 hn hc hv ?_
            have := q2 (P := vF u n 0 0 ≠ N) (by simp [k]; intro w; exact e0.mp ez)
            refine ⟨fun c => ?_, fun c => ?_⟩
            · rw [b2_f (fun h => h c)] at this; exact this
            · rw [b2_t c] at this; exact this
        · refine sm_oe hr h0 h5 hκ hc hv hu (q2 ?_)
          rw [exF_cg (p := fun i => oeF κ N (u i)) (q := fun i => u i ≠ 0 ∧ u i % 2 = 0) (fun i h1 h2 => by have := hu i h1 h2; unfold oeF; omega)]
          simp [k]
        · refine sm_oe hr h0 h5 hκ hc hv hu (q2 ?_)
          rw [exF_cg (p := fun i => oeF κ N (u i)) (q := fun i => u i ≠ 0 ∧ u i % 2 = 1) (fun i h1 h2 => by have := hu i h1 h2; unfold oeF; omega)]
          simp [k]
        · exact sm_count hr h0 h5 hT hc hv (by omega) (q2 (by simp [k, eE]))
        · refine sm_oe hr h0 h5 hκ hc hv hu (q2 ?_)
          rw [exF_cg (p := fun i => oeF κ N (u i)) (q := fun i => u i ≠ 0 ∧ u i ≠ N) (fun i h1 h2 => by unfold oeF; omega)]
          simp [k]
        · have kk : κ = 0 ∨ κ = 10 ∨ κ = 11 := by omega
          refine sm_pair hr h0 h5 hn hκ hI hc hv hu (q2 ?_)
          rcases kk with k | k | k
          · rw [← pb (P := fun i j => u i ≠ 0 ∧ u j ≠ 0 ∧ u i = u j) (fun i j h1 h2 h3 => by rw [PB_0 k])]
            simp [k]
          · refine Iff.trans ?_ (show exF (fun i => u i ≠ 0 ∧ u (i + 1) ≠ 0 ∧ iabs (u i - u (i + 1)) < N) 0 (n - 1) ↔ _ from ⟨fun ⟨i, i1, i2, i3⟩ => ⟨i, i + 1, i1, by omega, by omega, i3.1, i3.2.1, ?_⟩, fun ⟨i, j, i1, i2, i3, i4, i5, i6⟩ => ?_⟩)
            · simp [k]
            · exact Or.inr (Or.inr (Or.inr (Or.inr ⟨by omega, by omega, by omega, by omega, rfl, i3.2.2⟩)))
            · obtain ⟨e1, e2⟩ := (PB_n (by omega) (by omega) (by omega) (by omega)).mp i6
              subst e1
              exact ⟨i, i1, by omega, i4, i5, e2⟩
          · rw [← pb (P := fun i j => u i ≠ 0 ∧ u j ≠ 0 ∧ u i ≠ u j) (fun i j h1 h2 h3 => by rw [PB_11 k])]
            simp [k]
      · unfold wX12_cellOf
        refine ⟨by omega, hc x g0 (by omega), ?_⟩
        rw [hv x g0 (by omega)]
        refine ⟨fun d => ⟨by unfold inR; omega, fun y hy => ⟨by unfold inR; omega, fun y2 hy2 => ?_⟩⟩, fun d => ⟨by unfold inR; omega, fun y hy => ⟨by unfold inR; omega, fun y2 hy2 => ?_⟩⟩⟩
        · rw [cF_f (p := fun i => u i = 0) d] at g5
          subst hy; subst hy2
          exact ih _ _ (by omega) (by omega) (by omega) (by omega) (by omega) (by omega)
        · rw [cF_t (p := fun i => u i = 0) (by omega) d] at g5
          subst hy; subst hy2
          exact ih _ _ (by omega) (by omega) (by omega) (by omega) (by omega) (by omega)
  exact ⟨hr, fun z hz => ⟨hr, fun z2 hz2 => ⟨7, by rw [hn] at hz; rw [hI] at hz2; subst hz; subst hz2; exact L 7 0 0 (by omega) h0 (by omega) (by omega) (by omega) (by omega)⟩⟩⟩
end RM
