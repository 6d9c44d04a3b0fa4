/-! ===== what breaks a rule: the class ===== -/
section RC
variable {Q : Int → cI → cR → Prop} {r0 a1 : Nat} {a2 n : Int} {I : cI} {R : cR} {u : Int → Int}
theorem sp_hasRem (h0 : 0 ≤ n) (h5 : n ≤ 5) (hn : I r0 3 = n) (hc : ∀ i, 0 ≤ i → i < n → 0 ≤ I (r0 + 130) i ∧ I (r0 + 130) i < 25) (hv : ∀ i, 0 ≤ i → i < n → I a1 (I (r0 + 130) i) = u i)
    (hQ : Q (b2 (exF (fun i => u i ≠ 0 ∧ iAnd (u i) 1 = a2) 0 n)) I R) : wX7_hasRemainder r0 a1 a2 I R Q := by
  obtain ⟨q1, q0⟩ := b2_q (Q := fun z => Q z I R) hQ
  have L : ∀ (m : Nat) (x : Int), 0 ≤ x → x ≤ n → n - x < m → (exF (fun i => u i ≠ 0 ∧ iAnd (u i) 1 = a2) x n → Q 1 I R) → (¬ exF (fun i => u i ≠ 0 ∧ iAnd (u i) 1 = a2) x n → Q 0 I R) → wX7_hasRemainder_2 Q r0 a1 a2 m x I R := by
    intro m
    induction m with
    | zero => intro x h0 h1 h2; omega
    | succ m ih =>
      intro x h0 h1 h2 k1 k0
      show wbX7_hasRemainder_2 Q r0 a1 a2 (wX7_hasRemainder_2 Q r0 a1 a2 m) x I R
      unfold wbX7_hasRemainder_2
      rw [hn]
      refine ⟨fun c => k0 (exF_x c), fun c => ⟨by omega, hc x h0 (by omega), fun z hz => ?_⟩⟩
      rw [hv x h0 (by omega)] at hz
      subst hz
      have nx : ¬ (u x ≠ 0 ∧ iAnd (u x) 1 = a2) → inR (x + 1) ∧ ∀ z, z = x + 1 → wX7_hasRemainder_2 Q r0 a1 a2 m z I R := fun e => ⟨by unfold inR; omega, fun y hy => by subst hy; exact ih (x + 1) (by omega) (by omega) (by omega) (fun w => k1 ((exF_s e).mpr w)) (fun w => k0 (fun y => w ((exF_s e).mp y)))⟩
      exact ⟨fun e => nx (fun z => z.1 e), fun e => ⟨fun f => nx (fun z => f z.2), fun f => k1 (exF_i (by omega) ⟨e, f⟩)⟩⟩
  exact ⟨7, L 7 0 (by omega) h0 (by omega) q1 q0⟩
theorem sp_isR {N : Int} (h0 : 0 ≤ n) (h5 : n ≤ 5) (hn : I r0 3 = n) (hN : I r0 1 = N) (hc : ∀ i, 0 ≤ i → i < n → 0 ≤ I (r0 + 130) i ∧ I (r0 + 130) i < 25) (hv : ∀ i, 0 ≤ i → i < n → I a1 (I (r0 + 130) i) = u i)
    (hQ : Q (b2 (exF (fun i => u i ≠ 0 ∧ u i ≠ N) 0 n)) I R) : wX7_breaksIs r0 a1 I R Q := by
  obtain ⟨q1, q0⟩ := b2_q (Q := fun z => Q z I R) hQ
  have L : ∀ (m : Nat) (x : Int), 0 ≤ x → x ≤ n → n - x < m → (exF (fun i => u i ≠ 0 ∧ u i ≠ N) x n → Q 1 I R) → (¬ exF (fun i => u i ≠ 0 ∧ u i ≠ N) x n → Q 0 I R) → wX7_breaksIs_2 Q r0 a1 m x I R := by
    intro m
    induction m with
    | zero => intro x h0 h1 h2; omega
    | succ m ih =>
      intro x h0 h1 h2 k1 k0
      show wbX7_breaksIs_2 Q r0 a1 (wX7_breaksIs_2 Q r0 a1 m) x I R
      unfold wbX7_breaksIs_2
      rw [hn, hN]
      refine ⟨fun c => k0 (exF_x c), fun c => ⟨by omega, hc x h0 (by omega), fun z hz => ?_⟩⟩
      rw [hv x h0 (by omega)] at hz
      subst hz
      have nx : ¬ (u x ≠ 0 ∧ u x ≠ N) → inR (x + 1) ∧ ∀ z, z = x + 1 → wX7_breaksIs_2 Q r0 a1 m z I R := fun e => ⟨by unfold inR; omega, fun y hy => by subst hy; exact ih (x + 1) (by omega) (by omega) (by omega) (fun w => k1 ((exF_s e).mpr w)) (fun w => k0 (fun y => w ((exF_s e).mp y)))⟩
      exact ⟨fun e => nx (fun z => z.1 e), fun e => ⟨fun f => nx (fun z => z.2 f), fun f => k1 (exF_i (by omega) ⟨e, f⟩)⟩⟩
  exact ⟨7, L 7 0 (by omega) h0 (by omega) q1 q0⟩
theorem sp_apart {N : Int} (h0 : 0 ≤ n) (h5 : n ≤ 5) (hn : I r0 3 = n) (hN : I r0 1 = N) (hc : ∀ i, 0 ≤ i → i < n → 0 ≤ I (r0 + 130) i ∧ I (r0 + 130) i < 25) (hv : ∀ i, 0 ≤ i → i < n → I a1 (I (r0 + 130) i) = u i) (hu : ∀ i, 0 ≤ i → i < n → 0 ≤ u i ∧ u i ≤ 5)
    (hQ : Q (b2 (exF (fun i => u i ≠ 0 ∧ u (i + 1) ≠ 0 ∧ iabs (u i - u (i + 1)) < N) 0 (n - 1))) I R) : wX7_breaksApart r0 a1 I R Q := by
  obtain ⟨q1, q0⟩ := b2_q (Q := fun z => Q z I R) hQ
  have L : ∀ (m : Nat) (x : Int), 0 ≤ x → (x ≤ n - 1 ∨ x = 0) → n - x < m → (exF (fun i => u i ≠ 0 ∧ u (i + 1) ≠ 0 ∧ iabs (u i - u (i + 1)) < N) x (n - 1) → Q 1 I R) → (¬ exF (fun i => u i ≠ 0 ∧ u (i + 1) ≠ 0 ∧ iabs (u i - u (i + 1)) < N) x (n - 1) → Q 0 I R) → wX7_breaksApart_2 Q r0 a1 m (x + 1) I R := by
    intro m
    induction m with
    | zero => intro x h0 h1 h2; omega
    | succ m ih =>
      intro x h0 h1 h2 k1 k0
      show wbX7_breaksApart_2 Q r0 a1 (wX7_breaksApart_2 Q r0 a1 m) (x + 1) I R
      have e : x + 1 - 1 = x := by omega
      unfold wbX7_breaksApart_2 wX7_breaksApart_48
      rw [e, hn, hN]
      refine ⟨fun c => k0 (exF_x (by omega)), fun c => ⟨by omega, hc x h0 (by omega), fun z hz => ⟨by omega, hc (x + 1) (by omega) (by omega), fun y hy => ?_⟩⟩⟩
      rw [hv x h0 (by omega)] at hz
      rw [hv (x + 1) (by omega) (by omega)] at hy
      have u1 := hu x h0 (by omega)
      have u2 := hu (x + 1) (by omega) (by omega)
      rw [← hz] at u1
      rw [← hy] at u2
      have nx : ¬ (u x ≠ 0 ∧ u (x + 1) ≠ 0 ∧ iabs (u x - u (x + 1)) < N) → inR (x + 1 + 1) ∧ ∀ z, z = x + 1 + 1 → wX7_breaksApart_2 Q r0 a1 m z I R := fun e => ⟨by unfold inR; omega, fun y hy => by subst hy; exact ih (x + 1) (by omega) (by omega) (by omega) (fun w => k1 ((exF_s e).mpr w)) (fun w => k0 (fun y => w ((exF_s e).mp y)))⟩
      have hit : u x ≠ 0 ∧ u (x + 1) ≠ 0 ∧ iabs (u x - u (x + 1)) < N → Q 1 I R := fun w => k1 (exF_i (by omega) w)
      rw [← hz, ← hy] at nx hit
      clear hc hv hu ih k1 k0 hQ q1 q0 hz hy
      unfold iabs at nx hit
      unfold inR at *
      grind
  exact ⟨7, L 7 0 (by omega) (Or.inr rfl) (by omega) q1 q0⟩
theorem sp_sight {N : Int} (h0 : 0 ≤ n) (h5 : n ≤ 5) (hn : I r0 3 = n) (hN : I r0 1 = N) (hc : ∀ i, 0 ≤ i → i < n → 0 ≤ I (r0 + 130) i ∧ I (r0 + 130) i < 25) (hv : ∀ i, 0 ≤ i → i < n → I a1 (I (r0 + 130) i) = u i)
    (hQ : Q (b2 (¬ exF (fun i => u i = 0) 0 n ∧ vF u n 0 0 ≠ N)) I R) : wX7_breaksSight r0 a1 I R Q := by
  obtain ⟨q1, q0⟩ := b2_q (Q := fun z => Q z I R) hQ
  have L : ∀ (m : Nat) (x s t : Int), 0 ≤ x → x ≤ n → 0 ≤ s → s ≤ x → n - x < m → s + vF u n x t = vF u n 0 0 →
      (exF (fun i => u i = 0) x n ↔ exF (fun i => u i = 0) 0 n) → wX7_breaksSight_7 Q r0 a1 m s t x I R := by
    intro m
    induction m with
    | zero => intro x s t h0 h1 h2 h3 h4; omega
    | succ m ih =>
      intro x s t h0 h1 h2 h3 h4 h5 h6
      show wbX7_breaksSight_7 Q r0 a1 (wX7_breaksSight_7 Q r0 a1 m) s t x I R
      unfold wbX7_breaksSight_7
      rw [hn, hN]
      refine ⟨fun c => ?_, fun c => ⟨by omega, hc x h0 (by omega), fun z hz => ?_⟩⟩
      · rw [vF_e c] at h5
        have e1 := exF_x (p := fun i => u i = 0) c
        exact ⟨fun e => q0 (fun w => w.2 (by omega)), fun e => q1 ⟨fun w => e1 (h6.mpr w), by omega⟩⟩
      · rw [hv x h0 (by omega)] at hz
        subst hz
        refine ⟨fun e => ?_, fun e => q0 (fun w => w.1 (h6.mp (exF_i (by omega) e)))⟩
        have e3 := exF_s (p := fun i => u i = 0) (n := n) e
        refine ⟨fun f => ⟨by unfold inR; omega, fun y hy => ?_⟩, fun f => ⟨by unfold inR; omega, fun y hy => ⟨by unfold inR; omega, fun y2 hy2 => ?_⟩⟩⟩
        · rw [vF_f (by omega) (by omega)] at h5
          subst hy
          exact ih _ _ _ (by omega) (by omega) h2 (by omega) (by omega) h5 (e3.symm.trans h6)
        · rw [vF_t (by omega) (by omega)] at h5
          subst hy; subst hy2
          exact ih _ _ _ (by omega) (by omega) (by omega) (by omega) (by omega) (by omega) (e3.symm.trans h6)
  exact ⟨7, L 7 0 0 0 (by omega) h0 (by omega) (by omega) (by omega) (by omega) Iff.rfl⟩
theorem sp_count {N T : Int} (h0 : 0 ≤ n) (h5 : n ≤ 5) (hn : I r0 3 = n) (hN : I r0 1 = N) (hT : I r0 2 = T) (hc : ∀ i, 0 ≤ i → i < n → 0 ≤ I (r0 + 130) i ∧ I (r0 + 130) i < 25) (hv : ∀ i, 0 ≤ i → i < n → I a1 (I (r0 + 130) i) = u i) (hN1 : 1 ≤ N)
    (hQ : Q (b2 (T < cF (fun i => u i = N) 0 n ∨ cF (fun i => u i = N) 0 n + cF (fun i => u i = 0) 0 n < T)) I R) : wX7_breaksCount r0 a1 I R Q := by
  obtain ⟨q1, q0⟩ := b2_q (Q := fun z => Q z I R) hQ
  have L : ∀ (m : Nat) (x s t : Int), 0 ≤ x → x ≤ n → 0 ≤ s → s ≤ x → 0 ≤ t → t ≤ x → n - x < m → s + cF (fun i => u i = N) x n = cF (fun i => u i = N) 0 n →
      t + cF (fun i => u i = 0) x n = cF (fun i => u i = 0) 0 n → wX7_breaksCount_7 Q r0 a1 m s t x I R := by
    intro m
    induction m with
    | zero => intro x s t h0 h1 h2 h3 h4 h5; omega
    | succ m ih =>
      intro x s t h0 h1 h2 h3 h4 h5 h6 h7 h8
      show wbX7_breaksCount_7 Q r0 a1 (wX7_breaksCount_7 Q r0 a1 m) s t x I R
      unfold wbX7_breaksCount_7
      rw [hn, hN, hT]
      refine ⟨fun c => ?_, fun c => ⟨by omega, hc x h0 (by omega), fun z hz => ?_⟩⟩
      · rw [cF_e c] at h7 h8
        exact ⟨fun e => q1 (Or.inl (by omega)), fun e => ⟨by unfold inR; omega, fun f => q0 (by omega), fun f => q1 (by omega)⟩⟩
      · rw [hv x h0 (by omega)] at hz
        subst hz
        refine ⟨fun e => ?_, fun e => ?_⟩
        · rw [cF_f (p := fun i => u i = N) e] at h7
          refine ⟨fun f => ?_, fun f => ?_⟩
          · rw [cF_f (p := fun i => u i = 0) f] at h8
            exact ⟨by unfold inR; omega, fun y hy => by subst hy; exact ih _ _ _ (by omega) (by omega) h2 (by omega) h4 (by omega) (by omega) h7 h8⟩
          · rw [cF_t (p := fun i => u i = 0) (by omega) f] at h8
            exact ⟨by unfold inR; omega, fun y hy => ⟨by unfold inR; omega, fun y2 hy2 => by subst hy; subst hy2; exact ih _ _ _ (by omega) (by omega) h2 (by omega) (by omega) (by omega) (by omega) h7 (by omega)⟩⟩
        · rw [cF_t (p := fun i => u i = N) (by omega) e] at h7
          rw [cF_f (p := fun i => u i = 0) (show ¬ u x = 0 by omega)] at h8
          exact ⟨by unfold inR; omega, fun y hy => ⟨by unfold inR; omega, fun y2 hy2 => by subst hy; subst hy2; exact ih _ _ _ (by omega) (by omega) (by omega) (by omega) h4 (by omega) (by omega) (by omega) h8⟩⟩
  exact ⟨7, L 7 0 0 0 (by omega) h0 (by omega) (by omega) (by omega) (by omega) (by omega) (by omega) (by omega)⟩
theorem sp_sum {N : Int} (h0 : 0 ≤ n) (h5 : n ≤ 5) (hn : I r0 3 = n) (hN : I r0 1 = N) (hc : ∀ i, 0 ≤ i → i < n → 0 ≤ I (r0 + 130) i ∧ I (r0 + 130) i < 25) (hv : ∀ i, 0 ≤ i → i < n → I a1 (I (r0 + 130) i) = u i) (hu : ∀ i, 0 ≤ i → i < n → 0 ≤ u i ∧ u i ≤ 5)
    (ha : 0 ≤ a2 ∧ a2 ≤ 5)
    (hQ : Q (b2 (N < sF u 0 n + cF (fun i => u i = 0) 0 n ∨ sF u 0 n + a2 * cF (fun i => u i = 0) 0 n < N)) I R) : wX7_breaksSum r0 a1 a2 I R Q := by
  obtain ⟨q1, q0⟩ := b2_q (Q := fun z => Q z I R) hQ
  have L : ∀ (m : Nat) (x s t : Int), 0 ≤ x → x ≤ n → 0 ≤ s → s ≤ 5 * x → 0 ≤ t → t ≤ x → n - x < m → s + sF u x n = sF u 0 n →
      t + cF (fun i => u i = 0) x n = cF (fun i => u i = 0) 0 n → wX7_breaksSum_8 Q r0 a1 a2 m s t x I R := by
    intro m
    induction m with
    | zero => intro x s t h0 h1 h2 h3 h4 h5; omega
    | succ m ih =>
      intro x s t h0 h1 h2 h3 h4 h5 h6 h7 h8
      show wbX7_breaksSum_8 Q r0 a1 a2 (wX7_breaksSum_8 Q r0 a1 a2 m) s t x I R
      have hm := mul5 ha.1 ha.2 h4 (by omega)
      unfold wbX7_breaksSum_8
      rw [hn, hN]
      refine ⟨fun c => ?_, fun c => ⟨by omega, hc x h0 (by omega), fun z hz => ?_⟩⟩
      · rw [sF_e c] at h7
        rw [cF_e c] at h8
        rw [← h7, ← h8, Int.add_zero, Int.add_zero] at q1 q0
        exact ⟨by unfold inR; omega, fun e => q1 (Or.inl (by omega)), fun e => ⟨by unfold inR; omega, fun f => q0 (by omega), fun f => q1 (by omega)⟩⟩
      · rw [hv x h0 (by omega)] at hz
        subst hz
        have u1 := hu x h0 (by omega)
        rw [sF_s (by omega)] at h7
        refine ⟨by unfold inR; omega, fun y hy => ⟨fun f => ?_, fun f => ?_⟩⟩
        · rw [cF_f (p := fun i => u i = 0) f] at h8
          exact ⟨by unfold inR; omega, fun y2 hy2 => by subst hy2; exact ih _ _ _ (by omega) (by omega) (by omega) (by omega) h4 (by omega) (by omega) (by omega) h8⟩
        · rw [cF_t (p := fun i => u i = 0) (by omega) f] at h8
          exact ⟨by unfold inR; omega, fun y2 hy2 => ⟨by unfold inR; omega, fun y3 hy3 => by subst hy2; subst hy3; exact ih _ _ _ (by omega) (by omega) (by omega) (by omega) (by omega) (by omega) (by omega) (by omega) (by omega)⟩⟩
  exact ⟨7, L 7 0 0 0 (by omega) h0 (by omega) (by omega) (by omega) (by omega) (by omega) (by omega) (by omega)⟩
theorem sp_hasPair (h0 : 0 ≤ n) (h5 : n ≤ 5) (hn : I r0 3 = n) (hc : ∀ i, 0 ≤ i → i < n → 0 ≤ I (r0 + 130) i ∧ I (r0 + 130) i < 25) (hv : ∀ i, 0 ≤ i → i < n → I a1 (I (r0 + 130) i) = u i)
    (hQ : Q (b2 (prF (fun i j => u i ≠ 0 ∧ u j ≠ 0 ∧ b2 (u i = u j) = a2) n)) I R) : wX7_hasPair r0 a1 a2 I R Q := by
  rw [b2_c prF_1] at hQ
  obtain ⟨q1, q0⟩ := b2_q (Q := fun z => Q z I R) hQ
  have Li : ∀ (K : Int → cI → cR → Prop) (j : Int), 0 ≤ j → j < n → ∀ (m : Nat) (x : Int), 0 ≤ x → x ≤ j → j - x < m →
      (exF (fun i => u i ≠ 0 ∧ u j ≠ 0 ∧ b2 (u i = u j) = a2) x j → Q 1 I R) →
      (¬ exF (fun i => u i ≠ 0 ∧ u j ≠ 0 ∧ b2 (u i = u j) = a2) x j → K (j + 1) I R) →
      wX7_hasPair_23 Q r0 a1 a2 K m j (u j) x I R := by
    intro K j hj hj2 m
    induction m with
    | zero => intro x h0 h1 h2; omega
    | succ m ih =>
      intro x h0 h1 h2 k1 k0
      show wbX7_hasPair_23 Q r0 a1 a2 K (wX7_hasPair_23 Q r0 a1 a2 K m) j (u j) x I R
      unfold wbX7_hasPair_23 wX7_hasPair_62
      have k0' : ¬ exF (fun i => u i ≠ 0 ∧ u j ≠ 0 ∧ b2 (u i = u j) = a2) x j → inR (j + 1) ∧ ∀ z, z = j + 1 → K z I R := fun h => ⟨by unfold inR; omega, fun z hz => by subst hz; exact k0 h⟩
      refine ⟨fun c => k0' (exF_x c), fun c => ⟨fun e => k0' (fun ⟨i, _, _, h3⟩ => h3.2.1 e), fun e => ⟨by omega, hc x h0 (by omega), fun z hz => ?_⟩⟩⟩
      rw [hv x h0 (by omega)] at hz
      subst hz
      have nx : ¬ (u x ≠ 0 ∧ u j ≠ 0 ∧ b2 (u x = u j) = a2) → inR (x + 1) ∧ ∀ z, z = x + 1 → wX7_hasPair_23 Q r0 a1 a2 K m j (u j) z I R := fun e => ⟨by unfold inR; omega, fun y hy => by subst hy; exact ih (x + 1) (by omega) (by omega) (by omega) (fun w => k1 ((exF_s e).mpr w)) (fun w => k0 (fun y => w ((exF_s e).mp y)))⟩
      refine ⟨fun f => nx (fun w => w.1 f), fun f => ⟨fun g => ⟨fun d => nx (fun w => d (by rw [b2_f g] at w; exact w.2.2)), fun d => k1 (exF_i (by omega) ⟨f, e, by rw [b2_f g]; exact d⟩)⟩, fun g => ⟨fun d => nx (fun w => d (by rw [b2_t g] at w; exact w.2.2)), fun d => k1 (exF_i (by omega) ⟨f, e, by rw [b2_t g]; exact d⟩)⟩⟩⟩
  have L : ∀ (m : Nat) (x : Int), 0 ≤ x → n + 1 - x < m → x ≤ n + 1 → (exF (fun j => exF (fun i => u i ≠ 0 ∧ u j ≠ 0 ∧ b2 (u i = u j) = a2) 0 j) x n → Q 1 I R) → (¬ exF (fun j => exF (fun i => u i ≠ 0 ∧ u j ≠ 0 ∧ b2 (u i = u j) = a2) 0 j) x n → Q 0 I R) → wX7_hasPair_2 Q r0 a1 a2 m x I R := by
    intro m
    induction m with
    | zero => intro x h0 h1 h2; omega
    | succ m ih =>
      intro x h0 h1 h2 k1 k0
      show wbX7_hasPair_2 Q r0 a1 a2 (wX7_hasPair_2 Q r0 a1 a2 m) x I R
      unfold wbX7_hasPair_2
      rw [hn]
      refine ⟨fun c => k0 (exF_x c), fun c => ⟨by omega, hc x h0 (by omega), fun z hz => ⟨7, ?_⟩⟩⟩
      rw [hv x h0 (by omega)] at hz
      subst hz
      exact Li _ x h0 (by omega) 7 0 (by omega) h0 (by omega) (fun he => k1 (exF_i (by omega) he)) (fun he => ih (x + 1) (by omega) (by omega) (by omega) (fun w => k1 ((exF_s (p := fun j => exF (fun i => u i ≠ 0 ∧ u j ≠ 0 ∧ b2 (u i = u j) = a2) 0 j) he).mpr w)) (fun w => k0 (fun y => w ((exF_s (p := fun j => exF (fun i => u i ≠ 0 ∧ u j ≠ 0 ∧ b2 (u i = u j) = a2) 0 j) he).mp y))))
  exact ⟨8, L 8 1 (by omega) (by omega) (by omega) q1 q0⟩
theorem sp_order (h0 : 0 ≤ n) (h5 : n ≤ 5) (hn : I r0 3 = n) (hc : ∀ i, 0 ≤ i → i < n → 0 ≤ I (r0 + 130) i ∧ I (r0 + 130) i < 25) (hv : ∀ i, 0 ≤ i → i < n → I a1 (I (r0 + 130) i) = u i) (hu : ∀ i, 0 ≤ i → i < n → 0 ≤ u i ∧ u i ≤ 5)
    (hQ : Q (b2 (prF (fun i j => u i ≠ 0 ∧ u j ≠ 0 ∧ u j - u i < j - i) n)) I R) : wX7_breaksOrder r0 a1 I R Q := by
  rw [b2_c prF_1] at hQ
  obtain ⟨q1, q0⟩ := b2_q (Q := fun z => Q z I R) hQ
  have Li : ∀ (K : Int → cI → cR → Prop) (j : Int), 0 ≤ j → j < n → ∀ (m : Nat) (x : Int), 0 ≤ x → x ≤ j → j - x < m →
      (exF (fun i => u i ≠ 0 ∧ u j ≠ 0 ∧ u j - u i < j - i) x j → Q 1 I R) →
      (¬ exF (fun i => u i ≠ 0 ∧ u j ≠ 0 ∧ u j - u i < j - i) x j → K (j + 1) I R) →
      wX7_breaksOrder_22 Q r0 a1 K m j (u j) x I R := by
    intro K j hj hj2 m
    induction m with
    | zero => intro x h0 h1 h2; omega
    | succ m ih =>
      intro x h0 h1 h2 k1 k0
      show wbX7_breaksOrder_22 Q r0 a1 K (wX7_breaksOrder_22 Q r0 a1 K m) j (u j) x I R
      unfold wbX7_breaksOrder_22
      have k0' : ¬ exF (fun i => u i ≠ 0 ∧ u j ≠ 0 ∧ u j - u i < j - i) x j → inR (j + 1) ∧ ∀ z, z = j + 1 → K z I R := fun h => ⟨by unfold inR; omega, fun z hz => by subst hz; exact k0 h⟩
      refine ⟨fun c => k0' (exF_x c), fun c => ⟨fun e => k0' (fun ⟨i, _, _, h3⟩ => h3.2.1 e), fun e => ⟨by omega, hc x h0 (by omega), fun z hz => ?_⟩⟩⟩
      rw [hv x h0 (by omega)] at hz
      subst hz
      have u1 := hu x h0 (by omega)
      have u2 := hu j hj hj2
      have nx : ¬ (u x ≠ 0 ∧ u j ≠ 0 ∧ u j - u x < j - x) → inR (x + 1) ∧ ∀ z, z = x + 1 → wX7_breaksOrder_22 Q r0 a1 K m j (u j) z I R := fun e => ⟨by unfold inR; omega, fun y hy => by subst hy; exact ih (x + 1) (by omega) (by omega) (by omega) (fun w => k1 ((exF_s e).mpr w)) (fun w => k0 (fun y => w ((exF_s e).mp y)))⟩
      exact ⟨fun f => nx (fun w => w.1 f), fun f => ⟨by unfold inR; omega, by unfold inR; omega, fun g => nx (fun w => by omega), fun g => k1 (exF_i (by omega) ⟨f, e, by omega⟩)⟩⟩
  have L : ∀ (m : Nat) (x : Int), 0 ≤ x → n + 1 - x < m → x ≤ n + 1 → (exF (fun j => exF (fun i => u i ≠ 0 ∧ u j ≠ 0 ∧ u j - u i < j - i) 0 j) x n → Q 1 I R) → (¬ exF (fun j => exF (fun i => u i ≠ 0 ∧ u j ≠ 0 ∧ u j - u i < j - i) 0 j) x n → Q 0 I R) → wX7_breaksOrder_2 Q r0 a1 m x I R := by
    intro m
    induction m with
    | zero => intro x h0 h1 h2; omega
    | succ m ih =>
      intro x h0 h1 h2 k1 k0
      show wbX7_breaksOrder_2 Q r0 a1 (wX7_breaksOrder_2 Q r0 a1 m) x I R
      unfold wbX7_breaksOrder_2
      rw [hn]
      refine ⟨fun c => k0 (exF_x c), fun c => ⟨by omega, hc x h0 (by omega), fun z hz => ⟨7, ?_⟩⟩⟩
      rw [hv x h0 (by omega)] at hz
      subst hz
      exact Li _ x h0 (by omega) 7 0 (by omega) h0 (by omega) (fun he => k1 (exF_i (by omega) he)) (fun he => ih (x + 1) (by omega) (by omega) (by omega) (fun w => k1 ((exF_s (p := fun j => exF (fun i => u i ≠ 0 ∧ u j ≠ 0 ∧ u j - u i < j - i) 0 j) he).mpr w)) (fun w => k0 (fun y => w ((exF_s (p := fun j => exF (fun i => u i ≠ 0 ∧ u j ≠ 0 ∧ u j - u i < j - i) 0 j) he).mp y))))
  exact ⟨8, L 8 1 (by omega) (by omega) (by omega) q1 q0⟩
theorem sp_prod {N : Int} (h0 : 0 ≤ n) (h5 : n ≤ 5) (hn : I r0 3 = n) (hI : I r0 1 = N) (hc : ∀ i, 0 ≤ i → i < n → 0 ≤ I (r0 + 130) i ∧ I (r0 + 130) i < 25) (hv : ∀ i, 0 ≤ i → i < n → I a1 (I (r0 + 130) i) = u i) (hu : ∀ i, 0 ≤ i → i < n → 0 ≤ u i ∧ u i ≤ 5) (hN : 0 ≤ N ∧ N ≤ 9999)
    (hQ : Q (b2 (N % pF (fun i => imax 1 (u i)) 0 n ≠ 0 ∨ (¬ exF (fun i => u i = 0) 0 n ∧ pF (fun i => imax 1 (u i)) 0 n ≠ N))) I R) : wX7_breaksProduct r0 a1 I R Q := by
  obtain ⟨q1, q0⟩ := b2_q (Q := fun z => Q z I R) hQ
  have f1 : ∀ i, 1 ≤ imax 1 (u i) := fun i => by unfold imax; split <;> omega
  have P0 := pF_p (n := n) f1 0
  have P1 : pF (fun i => imax 1 (u i)) 0 n ≤ 5 ^ 5 := pF_u f1 0 (fun i h1 h2 => by have := hu i h1 h2; unfold imax; split <;> omega) 5 (by omega)
  have P2 : pF (fun i => imax 1 (u i)) 0 n ≤ 3125 := P1
  have L : ∀ (m : Nat) (x p e : Int), 0 ≤ x → x ≤ n → n - x < m → 1 ≤ p → p * pF (fun i => imax 1 (u i)) x n = pF (fun i => imax 1 (u i)) 0 n → (e = 0 ∨ e = 1) →
      ((e = 1 ∨ exF (fun i => u i = 0) x n) ↔ exF (fun i => u i = 0) 0 n) → wX7_breaksProduct_7 Q r0 a1 m p e x I R := by
    intro m
    induction m with
    | zero => intro x p e h0 h1 h2; omega
    | succ m ih =>
      intro x p e h0 h1 h2 h3 h4 h5 h6
      show wbX7_breaksProduct_7 Q r0 a1 (wX7_breaksProduct_7 Q r0 a1 m) p e x I R
      unfold wbX7_breaksProduct_7
      rw [hn, hI]
      have p1 := pF_p (n := n) f1 x
      have p2 := pF_p (n := n) f1 (x + 1)
      have p3 := le_mulr (by omega) p1 h4
      refine ⟨fun c => ?_, fun c => ?_⟩
      · rw [pF_e c, Int.mul_one] at h4
        rw [← h4] at q1 q0
        have t1 := Int.emod_nonneg N (b := p) (by omega)
        have t2 := Int.emod_lt_of_pos N (b := p) (by omega)
        have t3 := exF_x (p := fun i => u i = 0) c
        clear ih hv hu hc hQ
        unfold inR
        grind
      · rw [pF_s (by omega)] at h4
        refine ⟨by omega, hc x h0 (by omega), fun z hz => ?_⟩
        rw [hv x h0 (by omega)] at hz
        subst hz
        have c2 := hu x h0 (by omega)
        refine ⟨fun h => ?_, fun h => ?_⟩
        · have e1 : imax 1 (u x) = 1 := by unfold imax; split <;> omega
          rw [e1, Int.one_mul] at h4
          have t := exF_i (p := fun i => u i = 0) (x := x) (n := n) (by omega) (by show u x = 0; omega)
          exact ⟨by unfold inR; omega, fun z2 hz2 => by subst hz2; exact ih (x + 1) p 1 (by omega) (by omega) (by omega) h3 h4 (Or.inr rfl) ⟨fun _ => h6.mp (Or.inr t), fun _ => Or.inl rfl⟩⟩
        · have e1 : imax 1 (u x) = u x := by unfold imax; split <;> omega
          rw [e1, ← Int.mul_assoc] at h4
          have hz1 : 1 ≤ p * u x := by
            have := Int.mul_le_mul h3 (show 1 ≤ u x by omega) (by decide) (by omega)
            omega
          have p4 := le_mulr (by omega) p2 h4
          have t := exF_s (p := fun i => u i = 0) (x := x) (n := n) (by show ¬ u x = 0; omega)
          exact ⟨by unfold inR; omega, fun z2 hz2 => ⟨by unfold inR; omega, fun z3 hz3 => by subst hz2; subst hz3; exact ih (x + 1) (p * u x) e (by omega) (by omega) (by omega) hz1 h4 h5 (by rw [← t]; exact h6)⟩⟩
  exact ⟨7, L 7 0 1 0 (by omega) h0 (by omega) (by omega) (Int.one_mul _) (Or.inl rfl) ⟨fun z => z.elim (fun y => absurd y (by decide)) id, Or.inr⟩⟩
theorem and1 : ∀ z : Int, 0 ≤ z → z ≤ 5 → iAnd z 1 = z % 2 := by
  intro z h1 h2
  have : z = 0 ∨ z = 1 ∨ z = 2 ∨ z = 3 ∨ z = 4 ∨ z = 5 := by omega
  rcases this with rfl | rfl | rfl | rfl | rfl | rfl <;> decide
theorem sp_brk {N T : Int} (h0 : 0 ≤ n) (h5 : n ≤ 5) (hn : I r0 3 = n) (hI : I r0 1 = N) (hT : I r0 2 = T) (hc : ∀ i, 0 ≤ i → i < n → 0 ≤ I (r0 + 130) i ∧ I (r0 + 130) i < 25) (hv : ∀ i, 0 ≤ i → i < n → I a1 (I (r0 + 130) i) = u i) (hu : ∀ i, 0 ≤ i → i < n → 0 ≤ u i ∧ u i ≤ 5) (hN : 0 ≤ N ∧ N ≤ 9999) (ha : 0 ≤ a2 ∧ a2 ≤ 5)
    (hk : R r0 0 < 12) (hk8 : R r0 0 = 8 → 1 ≤ N)
    (hQ : Q (b2 (brk (kN (R r0 0)) N T n a2 u)) I R) : wX7_isBroken r0 a1 a2 I R Q := by
  have q2 : ∀ {P : Prop}, (brk (kN (R r0 0)) N T n a2 u ↔ P) → (b2 P = 0 ∨ b2 P = 1) ∧ Q (b2 P) I R := fun {P} h => ⟨b2_or P, by rw [← b2_c h]; exact hQ⟩
  have e6 : exF (fun i => u i ≠ 0 ∧ u i % 2 = 0) 0 n ↔ exF (fun i => u i ≠ 0 ∧ iAnd (u i) 1 = 0) 0 n := exF_cg (fun i h1 h2 => by rw [and1 _ (hu i h1 h2).1 (hu i h1 h2).2])
  have e7 : exF (fun i => u i ≠ 0 ∧ u i % 2 = 1) 0 n ↔ exF (fun i => u i ≠ 0 ∧ iAnd (u i) 1 = 1) 0 n := exF_cg (fun i h1 h2 => by rw [and1 _ (hu i h1 h2).1 (hu i h1 h2).2])
  have e0 : prF (fun i j => u i ≠ 0 ∧ u j ≠ 0 ∧ u i = u j) n ↔ prF (fun i j => u i ≠ 0 ∧ u j ≠ 0 ∧ b2 (u i = u j) = 1) n := prF_cg (fun i j _ _ _ => by rw [b2_y])
  have e11 : prF (fun i j => u i ≠ 0 ∧ u j ≠ 0 ∧ u i ≠ u j) n ↔ prF (fun i j => u i ≠ 0 ∧ u j ≠ 0 ∧ b2 (u i = u j) = 0) n := prF_cg (fun i j _ _ _ => by rw [b2_n])
  unfold brk at q2
  unfold wX7_isBroken
  have hkk : R r0 0 = 0 ∨ R r0 0 = 1 ∨ R r0 0 = 2 ∨ R r0 0 = 3 ∨ R r0 0 = 4 ∨ R r0 0 = 5 ∨ R r0 0 = 6 ∨ R r0 0 = 7 ∨ R r0 0 = 8 ∨ R r0 0 = 9 ∨ R r0 0 = 10 ∨ R r0 0 = 11 := by omega
  have s0 : swT 0 = 1 := by decide
  have s1 : swT 1 = 2 := by decide
  have s2 : swT 2 = 3 := by decide
  have s3 : swT 3 = 4 := by decide
  have s4 : swT 4 = 5 := by decide
  have s5 : swT 5 = 6 := by decide
  have s6 : swT 6 = 7 := by decide
  have s7 : swT 7 = 8 := by decide
  have s8 : swT 8 = 9 := by decide
  have s9 : swT 9 = 10 := by decide
  have s10 : swT 10 = 11 := by decide
  have s11 : swT 11 = 0 := by decide
  rcases hkk with e | e | e | e | e | e | e | e | e | e | e | e <;> rw [e] at q2 ⊢ <;> simp only [kN] at q2 ⊢ <;> simp [s0, s1, s2, s3, s4, s5, s6, s7, s8, s9, s10, s11] at q2 ⊢
  · exact sp_hasPair h0 h5 hn hc hv (q2 (by simpa using e0))
  · exact sp_sum h0 h5 hn hI hc hv hu ha (q2 (by simp))
  · exact sp_prod h0 h5 hn hI hc hv hu hN (q2 (by simp))
  · exact sp_order h0 h5 hn hc hv hu (q2 (by simp))
  · exact sp_order h0 h5 hn hc hv hu (q2 (by simp))
  · exact sp_sight h0 h5 hn hI hc hv (q2 (by simp))
  · exact sp_hasRem h0 h5 hn hc hv (q2 (by simpa using e6))
  · exact sp_hasRem h0 h5 hn hc hv (q2 (by simpa using e7))
  · exact sp_count h0 h5 hn hI hT hc hv (hk8 e) (q2 (by simp))
  · exact sp_isR h0 h5 hn hI hc hv (q2 (by simp))
  · exact sp_apart h0 h5 hn hI hc hv hu (q2 (by simp))
  · exact sp_hasPair h0 h5 hn hc hv (q2 (by simpa using e11))
end RC
