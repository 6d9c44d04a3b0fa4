/-! ===== the meaning of a text: the reference ===== -/
/-- places that the reading of the meaning writes -/
def jF (J0 J : cI) : Prop := ∀ b x, ¬ (1037 ≤ b ∧ b ≤ 1041) → ¬ (b = 1000 ∧ (x = 3 ∨ x = 7 ∨ x = 8 ∨ (33 ≤ x ∧ x ≤ 36))) → J b x = J0 b x
theorem jF_t {J K L : cI} (h : jF J K) (g : jF K L) : jF J L := fun b x q1 q2 => (g b x q1 q2).trans (h b x q1 q2)
theorem jF_s {J J' : cI} (h : jF J J') : smT J J' := ⟨fun b x q => h b x (by omega) (by omega), h 1000 2 (by omega) (by omega)⟩
theorem jF_r {J : cI} : jF J J := fun _ _ _ _ => rfl
/-- the rule that is laid, and no other place -/
def uX (n : Int) (J J' : cI) : Prop := ∀ b x, ¬ (1037 ≤ b ∧ b ≤ 1040 ∧ x = n) → ¬ (b = 1041 ∧ 5 * n ≤ x ∧ x < 5 * n + 5) → J' b x = J b x
theorem uX_t {n : Int} {J K L : cI} (h : uX n J K) (g : uX n K L) : uX n J L := fun b x q1 q2 => (g b x q1 q2).trans (h b x q1 q2)
theorem uX_r {n : Int} {J : cI} : uX n J J := fun _ _ _ _ => rfl
theorem uX_f {n : Int} {J J' : cI} (h : uX n J J') : jF J J' := fun b x q1 q2 => h b x (by omega) (by omega)
theorem uX_e {n i : Int} {J J' : cI} (h : uX n J J') (ne : i ≠ n) : e9 (mr J' 1037 i) (mr J 1037 i) := e9_fr (b := 1037) (fun b y q1 q2 q3 => h b y (by omega) (by omega)) (fun y q1 q2 => h _ _ (by omega) (by omega))
section MM4
variable {k : kT} {J0 J : cI} {w h kk n : Int} {ρ : Int → Int → Int}
theorem m_wrong {e i : Int} {Q : Int → cI → Prop} (o : okK k) (hA : jA J k) (i0 : 0 ≤ i) (i1 : i ≤ kZ k) (hQ : ∀ J', (∀ b x, ¬ (b = 1000 ∧ (x = 3 ∨ x = 8)) → J' b x = J b x) → J' 1000 8 = e → J' 1000 3 = kS k i → Q 0 J') : wX12_wrong e i J Q := by
  have N1 := o.2.1
  unfold wX12_wrong
  intro J1 e1
  have s1 : smT J J1 := ⟨fun b x q => by subst e1; exact u2n (by omega), by subst e1; exact u2n (by omega)⟩
  rw [(hA J1 s1 i i0 i1).2.1]
  exact ⟨by omega, fun J5 e5 => hQ J5 (fun b x q => by subst e5; rw [u2n (by omega)]; subst e1; exact u2n (by omega)) (by subst e5; rw [u2x (by decide)]; subst e1; exact u2e) (by subst e5; exact u2e)⟩
theorem m_lay {a b c : Int} {Q : cI → Prop} (e36 : J 1000 36 = n) (n0 : 0 ≤ n) (n1 : n < 70) (hQ : ∀ J', uX n J J' → e9 (mr J' 1037 n) (fun t => if t = 0 then a else if t = 1 then b else if t = 2 then c else 0) → Q J') : wX12_lay a b c J Q := by
  unfold wX12_lay
  rw [e36]
  refine ⟨⟨n0, n1⟩, fun J2 e2 => ?_⟩
  have k2 : J2 1000 36 = n := by subst e2; rw [u2a (by decide)]; exact e36
  rw [k2]
  refine ⟨⟨n0, n1⟩, fun J6 e6 => ?_⟩
  have k6 : J6 1000 36 = n := by subst e6; rw [u2a (by decide)]; exact k2
  rw [k6]
  refine ⟨⟨n0, n1⟩, fun J10 e10 => ?_⟩
  have k10 : J10 1000 36 = n := by subst e10; rw [u2a (by decide)]; exact k6
  rw [k10]
  refine ⟨⟨n0, n1⟩, fun J14 e14 => hQ J14 (fun b x q1 q2 => ?_) (fun t t0 t1 t2 => ?_)⟩
  · rw [e14, u2n (by omega), e10, u2n (by omega), e6, u2n (by omega), e2, u2n (by omega)]
  · have x0 : J14 1037 n = a := by rw [e14, u2a (by decide), e10, u2a (by decide), e6, u2a (by decide), e2]; exact u2e
    have x1 : J14 1038 n = b := by rw [e14, u2a (by decide), e10, u2a (by decide), e6]; exact u2e
    have x2 : J14 1039 n = c := by rw [e14, u2a (by decide), e10]; exact u2e
    have x3 : J14 1040 n = 0 := by rw [e14]; exact u2e
    rw [mr3, x3] at t2
    have : t = 0 ∨ t = 1 ∨ t = 2 ∨ t = 3 := by omega
    rcases this with rfl | rfl | rfl | rfl
    · rw [mr0, x0]; rfl
    · rw [mr1, x1]; rfl
    · rw [mr2, x2]; rfl
    · rw [mr3, x3]; rfl
theorem e_0 {σ : Int → Int} (e : e9 (mr J 1037 n) σ) : J 1037 n = σ 0 := by have := e 0 (by decide) (by decide) (Or.inl (by decide)); rw [mr0] at this; exact this
theorem e_1 {σ : Int → Int} (e : e9 (mr J 1037 n) σ) : J 1038 n = σ 1 := by have := e 1 (by decide) (by decide) (Or.inl (by decide)); rw [mr1] at this; exact this
theorem e_2 {σ : Int → Int} (e : e9 (mr J 1037 n) σ) : J 1039 n = σ 2 := by have := e 2 (by decide) (by decide) (Or.inl (by decide)); rw [mr2] at this; exact this
theorem e_3 {σ : Int → Int} (e : e9 (mr J 1037 n) σ) : J 1040 n = σ 3 := by have := e9_3 e; rw [mr3] at this; exact this
theorem e_4 {σ : Int → Int} {j : Int} (e : e9 (mr J 1037 n) σ) (j0 : 0 ≤ j) (j5 : j < 5) (j1 : j < σ 3) : J 1041 (5 * n + j) = σ (4 + j) := by
  have := e (4 + j) (by omega) (by omega) (by rw [e9_3 e]; omega)
  rw [mr4 j0] at this; exact this
theorem e_mk {σ : Int → Int} (x0 : J 1037 n = σ 0) (x1 : J 1038 n = σ 1) (x2 : J 1039 n = σ 2) (x3 : J 1040 n = σ 3) (x4 : ∀ j, 0 ≤ j → j < 5 → j < σ 3 → J 1041 (5 * n + j) = σ (4 + j)) : e9 (mr J 1037 n) σ := fun t t0 t1 t2 => by
  rw [mr3, x3] at t2
  have : t = 0 ∨ t = 1 ∨ t = 2 ∨ t = 3 ∨ 4 ≤ t := by omega
  rcases this with rfl | rfl | rfl | rfl | t4
  · rw [mr0]; exact x0
  · rw [mr1]; exact x1
  · rw [mr2]; exact x2
  · rw [mr3]; exact x3
  · rw [show t = 4 + (t - 4) by omega, mr4 (by omega)]; exact x4 (t - 4) (by omega) (by omega) (by omega)
theorem m_layCell {c : Int} {σ : Int → Int} {Q : cI → Prop} (e36 : J 1000 36 = n) (n0 : 0 ≤ n) (n1 : n < 70) (e : e9 (mr J 1037 n) σ) (s0 : 0 ≤ σ 3) (s1 : σ 3 < 5) (hQ : ∀ J', uX n J J' → e9 (mr J' 1037 n) (adc σ c) → Q J') : wX12_layCell c J Q := by
  unfold wX12_layCell
  rw [e36, e_3 e]
  refine ⟨⟨n0, n1⟩, by omega, fun J3 e3 => ?_⟩
  have k3 : J3 1000 36 = n := by rw [e3, u2a (by decide)]; exact e36
  have s3 : J3 1040 n = σ 3 := by rw [e3, u2a (by decide)]; exact e_3 e
  rw [k3, s3]
  refine ⟨⟨n0, n1⟩, by unfold inR; omega, ⟨n0, n1⟩, fun J9 e9' => hQ J9 (fun b x q1 q2 => ?_) (e_mk ?_ ?_ ?_ ?_ (fun j j0 j5 j1 => ?_))⟩
  · rw [e9', u2n (by omega), e3, u2n (by omega)]
  · rw [adc_n (by decide) (by omega), e9', u2a (by decide), e3, u2a (by decide)]; exact e_0 e
  · rw [adc_n (by decide) (by omega), e9', u2a (by decide), e3, u2a (by decide)]; exact e_1 e
  · rw [adc_n (by decide) (by omega), e9', u2a (by decide), e3, u2a (by decide)]; exact e_2 e
  · rw [adc_3, e9']; exact u2e
  · rw [adc_3] at j1
    rw [e9', u2a (by decide), e3]
    by_cases ej : j = σ 3
    · subst ej; rw [u2e]; exact (adc_c s0).symm
    · rw [u2x (by omega), adc_n (by omega) (by omega)]; exact e_4 e j0 j5 (by omega)
/-- rows, columns -/
theorem pt_adc {σ : Int → Int} {x : Int} {J : cI} (x0 : 0 ≤ x) (e : e9 (mr J 1037 n) (adc (pt σ x) (σ (4 + x)))) : e9 (mr J 1037 n) (pt σ (x + 1)) := by
  refine e9_t e (fun t t0 t1 t2 => ?_)
  rw [adc_3, pt_3] at t2
  by_cases c3 : t = 3
  · subst c3; rw [adc_3, pt_3, pt_3]
  · by_cases c4 : t = 4 + x
    · have : adc (pt σ x) (σ (4 + x)) (4 + pt σ x 3) = σ (4 + x) := adc_c (by rw [pt_3]; exact x0)
      rw [pt_3] at this
      rw [c4, this, pt_n (by omega)]
    · rw [adc_n c3 (by rw [pt_3]; exact c4), pt_n c3, pt_n c3]
theorem m_lines {κ y : Int} {σ : Int → Int → Int} {len : Int} {Q : Int → cI → Prop} (hκ : (κ = 12 ∧ len = w ∧ σ = rowR w) ∨ (κ = 13 ∧ len = h ∧ σ = colR w h)) (w2 : 2 ≤ w) (w5 : w ≤ 5) (h2 : 2 ≤ h) (h5 : h ≤ 5) (e33 : J 1000 33 = w) (e34 : J 1000 34 = h) (e36 : J 1000 36 = n) (y0 : 0 ≤ y) (y1 : y ≤ 5) (hy : (κ = 12 → y = h) ∧ (κ = 13 → y = w)) (n0 : 0 ≤ n) (n1 : n + y ≤ 40) (er : ∀ i, 0 ≤ i → i < n → e9 (mr J 1037 i) (ρ i))
    (hQ : ∀ J', (∀ b x, ¬ (1037 ≤ b ∧ b ≤ 1041) → ¬ (b = 1000 ∧ x = 36) → J' b x = J b x) → J' 1000 36 = n + y → (∀ i, 0 ≤ i → i < n + y → e9 (mr J' 1037 i) (addF ρ n σ i)) → Q 1 J') : ∃ m, wX12_ruleMeaning_67 Q κ m y 0 J := by
  have l5 : 2 ≤ len ∧ len ≤ 5 := by omega
  have L2 : ∀ (K : Int → Int → cI → Prop) (i : Int) (J1 : cI), 0 ≤ i → i < y → J1 1000 33 = w → J1 1000 34 = h → J1 1000 36 = n + i → (∀ J2, uX (n + i) J1 J2 → e9 (mr J2 1037 (n + i)) (σ i) → inR (n + i + 1) → ∀ J3, J3 = up2 J2 1000 36 (n + i + 1) → inR (i + 1) ∧ ∀ z, z = i + 1 → K y z J3) →
      ∀ (m : Nat) (x : Int) (J' : cI), 0 ≤ x → x ≤ len → len - x < m → uX (n + i) J1 J' → e9 (mr J' 1037 (n + i)) (pt (σ i) x) → wX12_ruleMeaning_82 Q κ K m y i x J' := by
    intro K i J1 i0 i1 a33 a34 a36 hK m
    induction m with
    | zero => intro x J' x0 x1 x2; omega
    | succ m ih =>
      intro x J' x0 x1 x2 u e
      have b33 : J' 1000 33 = w := by rw [u _ _ (by omega) (by omega)]; exact a33
      have b34 : J' 1000 34 = h := by rw [u _ _ (by omega) (by omega)]; exact a34
      have b36 : J' 1000 36 = n + i := by rw [u _ _ (by omega) (by omega)]; exact a36
      have main : wX12_ruleMeaning_101 Q κ K (wX12_ruleMeaning_82 Q κ K m) y i x x len J' := by
        refine ⟨fun c => ?_, fun c => ?_⟩
        · have ex : x = len := by omega
          have e3 : σ i 3 = len := by rcases hκ with ⟨-, q, r⟩ | ⟨-, q, r⟩ <;> rw [r, q] <;> rfl
          have ep : pt (σ i) x = σ i := by rw [ex, ← e3]; exact pt_e
          rw [ep] at e
          rw [b36]
          refine ⟨by unfold inR; omega, fun J2 e2 => ?_⟩
          exact hK J' u e (by unfold inR; omega) J2 e2
        · have cell : ∀ v, v = σ i (4 + x) → wX12_ruleMeaning_132 Q κ K (wX12_ruleMeaning_82 Q κ K m) y i x v J' := fun v hv => by
            subst hv
            refine m_layCell b36 (by omega) (by omega) e (by rw [pt_3]; exact x0) (by rw [pt_3]; omega) (fun J2 u2 e2 => ⟨by unfold inR; omega, fun z hz => ?_⟩)
            subst hz
            exact ih (x + 1) J2 (by omega) (by omega) (by omega) (uX_t u u2) (pt_adc x0 e2)
          rw [b33]
          refine ⟨fun c12 => ?_, fun c12 => ?_⟩
          · have hs : σ = colR w h ∧ len = h ∧ κ = 13 := by
              rcases hκ with ⟨q, _, _⟩ | ⟨a, b, c⟩
              · exact absurd q c12
              · exact ⟨c, b, a⟩
            have iw := hy.2 hs.2.2
            have cb := cell_b (C := i) (R := x) (w := w) (h := h) i0 (by omega) x0 (by omega) w5 h5
            refine ⟨by unfold inR; omega, cell _ ?_⟩
            rw [hs.1]; unfold colR; rw [if_neg (by omega), if_neg (by omega), show 4 + x - 4 = x by omega]
          · have hs : σ = rowR w ∧ len = w := by
              rcases hκ with ⟨_, a, b⟩ | ⟨q, _, _⟩
              · exact ⟨b, a⟩
              · omega
            have ih' := hy.1 c12
            have cb := cell_b (C := x) (R := i) (w := w) (h := h) x0 (by omega) i0 (by omega) w5 h5
            refine ⟨by unfold inR; omega, cell _ ?_⟩
            rw [hs.1]; unfold rowR; rw [if_neg (by omega), if_neg (by omega)]; omega
      show wbX12_ruleMeaning_82 Q κ K (wX12_ruleMeaning_82 Q κ K m) y i x J'
      unfold wbX12_ruleMeaning_82
      rw [b33, b34]
      refine ⟨fun c12 => ?_, fun c12 => ?_⟩
      · have : len = h := by rcases hκ with ⟨q, _, _⟩ | ⟨_, b, _⟩ <;> omega
        rw [← this]; exact main
      · have : len = w := by rcases hκ with ⟨_, b, _⟩ | ⟨q, _, _⟩ <;> omega
        rw [← this]; exact main
  have L1 : ∀ (m : Nat) (i : Int) (J' : cI), 0 ≤ i → i ≤ y → y - i < m → (∀ b x, ¬ (1037 ≤ b ∧ b ≤ 1041) → ¬ (b = 1000 ∧ x = 36) → J' b x = J b x) → J' 1000 36 = n + i → (∀ j, 0 ≤ j → j < n + i → e9 (mr J' 1037 j) (addF ρ n σ j)) → wX12_ruleMeaning_67 Q κ m y i J' := by
    intro m
    induction m with
    | zero => intro i J' i0 i1 i2; omega
    | succ m ih =>
      intro i J' i0 i1 i2 f a36 er'
      show wbX12_ruleMeaning_67 Q κ (wX12_ruleMeaning_67 Q κ m) y i J'
      unfold wbX12_ruleMeaning_67
      refine ⟨fun c => ?_, fun c => m_lay a36 (by omega) (by omega) (fun J2 u2 e2 => ⟨7, ?_⟩)⟩
      · have ei : i = y := by omega
        subst ei
        exact hQ J' f a36 er'
      · have a33 : J2 1000 33 = w := by rw [u2 _ _ (by omega) (by omega), f _ _ (by omega) (by omega)]; exact e33
        have a34 : J2 1000 34 = h := by rw [u2 _ _ (by omega) (by omega), f _ _ (by omega) (by omega)]; exact e34
        have b36 : J2 1000 36 = n + i := by rw [u2 _ _ (by omega) (by omega)]; exact a36
        have p0 : e9 (mr J2 1037 (n + i)) (pt (σ i) 0) := by
          refine e9_t e2 (fun t t0 t1 t2 => ?_)
          have t2' : t < 4 ∨ t < 4 + 0 := t2
          have z : ∀ s : Int, 0 ≤ s → s < 3 → σ i s = 0 := fun s s0 s1 => by
            rcases hκ with ⟨_, _, r⟩ | ⟨_, _, r⟩
            · rw [r]; unfold rowR; rw [if_neg (by omega), if_pos (by omega)]
            · rw [r]; unfold colR; rw [if_neg (by omega), if_pos (by omega)]
          have : t = 0 ∨ t = 1 ∨ t = 2 ∨ t = 3 := by omega
          rcases this with rfl | rfl | rfl | rfl
          · rw [pt_n (by decide), z 0 (by decide) (by decide)]; rfl
          · rw [pt_n (by decide), z 1 (by decide) (by decide)]; rfl
          · rw [pt_n (by decide), z 2 (by decide) (by decide)]; rfl
          · rw [pt_3]; rfl
        refine L2 _ i J2 i0 (by omega) a33 a34 b36 (fun J3 u3 e3 _ J4 e4 => ⟨by unfold inR; omega, fun z hz => ?_⟩) 7 0 J2 (Int.le_refl 0) (by omega) (by omega) uX_r p0
        subst hz
        have G : ∀ b x, ¬ (b = 1000 ∧ x = 36) → J4 b x = J3 b x := fun b x q => by rw [e4]; exact u2n q
        have em : mr J4 1037 = mr J3 1037 := mr_fr (fun b x q1 q2 => G b x (by omega))
        refine ih (i + 1) J4 (by omega) (by omega) (by omega) (fun b x q1 q2 => by rw [G b x q2, u3 b x (by omega) (by omega), u2 b x (by omega) (by omega)]; exact f b x q1 q2) (by rw [e4, u2e]; omega) (fun j j0 j1 => ?_)
        rw [em]
        by_cases ej : j = n + i
        · subst ej
          refine e9_t e3 ?_
          unfold addF; rw [if_neg (by omega), show n + i - n = i by omega]; exact e9_r
        · exact e9_t (uX_e u3 ej) (e9_t (uX_e u2 ej) (er' j j0 (by omega)))
  exact ⟨7, L1 7 0 J (Int.le_refl 0) y0 (by omega) (fun _ _ _ _ => rfl) (by omega) (fun j j0 j1 => by unfold addF; rw [if_pos (by omega)]; exact er j j0 (by omega))⟩
/-- the cells -/
theorem m_readCells {κ : Int} {Q : Int → cI → Prop} (o : okK k) (hA : jA J0 k) (w2 : 2 ≤ w) (w5 : w ≤ 5) (h2 : 2 ≤ h) (h5 : h ≤ 5) (n0 : 0 ≤ n) (n1 : n < 70) : ∀ (m : Nat) (i : Int) (σ : Int → Int) (J : cI), jF J0 J → J 1000 33 = w → J 1000 34 = h → J 1000 36 = n → J 1000 7 = i → 0 ≤ i → i ≤ kZ k → kZ k - i < m → e9 (mr J 1037 n) σ → pgr (w * h) σ →
    ((cl k w h m i σ).1 = 0 → ∀ J', (∀ b x, ¬ (1037 ≤ b ∧ b ≤ 1040 ∧ x = n) → ¬ (b = 1041 ∧ 5 * n ≤ x ∧ x < 5 * n + 5) → ¬ (b = 1000 ∧ x = 7) → J' b x = J b x) → J' 1000 7 = (cl k w h m i σ).2.1 → e9 (mr J' 1037 n) (cl k w h m i σ).2.2 → ((¬ κ = 9 → wX12_ruleMeaning_519 Q κ J') ∧ (κ = 9 → wX12_numberAt (J' 1000 7) J' (fun r2 J3 => wX12_isIn r2 1 ((J3 1000 35)) J3 (fun r6 J7 => (¬ r6 = 0 → wX12_numberAt ((J7 1000 7)) J7 (fun r10 J11 => (0 ≤ (J7 1000 36) ∧ (J7 1000 36) < 70) ∧ ∀ J15 : cI, J15 = up2 J11 1038 ((J7 1000 36)) r10 → inR (((J15 1000 7) + 1)) ∧ ∀ J19 : cI, J19 = up2 J15 1000 7 (((J15 1000 7) + 1)) → wX12_ruleMeaning_519 Q κ J19)) ∧ (r6 = 0 → wX12_wrong 2 ((J7 1000 7)) J7 (fun r22 J23 => (r22 = 0 ∨ r22 = 1) ∧ Q r22 J23))))))) →
    (¬ (cl k w h m i σ).1 = 0 → ∀ J', jF J0 J' → J' 1000 8 = (cl k w h m i σ).1 → J' 1000 3 = kS k (cl k w h m i σ).2.1 → Q 0 J') → wX12_ruleMeaning_261 Q κ m J := by
  intro m
  induction m with
  | zero => intro i σ J _ _ _ _ _ i0 i1 i2; omega
  | succ m ih =>
    intro i σ J f e33 e34 e36 e7 i0 i1 i2 er g q1 q0
    show wbX12_ruleMeaning_261 Q κ (wX12_ruleMeaning_261 Q κ m) J
    unfold wbX12_ruleMeaning_261
    have N1 := o.2.1
    have hJ := hA J (jF_s f) i i0 i1
    have hA' := jA_t hA (jF_s f)
    rw [e7, hJ.1]
    have fl' : ∀ e, ¬ (e : Int) = 0 → (¬ e = 0 → ∀ J', jF J0 J' → J' 1000 8 = e → J' 1000 3 = kS k i → Q 0 J') → wX12_wrong e i J (fun r1 J2 => (r1 = 0 ∨ r1 = 1) ∧ Q r1 J2) := fun e ne q => m_wrong o hA' i0 i1 (fun J' f' g8 g3 => ⟨Or.inl rfl, q ne J' (fun b x z1 z2 => by rw [f' b x (by omega)]; exact f b x z1 z2) g8 g3⟩)
    refine ⟨by omega, fun k1 => ?_, fun k1 => ?_⟩
    · rw [cl_1 k1] at q1
      have := q1 rfl J (fun _ _ _ _ _ => rfl) e7 er
      rw [e7] at this; exact this
    · have b := (o.2.2 i i0 i1).2.2.2.2 k1
      have il := K_lt o i0 i1 (by rw [k1]; decide)
      have c5 := hJ.2.2.2.2.1 k1
      rw [hJ.2.1, c5.2.2.1, c5.2.2.2, e33]
      refine ⟨by omega, by omega, by unfold inR; omega, fun z30 h30 => ⟨by omega, by omega, by unfold inR; omega, fun z35 h35 => ⟨by unfold inR; omega, m_isIn ?_⟩⟩⟩
      subst h30; subst h35
      have bad : ¬ (kC k i < w ∧ 0 ≤ kR k i ∧ kR k i < h) → wX12_ruleMeaning_342 Q κ J := fun nd => by
        rw [cl_2 k1 nd] at q0
        unfold wX12_ruleMeaning_342
        rw [e7]
        exact fl' 2 (by decide) q0
      refine ⟨fun x => ?_, fun x => ⟨by rw [e34]; unfold inR; omega, m_isIn ⟨fun y => ?_, fun y => ?_⟩⟩⟩
      · exact bad (fun d => b2_n.mp x (by omega))
      · have x' := b2_y.mp ((b2_or _).resolve_left x)
        have y' := b2_y.mp ((b2_or _).resolve_left y)
        rw [e34] at y'
        have d' : kC k i < w ∧ 0 ≤ kR k i ∧ kR k i < h := by omega
        have cb := cell_b b.1 d'.1 d'.2.1 d'.2.2 w5 h5
        rw [e33]
        refine ⟨by unfold inR; omega, fun z48 h48 => ⟨7, ?_⟩⟩
        subst h48
        have s5 := g.2.1
        have D : ∀ (m' : Nat) (j : Int), 0 ≤ j → j ≤ σ 3 → σ 3 - j < m' → (∀ j', 0 ≤ j' → j' < j → ¬ σ (4 + j') = kC k i + w * kR k i) → wX12_ruleMeaning_366 Q κ (wX12_ruleMeaning_261 Q κ m) m' (kC k i + w * kR k i) j J := by
          intro m'
          induction m' with
          | zero => intro j j0 j1 j2; omega
          | succ m' ih' =>
            intro j j0 j1 j2 hj
            show wbX12_ruleMeaning_366 Q κ (wX12_ruleMeaning_261 Q κ m) (wX12_ruleMeaning_366 Q κ (wX12_ruleMeaning_261 Q κ m) m') (kC k i + w * kR k i) j J
            unfold wbX12_ruleMeaning_366
            rw [e36, e_3 er, e7]
            refine ⟨by omega, fun c => ⟨by omega, fun c5' => ?_, fun c5' => ?_⟩, fun c => ⟨by omega, ?_⟩⟩
            · have nh : ¬ hc σ (kC k i + w * kR k i) := fun ⟨j', a, b', q⟩ => hj j' a (by omega) q
              rw [cl_5 k1 d' nh c5'] at q1 q0
              have g1 := g.1
              refine m_layCell e36 n0 n1 er g1 (by omega) (fun J4 u4 e4 => ?_)
              have p4 : J4 1000 7 = i := by rw [u4 _ _ (by omega) (by omega)]; exact e7
              rw [p4]
              refine ⟨by unfold inR; omega, fun J8 e8 => ?_⟩
              have G : ∀ b x, ¬ (b = 1000 ∧ x = 7) → J8 b x = J4 b x := fun b x q => by rw [e8]; exact u2n q
              have em : mr J8 1037 = mr J4 1037 := mr_fr (fun b x z1 z2 => G b x (by omega))
              refine ih (i + 1) _ J8 (fun b x z1 z2 => by rw [G b x (by omega), u4 b x (by omega) (by omega)]; exact f b x z1 z2) (by rw [G _ _ (by omega), u4 _ _ (by omega) (by omega)]; exact e33) (by rw [G _ _ (by omega), u4 _ _ (by omega) (by omega)]; exact e34) (by rw [G _ _ (by omega), u4 _ _ (by omega) (by omega)]; exact e36) (by rw [e8]; exact u2e) (by omega) (by omega) (by omega) (by rw [em]; exact e4) (pgr_a g cb.1 cb.2.1 nh c5') (fun c0 J' f' p' e' => q1 c0 J' (fun b x z1 z2 z3 => by rw [f' b x z1 z2 z3, G b x z3]; exact u4 b x z1 z2) p' e') q0
            · have nh : ¬ hc σ (kC k i + w * kR k i) := fun ⟨j', a, b', q⟩ => hj j' a (by omega) q
              rw [cl_4 k1 d' nh c5'] at q0
              exact fl' 4 (by decide) q0
            · rw [e_4 er j0 (by omega) (by omega)]
              refine ⟨fun ne => ⟨by unfold inR; omega, fun z hz => ?_⟩, fun eq => ?_⟩
              · subst hz
                refine ih' (j + 1) (by omega) (by omega) (by omega) (fun j' a b' => ?_)
                by_cases ej : j' = j
                · subst ej; exact ne
                · exact hj j' a (by omega)
              · rw [cl_3 k1 d' ⟨j, j0, by omega, eq⟩] at q0
                exact fl' 3 (by decide) q0
        exact D 7 0 (Int.le_refl 0) g.1 (by omega) (fun j' a b' => by omega)
      · exact bad (fun d => b2_n.mp y (by rw [e34]; omega))
end MM4
