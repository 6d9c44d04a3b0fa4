/-! ===== the meaning of a text: the reference's sizes, its beginning ===== -/
section MM6
variable {k : kT} {J0 J : cI}
theorem m_meaning {Q : Int → cI → Prop} (o : okK k) (hA : jA J k) (h1 : ¬ (fm k).1 = 0)
    (q1 : (cmp k).1 = 0 → ∀ J', jF J J' → J' 1000 33 = kV' k 1 → J' 1000 34 = kV' k 2 → J' 1000 35 = kV' k 3 → J' 1000 36 = (cmp k).2.2.1 → (∀ j, 0 ≤ j → j < (cmp k).2.2.1 → e9 (mr J' 1037 j) ((cmp k).2.2.2 j)) → J' 1000 8 = J 1000 8 → J' 1000 3 = J 1000 3 → Q 1 J')
    (q0 : ¬ (cmp k).1 = 0 → ∀ J', jF J J' → J' 1000 8 = (cmp k).1 → J' 1000 3 = kS k (cmp k).2.1 → Q 0 J') : wX12_meaning J Q := by
  have N1 := o.2.1
  have kf := fm_ok o h1
  obtain ⟨k1, k2, k3, z5, hf⟩ := kf
  unfold cmp at q1 q0
  rw [if_neg h1] at q1 q0
  refine ⟨4, ?_⟩
  have v : ∀ j : Int, (j = 1 ∨ j = 2 ∨ j = 3) → kK k j = 3 := fun j hj => by rcases hj with rfl | rfl | rfl <;> assumption
  have num : ∀ (J' : cI), smT J J' → ∀ j : Int, (j = 1 ∨ j = 2 ∨ j = 3) → ∀ Q' : Int → cI → Prop, Q' (kV' k j) J' → wX12_numberAt j J' Q' := fun J' s j hj Q' q => (hA J' s j (by omega) (by omega)).2.2.2.1 (v j hj) Q' q
  have L : ∀ (m : Nat) (j : Int), 1 ≤ j → j ≤ 4 → 4 - j < m → (∀ i, 1 ≤ i → i < j → 2 ≤ kV' k i ∧ kV' k i ≤ 5) → wX12_meaning_2 Q m j J := by
    intro m
    induction m with
    | zero => intro j j0 j1 j2; omega
    | succ m ih =>
      intro j j0 j1 j2 hv
      show wbX12_meaning_2 Q (wX12_meaning_2 Q m) j J
      unfold wbX12_meaning_2
      refine ⟨fun c => ?_, fun c => ?_⟩
      · have b1 := hv 1 (by omega) (by omega)
        have b2 := hv 2 (by omega) (by omega)
        have b3 := hv 3 (by omega) (by omega)
        have es : szs k = (0, 4) := by unfold szs; rw [if_neg (fun q => q b1), if_neg (fun q => q b2), if_neg (fun q => q b3)]
        rw [es, if_pos rfl] at q1 q0
        have s0 : smT J J := ⟨fun _ _ _ => rfl, rfl⟩
        refine num J s0 1 (Or.inl rfl) _ (fun J5 e5 => ?_)
        have g5 : ∀ b x, ¬ (b = 1000 ∧ 33 ≤ x ∧ x ≤ 36) → J5 b x = J b x := fun b x q => by rw [e5]; exact u2n (by omega)
        refine num J5 ⟨fun b x q => g5 b x (by omega), g5 _ _ (by omega)⟩ 2 (Or.inr (Or.inl rfl)) _ (fun J12 e12 => ?_)
        have g12 : ∀ b x, ¬ (b = 1000 ∧ 33 ≤ x ∧ x ≤ 36) → J12 b x = J b x := fun b x q => by rw [e12, u2n (by omega)]; exact g5 b x q
        refine num J12 ⟨fun b x q => g12 b x (by omega), g12 _ _ (by omega)⟩ 3 (Or.inr (Or.inr rfl)) _ (fun J19 e19 J22 e22 J25 e25 => ?_)
        have g25 : ∀ b x, ¬ (b = 1000 ∧ 33 ≤ x ∧ x ≤ 36) → ¬ (b = 1000 ∧ x = 7) → J25 b x = J b x := fun b x q q7 => by rw [e25, u2n q7, e22, u2n (by omega), e19, u2n (by omega)]; exact g12 b x q
        have f25 : jF J J25 := fun b x z1 z2 => g25 b x (by omega) (by omega)
        refine ⟨(kZ k + 1).toNat, m_rulesL (J0 := J) (w := kV' k 1) (h := kV' k 2) (kk := kV' k 3) o hA b1.1 b1.2 b2.1 b2.2 b3.2 (kZ k + 1).toNat 5 0 (fun _ _ => 0) J25 (by decide) z5 (by omega) hf (Int.le_refl 0) (by decide) f25 ?_ ?_ ?_ ?_ (by rw [e25]; exact u2e) (fun j j0 j1 => by omega) (fun c0 J' f' d33 d34 d35 d36 er d8 d3 => ?_) (fun c0 J' f' d8 d3 => q0 c0 J' f' d8 d3)⟩
        · rw [e25, u2x (by decide), e22, u2x (by decide), e19, u2x (by decide), e12, u2x (by decide), e5]; exact u2e
        · rw [e25, u2x (by decide), e22, u2x (by decide), e19, u2x (by decide), e12]; exact u2e
        · rw [e25, u2x (by decide), e22, u2x (by decide), e19]; exact u2e
        · rw [e25, u2x (by decide), e22]; exact u2e
        · exact q1 c0 J' f' d33 d34 d35 d36 er (by rw [d8]; exact g25 _ _ (by omega) (by omega)) (by rw [d3]; exact g25 _ _ (by omega) (by omega))
      · have s0 : smT J J := ⟨fun _ _ _ => rfl, rfl⟩
        have es : ¬ (2 ≤ kV' k j ∧ kV' k j ≤ 5) → szs k = (2, j) := fun nb => by
          have : j = 1 ∨ j = 2 ∨ j = 3 := by omega
          unfold szs
          rcases this with rfl | rfl | rfl
          · rw [if_pos nb]
          · rw [if_neg (fun q => q (hv 1 (by decide) (by decide))), if_pos nb]
          · rw [if_neg (fun q => q (hv 1 (by decide) (by decide))), if_neg (fun q => q (hv 2 (by decide) (by decide))), if_pos nb]
        refine num J s0 j (by omega) _ (m_isIn ⟨fun z => ⟨by unfold inR; omega, fun z' hz => ?_⟩, fun z => ?_⟩)
        · subst hz
          have z' := b2_y.mp ((b2_or _).resolve_left z)
          refine ih (j + 1) (by omega) (by omega) (by omega) (fun i i0 i1 => ?_)
          by_cases ei : i = j
          · subst ei; exact z'
          · exact hv i i0 (by omega)
        · have z' := b2_n.mp z
          rw [es z', if_neg (show ¬ (2 : Int) = 0 by decide)] at q0
          exact m_wrong o hA (by omega) (by omega) (fun J' f' t8 t3 => ⟨Or.inl rfl, q0 (by show ¬ (2 : Int) = 0; decide) J' (fun b x z1 z2 => f' b x (by omega)) t8 t3⟩)
  exact L 4 1 (by decide) (by decide) (by decide) (fun i i0 i1 => by omega)
theorem m_begin {w h kk n : Int} {Q : cI → Prop} (e33 : J 1000 33 = w) (e34 : J 1000 34 = h) (e35 : J 1000 35 = kk) (e36 : J 1000 36 = n) (w2 : 2 ≤ w) (w5 : w ≤ 5) (h2 : 2 ≤ h) (h5 : h ≤ 5) (k2 : 2 ≤ kk) (k5 : kk ≤ 5) (n0 : 0 ≤ n) (n1 : n ≤ 40)
    (hQ : ∀ J2, (∀ a x, ¬ (1015 ≤ a ∧ a ≤ 1020) → ¬ (a = 1000 ∧ 11 ≤ x ∧ x ≤ 14) → J2 a x = J a x) → J2 1000 11 = w → J2 1000 12 = h → J2 1000 13 = kk → J2 1000 14 = n → (∀ i, 0 ≤ i → i < n → e9 (mr J2 1015 i) (mr J 1037 i)) → (∀ c, 0 ≤ c → c < 25 → J2 1020 c = 0) → ∀ J3, J3 = up2 J2 1000 28 0 → ∀ J', (∀ a x, a ≠ 1030 → ¬ (a = 1000 ∧ (x = 31 ∨ x = 32)) → J' a x = J3 a x) → J' 1000 31 = 0 → J' 1000 32 = 0 → (∀ c, J' 1030 c = lkS (J3 1030) (vM J3) (J3 1000 13) (J3 1020) c) → Q J') : wX12_begin J Q := by
  unfold wX12_begin
  intro J1 e1 J4 e4 J7 e7 J10 e10
  have g10 : ∀ a x, ¬ (a = 1000 ∧ 11 ≤ x ∧ x ≤ 14) → J10 a x = J a x := fun a x q => by rw [e10, u2n (by omega), e7, u2n (by omega), e4, u2n (by omega), e1, u2n (by omega)]
  have a11 : J10 1000 11 = w := by rw [e10, u2x (by decide), e7, u2x (by decide), e4, u2x (by decide), e1, u2e]; exact e33
  have a12 : J10 1000 12 = h := by rw [e10, u2x (by decide), e7, u2x (by decide), e4, u2e, e1, u2x (by decide)]; exact e34
  have a13 : J10 1000 13 = kk := by rw [e10, u2x (by decide), e7, u2e, e4, u2x (by decide), e1, u2x (by decide)]; exact e35
  have a14 : J10 1000 14 = n := by rw [e10, u2e, e7, u2x (by decide), e4, u2x (by decide), e1, u2x (by decide)]; exact e36
  refine ⟨(n + 1).toNat, ?_⟩
  -- the grid
  have G : ∀ (m : Nat) (x : Int) (J2 : cI), 0 ≤ x → x ≤ 25 → 25 - x < m → (∀ a y, ¬ (1015 ≤ a ∧ a ≤ 1020) → J2 a y = J10 a y) → (∀ i, 0 ≤ i → i < n → e9 (mr J2 1015 i) (mr J 1037 i)) → (∀ c, 0 ≤ c → c < x → J2 1020 c = 0) → wX12_begin_76 Q m x J2 := by
    intro m
    induction m with
    | zero => intro x J2 x0 x1 x2; omega
    | succ m ih =>
      intro x J2 x0 x1 x2 f er z
      show wbX12_begin_76 Q (wX12_begin_76 Q m) x J2
      unfold wbX12_begin_76
      refine ⟨fun c J3 e3 => ?_, fun c => ⟨by omega, fun J9 e9' => ⟨by unfold inR; omega, fun z12 hz => ?_⟩⟩⟩
      · have b : ∀ y, y ≠ 28 → J3 1000 y = J10 1000 y := fun y hy => by rw [e3, u2x hy]; exact f 1000 y (by omega)
        have eM : vM J3 = w * h := by unfold vM; rw [b 11 (by decide), b 12 (by decide), a11, a12]
        have hb1 := Int.mul_le_mul w5 h5 (by omega) (by decide)
        have hb2 := Int.mul_le_mul w2 h2 (by decide) (by omega)
        refine m_lookAnew (M := w * h) (k := kk) eM (by omega) (by omega) (by rw [b 13 (by decide)]; exact a13) (by omega) k5 (fun c c0 c1 => by rw [e3, u2a (by decide), z c c0 (by omega)]; omega) (fun J' l1 l2 l3 l4 => ?_)
        refine hQ J2 (fun a y q1 q2 => by rw [f a y q1]; exact g10 a y q2) ((f _ _ (by omega)).trans a11) ((f _ _ (by omega)).trans a12) ((f _ _ (by omega)).trans a13) ((f _ _ (by omega)).trans a14) er (fun c c0 c1 => z c c0 (by omega)) J3 e3 J' l1 l2 l3 (fun c => ?_)
        rw [l4 c, eM, b 13 (by decide), a13]
      · subst hz
        have er9 : mr J9 1015 = mr J2 1015 := mr_fr (fun a y q1 q2 => by rw [e9']; exact u2a (by omega))
        refine ih (x + 1) J9 (by omega) (by omega) (by omega) (fun a y q => by rw [e9', u2a (by omega)]; exact f a y q) (by rw [er9]; exact er) (fun c c0 c1 => ?_)
        rw [e9']
        by_cases ec : c = x
        · subst ec; exact u2e
        · rw [u2x ec]; exact z c c0 (by omega)
  -- the rules
  have L : ∀ (m : Nat) (x : Int) (J2 : cI), 0 ≤ x → x ≤ n → n - x < m → (∀ a y, ¬ (1015 ≤ a ∧ a ≤ 1019) → J2 a y = J10 a y) → (∀ i, 0 ≤ i → i < x → e9 (mr J2 1015 i) (mr J 1037 i)) → wX12_begin_34 Q m x J2 := by
    intro m
    induction m with
    | zero => intro x J2 x0 x1 x2; omega
    | succ m ih =>
      intro x J2 x0 x1 x2 f er
      have b36 : J2 1000 36 = n := by rw [f _ _ (by omega), g10 _ _ (by omega)]; exact e36
      show wbX12_begin_34 Q (wX12_begin_34 Q m) x J2
      unfold wbX12_begin_34
      rw [b36]
      refine ⟨fun c => ⟨26, G 26 0 J2 (by decide) (by decide) (by decide) (fun a y q => f a y (by omega)) (fun i i0 i1 => er i i0 (by omega)) (fun c c0 c1 => by omega)⟩, fun c => ?_⟩
      refine m_copy (b := 1037) (Or.inl rfl) x0 (by omega) x0 (by omega) (fun J3 g1 g2 g3 => ⟨by unfold inR; omega, fun z hz => ?_⟩)
      subst hz
      have em : mr J2 1037 = mr J 1037 := mr_fr (fun a y q1 q2 => by rw [f a y (by omega)]; exact g10 a y (by omega))
      refine ih (x + 1) J3 (by omega) (by omega) (by omega) (fun a y q => (g1 a y q).trans (f a y q)) (fun i i0 i1 => ?_)
      by_cases ei : i = x
      · subst ei; rw [em] at g3; exact g3
      · exact e9_t (g2 i ei) (er i i0 (by omega))
  exact L (n + 1).toNat 0 J10 (Int.le_refl 0) n0 (by omega) (fun _ _ _ => rfl) (fun i i0 i1 => by omega)
end MM6
