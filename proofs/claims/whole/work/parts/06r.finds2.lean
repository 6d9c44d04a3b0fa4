/-! ===== search, isNeeded ===== -/
theorem fnd_b {P : sP} (hP : goP P) {M : Nat} (hM : M ≤ 25) : 0 ≤ fnd (dfs P M 0 st0) ∧ fnd (dfs P M 0 st0) ≤ P.1 ∧ imax 0 (rsl (dfs P M 0 st0)) = fnd (dfs P M 0 st0) ∧ (rsl (dfs P M 0 st0) = 1 ↔ fnd (dfs P M 0 st0) = 1) := by
  have ok := dfs_ok hP M 0 st0 (by omega) (by omega) (gS_0 hP)
  have h1 := hP.1
  generalize dfs P M 0 st0 = r at *
  unfold fnd rsl imax
  rcases ok with o | o | o
  · have hn : ¬ r.1 = 2 := by omega
    simp only [if_neg hn]
    have g := o.2.2.2.2
    refine ⟨g.1, by omega, ?_, trivial⟩
    split <;> omega
  · have hn : ¬ r.1 = 2 := by omega
    simp only [if_neg hn]
    rw [o.2.1]
    refine ⟨by omega, by omega, ?_, trivial⟩
    split <;> omega
  · simp only [if_pos o.1]
    exact ⟨by decide, by omega, by decide, by decide⟩
section ST5
variable {I : cI} {R : cR} {J : cI}
theorem m_65 {a v f : Int} {Q : Int → cI → Prop} (e28 : J 1000 28 = f) (f0 : 0 ≤ f) (f1 : f ≤ 30)
    (hQ : ∀ J', (∀ b x, b ≠ 1029 → J' b x = J b x) → (∀ x, 0 ≤ x → x < f * 25 → J' 1029 x = J 1026 x) → Q v J') : ∃ n, wX12_search_65 Q a n v 0 J := by
  have L : ∀ (m : Nat) (x : Int) (J' : cI), 0 ≤ x → x ≤ f * 25 → f * 25 - x < m → (∀ b y, b ≠ 1029 → J' b y = J b y) → (∀ c, 0 ≤ c → c < x → J' 1029 c = J 1026 c) → wX12_search_65 Q a m v x J' := by
    intro m
    induction m with
    | zero => intro x I' h0 h1 h2; omega
    | succ m ih =>
      intro x J' x0 x1 x2 h1 h2
      show wbX12_search_65 Q a (wX12_search_65 Q a m) v x J'
      unfold wbX12_search_65
      rw [h1 _ _ (by decide), e28]
      refine ⟨by unfold inR; omega, fun e => hQ J' h1 (fun c c0 c1 => h2 c c0 (by omega)), fun e => ⟨by omega, by omega, fun J4 e4 => ⟨by unfold inR; omega, fun z hz => ?_⟩⟩⟩
      subst hz
      refine ih (x + 1) J4 (by omega) (by omega) (by omega) (fun b y q => ?_) (fun c c0 c1 => ?_)
      · subst e4; rw [u2a q]; exact h1 b y q
      · subst e4
        by_cases ec : c = x
        · subst ec; rw [u2e]; exact h1 _ _ (by decide)
        · rw [u2x ec]; exact h2 c c0 (by omega)
  exact ⟨751, L 751 0 J (Int.le_refl 0) (by omega) (by omega) (fun _ _ _ => rfl) (fun c c0 c1 => by omega)⟩
theorem st_search {a : Int} (h : INV I R J) : wX11_search a I R (okN (wX12_search a J)) (okX (xf 2 1 0) (wX12_search a J)) := by
  have h0 := INV_0 (v := 0) h
  have hb := vM_b h.2.1
  have hs := h.2.1.1
  have no : ¬ (1 ≤ a ∧ a ≤ 30) → okX (xf 2 1 0) (wX12_search a J) 1 I R := fun n => ⟨by decide, fun J1 e1 => m_isIn (by
    subst e1
    rw [b2_f n]
    exact ⟨fun w => absurd rfl w, fun _ => m_no ⟨u2e, INV_0 h0⟩⟩)⟩
  have e11 : up2 J 1000 0 0 1000 11 = J 1000 11 := u2x (by decide)
  unfold wX11_search wX11_search_11
  refine ⟨fun e => no (by omega), fun e => ⟨fun e2 => c_reqPuzzle h (fun hw => ?_) (fun hw => ⟨by decide, fun J1 e1 => m_isIn ?_⟩), fun e2 => no (by omega)⟩⟩
  · have hB := INV_pB h hw
    have hk := hB.2.2.2.2.2.2.2.2.2.2
    have h4 := hb.2.2.2 hw
    have hg9 := h.1.2.2.2.2.2.2.2.2
    let g : Int → Int := fun c => if 0 ≤ c ∧ c < vM J then J 1020 c else 0
    have gd1 : ∀ c, 0 ≤ c → c < vM J → g c = J 1020 c := fun c c0 c1 => if_pos ⟨c0, c1⟩
    have gb : ∀ c, 0 ≤ g c ∧ g c ≤ J 1000 13 := fun c => by
      show 0 ≤ (if 0 ≤ c ∧ c < vM J then J 1020 c else 0) ∧ (if 0 ≤ c ∧ c < vM J then J 1020 c else 0) ≤ J 1000 13
      split
      · exact (hg9 c (by omega) (by omega)).2
      · omega
    have goP0 : goP (sPr a (J 1000 13) (J 1000 14) (-1) (mr J 1015) g (fun _ => 1)) := ⟨by show 1 ≤ a; omega, e2, hk.1, hk.2, fun c _ _ => gb c, fun c _ _ => ⟨Int.le_refl 1, hk.1⟩⟩
    refine c_find (g := g) (Or.inl rfl) hB ⟨by omega, e2⟩ (fun c c0 c1 => by rw [gd1 c c0 c1]; exact (hg9 c c0 (by omega)).1) (fun c c0 => if_neg (by omega)) gb (fun I' f k1 k2 k3 J1 e1 => m_isIn ?_)
    have hfb := fnd_b goP0 (M := (vM J).toNat) (by omega)
    have mb := fun {J'} f e h23 h22 => INV_mB (wo := -1) (J' := J') (P := sPr a (J 1000 13) (J 1000 14) (-1) (mr J 1015) g (fun _ => 1)) (M' := 0) h.2.1 hw f e h23 h22 rfl
    have lk0 := fun {J'} {Q : Int → cI → Prop} (q : mB J' (vM J) (J 1000 14) (-1) _) => m_look (Q := Q) q goP0
    generalize hD : dfs (sPr a (J 1000 13) (J 1000 14) (-1) (mr J 1015) g (fun _ => 1)) (vM J).toNat 0 st0 = D at *
    rw [b2_t (by omega)]
    refine ⟨fun _ => ⟨fun _ => m_prep (Or.inr rfl) (fun J9 f9 p9 => ?_), fun w => absurd (w.symm.trans (by subst e1; exact e11)).symm hw⟩, fun w => absurd w (by decide)⟩
    have f91 : ∀ b x, ¬ (b = 1022 ∨ b = 1023) → ¬ (b = 1000 ∧ x = 0) → J9 b x = J b x := fun b x q1 q2 => by rw [f9 b x q1]; subst e1; exact u2n q2
    refine lk0 (mb (fun b x q => f91 b x (by omega) (by omega)) rfl (fun c c0 c1 => ?_) (fun c c0 c1 => ?_)) (fun J13 f13 t13 s13 J16 e16 J19 e19 => m_65 (f := fnd D) (by subst e19; rw [u2e]; exact hfb.2.2.1) hfb.1 (by have := hfb.2.1; have : (sPr a (J 1000 13) (J 1000 14) (-1) (mr J 1015) g fun _ => 1).1 = a := rfl; omega) (fun J' f' s' => ?_))
    · rw [(p9 c c0 (by omega)).2, if_neg (by decide), show J1 1020 c = J 1020 c by subst e1; exact u2a (by decide)]
      exact (gd1 c c0 c1).symm
    · rw [(p9 c c0 (by omega)).1]; rfl
    · have fall : ∀ b x, ¬ (b = 1022 ∨ b = 1023 ∨ b = 1021 ∨ b = 1026 ∨ b = 1029) → ¬ (b = 1000 ∧ (x = 0 ∨ x = 24 ∨ x = 25 ∨ x = 27 ∨ x = 28)) → J' b x = J b x := fun b x q1 q2 => by
        rw [f' b x (by omega)]; subst e19; rw [u2n (by omega)]; subst e16; rw [u2n (by omega), f13 b x (by omega)]; exact f91 b x (by omega) (by omega)
      refine ⟨?_, rfl, ?_⟩
      · rw [f' _ _ (by decide)]; subst e19; rw [u2x (by decide)]; subst e16; rw [u2x (by decide), f13 _ _ (by omega), f9 _ _ (by omega)]; subst e1; exact u2e
      · obtain ⟨p, v, s, t, w, k, x⟩ := h
        have j : smP J J' := ⟨fun b y q1 q2 => fall _ _ (by omega) (by omega), fall _ _ (by omega) (by omega), fall _ _ (by omega) (by omega), fall _ _ (by omega) (by omega), fall _ _ (by omega) (by omega)⟩
        refine ⟨iP_fr p v (fun b y q => f _ _ (by omega)) j, vP_fr v j,
          iS_fr s (fun y => f _ _ (by omega)) (fun y => f _ _ (by omega)) (f _ _ (by omega)) (f _ _ (by omega)) (fun y => fall _ _ (by omega) (by omega)) (fall _ _ (by omega) (by omega)) (fall _ _ (by omega) (by omega)),
          iT_fr t (fun y => f _ _ (by omega)) (f _ _ (by omega)) (fun y => fall _ _ (by omega) (by omega)) (fall _ _ (by omega) (by omega)),
          iW_fr w (fun y => f _ _ (by omega)) (f _ _ (by omega)) (fun y => fall _ _ (by omega) (by omega)) (fall _ _ (by omega) (by omega)), ?_,
          iE_fr x (f _ _ (by omega)) (fall _ _ (by omega) (by omega))⟩
        have e28 : J' 1000 28 = fnd D := by rw [f' _ _ (by decide)]; subst e19; rw [u2e]; exact hfb.2.2.1
        have e27 : J' 1000 27 = D.2.2.1 := by rw [f' _ _ (by decide)]; subst e19; rw [u2x (by decide)]; subst e16; rw [u2e]; exact t13
        have ha : (sPr a (J 1000 13) (J 1000 14) (-1) (mr J 1015) g fun _ => 1).1 = a := rfl
        refine ⟨by rw [k1, e28], by rw [e28]; exact hfb.1, by rw [e28]; have := hfb.2.1; omega, by rw [k2, e27], fun i c i0 i1 c0 c1 => ?_⟩
        rw [e28] at i1
        rw [smP_M j] at c1
        have := hfb.2.1
        rw [show 15 + i.toNat = 10 + 5 + i.toNat by omega, k3 i c i0 i1 c0 (by omega), s' _ (by omega) (by omega)]
        subst e19; rw [u2a (by decide)]; subst e16; rw [u2a (by decide)]
        exact (s13 i c i0 i1 c0 c1).symm
  · subst e1
    rw [b2_t (by omega)]
    exact ⟨fun _ => ⟨fun w => absurd (e11.trans hw) w, fun _ => m_no ⟨u2e, INV_0 h0⟩⟩, fun w => absurd w (by decide)⟩
theorem st_isNeeded {a : Int} (h : INV I R J) : wX11_isNeeded a I R (okN (wX12_isNeeded a J)) (okX (xf 0 0 1) (wX12_isNeeded a J)) := by
  have hb := vM_b h.2.1
  have hs := h.2.1.1
  have hn := h.2.1.2
  refine c_reqRule h (fun c => ?_) (fun c => ⟨by decide, m_isRule hn.1 hn.2.1 ?_⟩)
  · have hw : J 1000 11 ≠ 0 := by omega
    have hB := INV_pB h hw
    have hk := hB.2.2.2.2.2.2.2.2.2.2
    have h4 := hb.2.2.2 hw
    have goP0 : ∀ wo, goP (sPr 2 (J 1000 13) (J 1000 14) wo (mr J 1015) (fun _ => 0) (fun _ => 1)) := fun wo => goP_2 hk.1 hk.2 (by decide) (by decide)
    have inv : ∀ I' J', (∀ b x, (b < 45 ∨ 80 ≤ b) → I' b x = I b x) → (∀ b x, ¬ (b = 1021 ∨ b = 1022 ∨ b = 1023 ∨ b = 1026) → ¬ (b = 1000 ∧ (x = 0 ∨ x = 24 ∨ x = 25)) → J' b x = J b x) → INV I' R J' := fun I' J' f g =>
      INV_J (INV_I h (fun b x q => f b x (by unfold iN at q; omega)) (fun y y0 y1 => by rw [f 82 y (by omega)]; exact h.2.2.1.2.1 y y0 y1)) (fun b x q => g b x (fun w => q (by unfold jN; omega)) (fun w => q (by unfold jN; omega)))
    have ref1 : ∀ {Q : Int → cI → Prop}, (∀ J', (∀ b x, ¬ (b = 1021 ∨ b = 1022 ∨ b = 1023 ∨ b = 1026) → ¬ (b = 1000 ∧ (x = 0 ∨ x = 24 ∨ x = 25)) → J' b x = J b x) → J' 1000 0 = 0 → (b2 (jst (vM J) (J 1000 14) (J 1000 13) (-1) (mr J 1015)) = 0 → Q 1 J') ∧ (b2 (jst (vM J) (J 1000 14) (J 1000 13) (-1) (mr J 1015)) = 1 → b2 (jst (vM J) (J 1000 14) (J 1000 13) a (mr J 1015)) = 0 → Q 1 J') ∧ (b2 (jst (vM J) (J 1000 14) (J 1000 13) (-1) (mr J 1015)) = 1 → b2 (jst (vM J) (J 1000 14) (J 1000 13) a (mr J 1015)) = 1 → Q 0 J')) → wX12_isNeeded a J Q := fun {Q} hq => by
      refine m_isRule hn.1 hn.2.1 ?_
      rw [b2_t c]
      refine ⟨fun w => absurd w (by decide), fun _ J1 e1 => ⟨fun _ => m_prep (Or.inl rfl) (fun J5 f5 p5 => ?_), fun w => absurd (by subst e1; exact u2e) w⟩⟩
      have f51 : ∀ b x, ¬ (b = 1022 ∨ b = 1023) → ¬ (b = 1000 ∧ x = 0) → J5 b x = J b x := fun b x q1 q2 => by rw [f5 b x q1]; subst e1; exact u2n q2
      have z5 : J5 1000 0 = 0 := by rw [f5 _ _ (by omega)]; subst e1; exact u2e
      refine m_look (P := sPr 2 (J 1000 13) (J 1000 14) (-1) (mr J 1015) (fun _ => 0) (fun _ => 1)) (INV_mB (M' := 0) h.2.1 hw (fun b x q => f51 b x (by omega) (by omega)) rfl (fun y y0 y1 => by rw [(p5 y y0 (by omega)).2, if_pos rfl]; rfl) (fun y y0 y1 => by rw [(p5 y y0 (by omega)).1]; rfl) rfl) (goP0 (-1)) (fun J9 f9 t9 s9 => ?_)
      have f91 : ∀ b x, ¬ (b = 1021 ∨ b = 1022 ∨ b = 1023 ∨ b = 1026) → ¬ (b = 1000 ∧ (x = 0 ∨ x = 24 ∨ x = 25)) → J9 b x = J b x := fun b x q1 q2 => by rw [f9 b x (by omega)]; exact f51 b x (by omega) (by omega)
      have z9 : J9 1000 0 = 0 := by rw [f9 _ _ (by omega)]; exact z5
      have r1 := (fnd_b (goP0 (-1)) (M := (vM J).toNat) (by omega)).2.2.2
      have r2 := (fnd_b (goP0 a) (M := (vM J).toNat) (by omega)).2.2.2
      refine ⟨fun w => (hq J9 f91 z9).1 (b2_f (fun q => w (r1.mpr q))), fun w => ?_⟩
      refine m_look (P := sPr 2 (J 1000 13) (J 1000 14) a (mr J 1015) (fun _ => 0) (fun _ => 1)) (INV_mB (M' := 0) h.2.1 hw (fun b x q => f91 b x (by omega) (by omega)) rfl (fun y y0 y1 => by rw [f9 _ _ (by omega), (p5 y y0 (by omega)).2, if_pos rfl]; rfl) (fun y y0 y1 => by rw [f9 _ _ (by omega), (p5 y y0 (by omega)).1]; rfl) rfl) (goP0 a) (fun J13 f13 t13 s13 => ?_)
      have hq' := hq J13 (fun b x q1 q2 => by rw [f13 b x (by omega)]; exact f91 b x q1 q2) (by rw [f13 _ _ (by omega)]; exact z9)
      exact ⟨fun w2 => hq'.2.2 (b2_t (r1.mp w)) (b2_t (r2.mp w2)), fun w2 => hq'.2.1 (b2_t (r1.mp w)) (b2_f (fun q => w2 (r2.mpr q)))⟩
    refine c_just (Or.inr rfl) hB (fun I2 f2 => ⟨fun w => ?_, fun w => ?_⟩)
    · exact ref1 (fun J' g z => ⟨fun _ => ⟨z, rfl, inv _ _ (fun b x q => f2 b x (by omega)) g⟩, fun q => absurd (w.symm.trans q) (by decide), fun q => absurd (w.symm.trans q) (by decide)⟩)
    · have w1 : b2 (jst (vM J) (J 1000 14) (J 1000 13) (-1) (mr J 1015)) = 1 := (b2_or _).resolve_left w
      refine c_just (Or.inr rfl) (pB_fr hB (fun b x q => f2 b x (by omega))) (fun I3 f3 => ⟨fun v => ?_, fun v => ?_⟩)
      · have v1 := (b2_or (jst (vM J) (J 1000 14) (J 1000 13) a (mr J 1015))).resolve_left v
        exact ref1 (fun J' g z => ⟨fun q => absurd q w, fun _ q => absurd q v, fun _ _ => ⟨z, rfl, inv _ _ (fun b x q => by rw [f3 b x (by omega)]; exact f2 b x (by omega)) g⟩⟩)
      · exact ref1 (fun J' g z => ⟨fun q => absurd q w, fun _ _ => ⟨z, rfl, inv _ _ (fun b x q => by rw [f3 b x (by omega)]; exact f2 b x (by omega)) g⟩, fun _ q => absurd (v.symm.trans q) (by decide)⟩)
  · rw [b2_f c]
    exact ⟨fun _ J1 e1 => ⟨fun w => absurd (w.symm.trans (by subst e1; exact u2e)) (by decide), fun _ => ⟨by subst e1; exact u2e, by subst e1; exact INV_0 h⟩⟩, fun w => absurd rfl w⟩
end ST5
