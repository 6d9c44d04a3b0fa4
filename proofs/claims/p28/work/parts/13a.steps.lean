/-! ===== the calls, the class alone: J tells its state ===== -/
section KST
variable {I : cI} {R : cR} {J : cI}
theorem k_feed {a1 a2 a3 a4 a5 : Int} {A : Int → Int} {Q : Int → cI → cR → Prop} {Qx : Nat → cI → cR → Prop} (h : INV I R J) (A0 : A 0 = a1) (A1 : A 1 = a2) (A2 : A 2 = a3) (A3 : A 3 = a4) (A4 : A 4 = a5) (c : J 1000 2 + 20 ≤ 1600)
    (hQ : ∀ I' J', INV I' R J' → (∀ b x, b ≠ 1001 → ¬ (b = 1000 ∧ x = 2) → J' b x = J b x) → J' 1000 2 = J 1000 2 + 20 → (∀ p, 0 ≤ p → p < 20 → J' 1001 (J 1000 2 + p) = fd A p) → (∀ y, y < J 1000 2 → J' 1001 y = J 1001 y) → Q (J 1000 2 + 20) I' R) : wX11_feed a1 a2 a3 a4 a5 I R Q Qx := by
  have hT := h.2.2.2.1
  have t0 := hT.2.1
  unfold wX11_feed
  rw [hT.1]
  refine ⟨by unfold inR; omega, fun _ => ?_, fun w => absurd c w⟩
  refine c_fours (I := I) (A := A) (n := J 1000 2) (j := 0) t0 c (by decide) (by decide) A0 (fun _ _ _ _ => rfl) (by rw [hT.1]; omega) (fun p p0 p1 => by omega) (fun I3 f3 g3 k3 => ?_)
  refine c_fours (I := I) (A := A) (n := J 1000 2) (j := 1) t0 c (by decide) (by decide) A1 f3 (by omega) (fun p p0 p1 => k3 p p0 (by omega)) (fun I8 f8 g8 k8 => ?_)
  refine c_fours (I := I) (A := A) (n := J 1000 2) (j := 2) t0 c (by decide) (by decide) A2 f8 (by omega) (fun p p0 p1 => k8 p p0 (by omega)) (fun I13 f13 g13 k13 => ?_)
  refine c_fours (I := I) (A := A) (n := J 1000 2) (j := 3) t0 c (by decide) (by decide) A3 f13 (by omega) (fun p p0 p1 => k13 p p0 (by omega)) (fun I18 f18 g18 k18 => ?_)
  refine c_fours (I := I) (A := A) (n := J 1000 2) (j := 4) t0 c (by decide) (by decide) A4 f18 (by omega) (fun p p0 p1 => k18 p p0 (by omega)) (fun I' f g k => ?_)
  obtain ⟨J', j1, j2, j3, j4⟩ : ∃ J' : cI, (∀ b x, b ≠ 1001 → ¬ (b = 1000 ∧ x = 2) → J' b x = J b x) ∧ J' 1000 2 = J 1000 2 + 20 ∧ (∀ p, 0 ≤ p → J' 1001 (J 1000 2 + p) = fd A p) ∧ (∀ y, y < J 1000 2 → J' 1001 y = J 1001 y) := by
    refine ⟨fun b x => if b = 1001 then (if J 1000 2 ≤ x then fd A (x - J 1000 2) else J 1001 x) else if b = 1000 ∧ x = 2 then J 1000 2 + 20 else J b x, fun b x q1 q2 => ?_, ?_, fun p p0 => ?_, fun y hy => ?_⟩
    · dsimp only; rw [if_neg q1, if_neg q2]
    · dsimp only; rw [if_neg (by decide), if_pos ⟨rfl, rfl⟩]
    · dsimp only; rw [if_pos rfl, if_pos (by omega), show J 1000 2 + p - J 1000 2 = p by omega]
    · dsimp only; rw [if_pos rfl, if_neg (by omega)]
  rw [show I' 1 0 = J 1000 2 + 20 by omega]
  refine hQ I' J' ?_ j1 j2 (fun p p0 _ => j3 p p0) j4
  obtain ⟨p, v, s, t, w, kk, x⟩ := h
  have j : smP J J' := ⟨fun b y z1 z2 => j1 _ _ (by omega) (by omega), j1 _ _ (by omega) (by omega), j1 _ _ (by omega) (by omega), j1 _ _ (by omega) (by omega), j1 _ _ (by omega) (by omega)⟩
  refine ⟨iP_fr p v (fun b y q => f _ _ (by omega) (by omega)) j, vP_fr v j,
    iS_fr s (fun y => f _ _ (by omega) (by omega)) (fun y => f _ _ (by omega) (by omega)) (f _ _ (by omega) (by omega)) (f _ _ (by omega) (by omega)) (fun y => j1 _ _ (by omega) (by omega)) (j1 _ _ (by omega) (by omega)) (j1 _ _ (by omega) (by omega)), ?_,
    iW_fr w (fun y => f _ _ (by omega) (by omega)) (f _ _ (by omega) (by omega)) (fun y => j1 _ _ (by omega) (by omega)) (j1 _ _ (by omega) (by omega)),
    iK_fr kk (fun b y z1 z2 => f _ _ (by omega) (by omega)) (f _ _ (by omega) (by omega)) (f _ _ (by omega) (by omega)) (fun y => j1 _ _ (by omega) (by omega)) (j1 _ _ (by omega) (by omega)) (j1 _ _ (by omega) (by omega)) (smP_M j),
    iE_fr x (f _ _ (by omega) (by omega)) (j1 _ _ (by omega) (by omega))⟩
  refine ⟨by rw [g, j2]; omega, by rw [j2]; omega, by rw [j2]; exact c, fun y y0 y1 => ?_⟩
  rw [j2] at y1
  by_cases cy : y < J 1000 2
  · rw [f _ _ (by omega) (by omega), j4 y cy]
    exact hT.2.2.2 y y0 cy
  · have e1 := k (y - J 1000 2) (by omega) (by omega)
    have e2 := j3 (y - J 1000 2) (by omega)
    rw [show J 1000 2 + (y - J 1000 2) = y by omega] at e1 e2
    rw [e1, e2]
    exact ⟨rfl, and255 _⟩
theorem k_trim {a : Int} {Q : Int → cI → cR → Prop} {Qx : Nat → cI → cR → Prop} (h : INV I R J) (a0 : 0 ≤ a) (a1 : a ≤ J 1000 2) (hQ : ∀ I', INV I' R (up2 J 1000 2 a) → Q a I' R) : wX11_trim a I R Q Qx := by
  have hT := h.2.2.2.1
  unfold wX11_trim wX11_trim_15
  rw [hT.1]
  refine ⟨fun e => absurd a0 (by omega), fun e => ⟨fun e2 I1 f1 => ?_, fun e2 => absurd a1 e2⟩⟩
  subst f1
  refine hQ _ ?_
  obtain ⟨p, v, s, t, w, k, x⟩ := h
  have j : smP J (up2 J 1000 2 a) := ⟨fun b y q1 q2 => u2a (by omega), u2x (by decide), u2x (by decide), u2x (by decide), u2x (by decide)⟩
  refine ⟨iP_fr p v (fun b y q => u2a (by omega)) j, vP_fr v j, iS_fr s (fun y => u2a (by decide)) (fun y => u2a (by decide)) (u2a (by decide)) (u2a (by decide)) (fun y => u2a (by decide)) (u2x (by decide)) (u2x (by decide)), ?_, iW_fr w (fun y => u2a (by decide)) (u2a (by decide)) (fun y => u2a (by decide)) (u2x (by decide)), iK_fr k (fun b y q1 q2 => u2a (by omega)) (u2a (by decide)) (u2a (by decide)) (fun y => u2a (by decide)) (u2x (by decide)) (u2x (by decide)) (smP_M j), iE_fr x (u2a (by decide)) (u2x (by decide))⟩
  refine ⟨by rw [u2e, u2e], by rw [u2e]; omega, by rw [u2e]; have := hT.2.2.1; omega, fun y y0 y1 => ?_⟩
  rw [u2e] at y1
  rw [u2a (by decide), u2a (by decide)]
  exact hT.2.2.2 y y0 (by omega)
theorem k_put {a b : Int} {Q : Int → cI → cR → Prop} {Qx : Nat → cI → cR → Prop} (h : INV I R J) (a0 : 0 ≤ a) (a1 : a < vM J) (b0 : 0 ≤ b) (b1 : b ≤ J 1000 13) (hQ : ∀ z I', INV I' R (up2 J 1020 a b) → Q z I' R) : wX11_put a b I R Q Qx := by
  have hb := vM_b h.2.1
  have hp : R 0 7 = 85 ∨ R 0 7 = 89 := h.1.1.1
  refine c_reqCell h (fun c => ?_) (fun c => absurd ⟨a0, a1⟩ c)
  unfold wX11_put_20
  rw [h.1.2.2.2.2.2.1]
  refine ⟨fun e => absurd b0 (by omega), fun e => ⟨fun e2 => ⟨by omega, fun z hz => ⟨by omega, fun I10 e10 => hQ z I10 ?_⟩⟩, fun e2 => absurd b1 e2⟩⟩
  have i13 := h.1.2.2.2.2.2.1
  obtain ⟨⟨a1', a2, a3, a4, a5, a6, a7, a8, a9⟩, v, s, t, w, k, x⟩ := h
  subst e10
  have er : mr (up2 J 1020 a b) 1015 = mr J 1015 := mr_fr (fun a x q1 q2 => u2a (by omega))
  have eM : vM (up2 J 1020 a b) = vM J := by unfold vM; rw [u2a (by decide), u2a (by decide)]
  refine ⟨⟨a1', a2, a3, ?_, ?_, ?_, ?_, ?_, fun y y0 y1 => ?_⟩, ?_, iS_fr s (fun y => u2a (by omega)) (fun y => u2a (by omega)) (u2a (by omega)) (u2a (by omega)) (fun y => u2a (by decide)) (u2a (by decide)) (u2a (by decide)), iT_fr t (fun y => u2a (by omega)) (u2a (by omega)) (fun y => u2a (by decide)) (u2a (by decide)), iW_fr w (fun y => u2a (by omega)) (u2a (by omega)) (fun y => u2a (by decide)) (u2a (by decide)), iK_fr k (fun b y q1 q2 => u2a (by omega)) (u2a (by omega)) (u2a (by omega)) (fun y => u2a (by decide)) (u2a (by decide)) (u2a (by decide)) eM, iE_fr x (u2a (by omega)) (u2a (by decide))⟩
  · rw [u2a (by omega), u2a (by decide)]; exact a4
  · rw [u2a (by omega), u2a (by decide)]; exact a5
  · rw [u2a (by omega), u2a (by decide)]; exact a6
  · rw [u2a (by omega), u2a (by decide)]; exact a7
  · rw [u2a (by decide), er]; exact pv_fr a1' v.2.2.1 (fun a x q => u2a (by omega)) a8
  · rw [u2a (b := 1000) (by decide)]
    by_cases ey : y = a
    · subst ey; rw [u2e, u2e]; exact ⟨rfl, b0, b1⟩
    · rw [u2x ey, u2x ey]; exact a9 y y0 y1
  · unfold vP at v ⊢
    rw [er, eM, u2a (by decide), u2a (by decide), u2a (by decide), u2a (by decide)]; exact v
theorem k_value {a : Int} {Q : Int → cI → cR → Prop} {Qx : Nat → cI → cR → Prop} (h : INV I R J) (a0 : 0 ≤ a) (a1 : a < vM J) (hQ : Q (J 1020 a) I R) : wX11_value a I R Q Qx := by
  have hb := vM_b h.2.1
  refine c_reqCell h (fun c => ?_) (fun c => absurd ⟨a0, a1⟩ c)
  rw [(h.1.2.2.2.2.2.2.2.2 a a0 (by omega)).1]
  exact ⟨by omega, hQ⟩
theorem k_possible {a : Int} {Q : Int → cI → cR → Prop} {Qx : Nat → cI → cR → Prop} (h : INV I R J) (a0 : 0 ≤ a) (a1 : a < vM J) (hQ : Q (J 1030 a) I R) : wX11_possible a I R Q Qx := by
  have hb := vM_b h.2.1
  refine c_reqCell h (fun c => ?_) (fun c => absurd ⟨a0, a1⟩ c)
  rw [(h.2.2.1.1 a a0 (by omega)).1]
  exact ⟨by omega, hQ⟩
theorem k_solution {a b : Int} {Q : Int → cI → cR → Prop} {Qx : Nat → cI → cR → Prop} (h : INV I R J) (a0 : 0 ≤ a) (a1 : a < J 1000 28) (b0 : 0 ≤ b) (b1 : b < vM J) (hQ : Q (J 1029 (25 * a + b)) I R) : wX11_solution a b I R Q Qx := by
  have hb := vM_b h.2.1
  have k := h.2.2.2.2.2.1
  unfold wX11_solution wX11_solution_15
  rw [k.1]
  refine ⟨fun e => absurd a0 (by omega), fun e => ⟨fun e2 => c_reqCell h (fun c => ?_) (fun c => absurd ⟨b0, b1⟩ c), fun e2 => absurd a1 e2⟩⟩
  rw [k.2.2.2.2 a b a0 a1 b0 b1]
  have := k.2.2.1
  exact ⟨by omega, by omega, hQ⟩
theorem k_byteAt {a : Int} {Q : Int → cI → cR → Prop} {Qx : Nat → cI → cR → Prop} (h : INV I R J) (a0 : 0 ≤ a) (a1 : a < J 1000 10) (hQ : Q (J 1009 a) I R) : wX11_byteAt a I R Q Qx := by
  have w := h.2.2.2.2.1
  unfold wX11_byteAt wX11_byteAt_15
  rw [w.1]
  have := w.2.2.1
  exact ⟨fun e => absurd a0 (by omega), fun e => ⟨fun e2 => ⟨by omega, by rw [w.2.2.2 a a0 a1]; exact hQ⟩, fun e2 => absurd a1 e2⟩⟩
/-- the values of the grid, for a search -/
def gJ (J : cI) (c : Int) : Int := if 0 ≤ c ∧ c < vM J then J 1020 c else 0
noncomputable def dJ (a : Int) (J : cI) : Int × sT := dfs (sPr a (J 1000 13) (J 1000 14) (-1) (mr J 1015) (gJ J) (fun _ => 1)) (vM J).toNat 0 st0
theorem gJ_b (h : INV I R J) : ∀ c, 0 ≤ gJ J c ∧ gJ J c ≤ J 1000 13 := fun c => by
  have hb := vM_b h.2.1
  have hk := INV_k h
  unfold gJ
  by_cases q : 0 ≤ c ∧ c < vM J
  · rw [if_pos q]; exact (h.1.2.2.2.2.2.2.2.2 c q.1 (by omega)).2
  · rw [if_neg q]; omega
theorem goJ {a : Int} (h : INV I R J) (hw : J 1000 11 ≠ 0) (a0 : 1 ≤ a) (a1 : a ≤ 30) : goP (sPr a (J 1000 13) (J 1000 14) (-1) (mr J 1015) (gJ J) (fun _ => 1)) := by
  have hs := h.2.1.1
  exact ⟨a0, a1, by show 1 ≤ J 1000 13; omega, by show J 1000 13 ≤ 5; omega, fun c _ _ => gJ_b h c, fun c _ _ => ⟨by show (1 : Int) ≤ 1; omega, by show (1 : Int) ≤ J 1000 13; omega⟩⟩
theorem k_search {a : Int} {Q : Int → cI → cR → Prop} {Qx : Nat → cI → cR → Prop} (h : INV I R J) (hw : J 1000 11 ≠ 0) (a0 : 1 ≤ a) (a1 : a ≤ 30)
    (hQ : ∀ I' J', INV I' R J' → (∀ b x, b ≠ 1029 → ¬ (b = 1000 ∧ (x = 27 ∨ x = 28)) → J' b x = J b x) → J' 1000 28 = fnd (dJ a J) → (∀ i c, 0 ≤ i → i < fnd (dJ a J) → 0 ≤ c → c < 25 → J' 1029 (25 * i + c) = (dJ a J).2.2.2.2 i c) → Q (rsl (dJ a J)) I' R) : wX11_search a I R Q Qx := by
  have hb := vM_b h.2.1
  have hg9 := h.1.2.2.2.2.2.2.2.2
  have goP0 := goJ h hw a0 a1
  have hfb := fnd_b goP0 (M := (vM J).toNat) (by omega)
  unfold wX11_search wX11_search_11
  refine ⟨fun e => absurd a0 (by omega), fun e => ⟨fun e2 => c_reqPuzzle h (fun _ => ?_) (fun q => absurd q hw), fun e2 => absurd a1 e2⟩⟩
  have hB := INV_pB h hw
  refine c_find (g := gJ J) (Or.inl rfl) hB ⟨a0, a1⟩ (fun c c0 c1 => by unfold gJ; rw [if_pos ⟨c0, c1⟩]; exact (hg9 c c0 (by omega)).1) (fun c c0 => if_neg (by omega)) (gJ_b h) (fun I' f k1 k2 k3 => ?_)
  obtain ⟨J', j1, j28, j27, jsol⟩ : ∃ J' : cI, (∀ b x, b ≠ 1029 → ¬ (b = 1000 ∧ (x = 27 ∨ x = 28)) → J' b x = J b x) ∧ J' 1000 28 = fnd (dJ a J) ∧ J' 1000 27 = (dJ a J).2.2.1 ∧ (∀ i c, 0 ≤ c → c < 25 → J' 1029 (25 * i + c) = (dJ a J).2.2.2.2 i c) := by
    refine ⟨fun b x => if b = 1029 then (dJ a J).2.2.2.2 (x / 25) (x % 25) else if b = 1000 ∧ x = 28 then fnd (dJ a J) else if b = 1000 ∧ x = 27 then (dJ a J).2.2.1 else J b x, fun b x q1 q2 => ?_, ?_, ?_, fun i c c0 c1 => ?_⟩
    · dsimp only; rw [if_neg q1, if_neg (by omega), if_neg (by omega)]
    · dsimp only; rw [if_neg (by decide), if_pos ⟨rfl, rfl⟩]
    · dsimp only; rw [if_neg (by decide), if_neg (by omega), if_pos ⟨rfl, rfl⟩]
    · dsimp only; rw [if_pos rfl, show (25 * i + c) / 25 = i by omega, show (25 * i + c) % 25 = c by omega]
  refine hQ I' J' ?_ j1 j28 (fun i c _ _ c0 c1 => jsol i c c0 c1)
  obtain ⟨p, v, s, t, w, k, x⟩ := h
  have j : smP J J' := ⟨fun b y q1 q2 => j1 _ _ (by omega) (by omega), j1 _ _ (by omega) (by omega), j1 _ _ (by omega) (by omega), j1 _ _ (by omega) (by omega), j1 _ _ (by omega) (by omega)⟩
  refine ⟨iP_fr p v (fun b y q => f _ _ (by omega)) j, vP_fr v j,
    iS_fr s (fun y => f _ _ (by omega)) (fun y => f _ _ (by omega)) (f _ _ (by omega)) (f _ _ (by omega)) (fun y => j1 _ _ (by omega) (by omega)) (j1 _ _ (by omega) (by omega)) (j1 _ _ (by omega) (by omega)),
    iT_fr t (fun y => f _ _ (by omega)) (f _ _ (by omega)) (fun y => j1 _ _ (by omega) (by omega)) (j1 _ _ (by omega) (by omega)),
    iW_fr w (fun y => f _ _ (by omega)) (f _ _ (by omega)) (fun y => j1 _ _ (by omega) (by omega)) (j1 _ _ (by omega) (by omega)), ?_,
    iE_fr x (f _ _ (by omega)) (j1 _ _ (by omega) (by omega))⟩
  have ha : (sPr a (J 1000 13) (J 1000 14) (-1) (mr J 1015) (gJ J) fun _ => 1).1 = a := rfl
  have hfb2 := hfb.2.1
  have hfb1 := hfb.1
  refine ⟨by rw [k1, j28]; rfl, by rw [j28]; exact hfb1, by rw [j28]; unfold dJ; omega, by rw [k2, j27]; rfl, fun i c i0 i1 c0 c1 => ?_⟩
  rw [j28] at i1
  rw [smP_M j] at c1
  rw [show 15 + i.toNat = 10 + 5 + i.toNat by omega, k3 i c i0 i1 c0 (by omega), jsol i c c0 (by omega)]
  rfl
theorem k_digest {Q : Int → cI → cR → Prop} (h : INV I R J) (hQ : Q (d6 J (d5 J (d4 J (d3 J (d2 J (d1 J 457)))))) I R) : wX11_digest I R Q := c_dig h hQ
theorem k_hint {a : Int} {Q : Int → cI → cR → Prop} {Qx : Nat → cI → cR → Prop} (h : INV I R J) (a0 : 0 ≤ a) (a1 : a ≤ 3) (hQ : ∀ z I', INV I' R J → Q z I' R) : wX11_hint a I R Q Qx := by
  have hk := INV_k h
  have gp0 := INV_gp h
  have hn := h.2.1.2
  have inv : ∀ I', fF I I' → INV I' R J := fun I' f => INV_I h (fun b x q => f.1 b x (fun w => q (by unfold iN; omega))) f.2
  unfold wX11_hint wX11_hint_9
  refine ⟨fun e => absurd a0 (by omega), fun e => ⟨fun e2 => ?_, fun e2 => absurd a1 e2⟩⟩
  refine c_first (n := J 1000 14) (h := J 1000 13) (S := J 1030) h.1.1 hk h.1.2.2.2.2.2.1 h.1.2.2.2.2.2.2.1 h.1.2.2.2.2.2.2.2.1 gp0 ⟨hn.1, hn.2.1⟩ (fun c c0 c1 => (h.2.2.1.1 c c0 c1).1) h.2.2.1.2.1 (fun n3 I' f => ⟨fun w => absurd rfl w, fun _ => hQ _ _ (inv I' f)⟩) (fun i x w f3 I' f i3 i4 i5 i6 => ⟨fun _ => ?_, fun w => absurd w (by decide)⟩)
  exact ⟨fun _ => hQ _ _ (inv I' f), fun _ => hQ _ _ (inv I' f), fun _ => hQ _ _ (inv I' f), fun _ _ _ => hQ _ _ (inv I' f)⟩
theorem k_isNeeded {a : Int} {Q : Int → cI → cR → Prop} {Qx : Nat → cI → cR → Prop} (h : INV I R J) (hw : J 1000 11 ≠ 0) (a0 : 0 ≤ a) (a1 : a < J 1000 14) (hQ : ∀ z I', INV I' R J → Q z I' R) : wX11_isNeeded a I R Q Qx := by
  have hB := INV_pB h hw
  have inv : ∀ I', (∀ b x, (b < 45 ∨ 80 ≤ b) → I' b x = I b x) → INV I' R J := fun I' f => INV_I h (fun b x q => f b x (by unfold iN at q; omega)) (fun y y0 y1 => by rw [f 82 y (by omega)]; exact h.2.2.1.2.1 y y0 y1)
  refine c_reqRule h (fun c => ?_) (fun c => absurd ⟨a0, a1⟩ c)
  refine c_just (Or.inr rfl) hB (fun I2 f2 => ⟨fun w => hQ _ _ (inv _ (fun b x q => f2 b x (by omega))), fun w => ?_⟩)
  refine c_just (Or.inr rfl) (pB_fr hB (fun b x q => f2 b x (by omega))) (fun I3 f3 => ?_)
  have i3 := inv I3 (fun b x q => by rw [f3 b x (by omega)]; exact f2 b x (by omega))
  exact ⟨fun _ => hQ _ _ i3, fun _ => hQ _ _ i3⟩
theorem k_doubt {Q : UInt64 → cI → cR → Prop} (h : INV I R J) (hw : J 1000 11 ≠ 0) (hQ : Q (dQ (sF (fun c => bc (J 1030 c)) 0 (vM J)) (vM J * J 1000 13)) I R) : wX11_doubt I R Q := by
  have hb := vM_b h.2.1
  have hs := h.2.1.1
  have hk : 1 ≤ J 1000 13 ∧ J 1000 13 ≤ 5 := by omega
  have i0 := h.1.2.2.2.1
  have i1 := h.1.2.2.2.2.1
  have i2 := h.1.2.2.2.2.2.1
  have eM : vM J = J 1000 11 * J 1000 12 := rfl
  have hS := h.2.2.1.1
  have bS : ∀ c, 0 ≤ c → c < vM J → 0 ≤ J 1030 c ∧ J 1030 c < 32 := fun c c0 c1 => (hS c c0 (by omega)).2
  have sb := sF_b (f := fun c => bc (J 1030 c)) (n := vM J) (m := 5) (fun c c0 c1 => bc_b (bS c c0 c1).1 (bS c c0 c1).2) (by decide) 0 (Int.le_refl 0) hb.1
  have m4 := hb.2.2.2 hw
  have km1 := Int.mul_le_mul hb.2.1 hk.2 (by omega) (by decide)
  have km0 := Int.mul_le_mul (show (1 : Int) ≤ vM J by omega) hk.1 (by decide) hb.1
  unfold wX11_doubt wX4_cellCount
  dsimp only
  rw [i0, i1, i2, ← eM]
  refine ⟨by unfold inR; omega, by unfold inR; omega, fun c => absurd (show 1 ≤ vM J * J 1000 13 by omega) c, fun c => ?_⟩
  have e81 : sF (fun c => bc (I 81 c)) 0 (vM J) = sF (fun c => bc (J 1030 c)) 0 (vM J) := sF_cg 0 (fun c c0 c1 => by rw [(hS c c0 (by omega)).1])
  refine c_values (M := vM J) (by rw [i0, i1, eM]) hb.1 hb.2.1 (fun c c0 c1 => by rw [(hS c c0 (by omega)).1]; exact bS c c0 c1) ?_
  rw [e81]
  exact ⟨dQ_n sb.1 (by omega) c (by omega), hQ⟩
theorem k_look {Q : Int → cI → cR → Prop} (h : INV I R J) (hQ : ∀ I' J', INV I' R J' → (∀ b x, b ≠ 1030 → ¬ (b = 1000 ∧ (x = 31 ∨ x = 32)) → J' b x = J b x) → (∀ c, J' 1030 c = lkS (J 1030) (vM J) (J 1000 13) (J 1020) c) → Q (sF (fun c => bc (J' 1030 c)) 0 (vM J)) I' R) : wX11_look I R Q := by
  have hb := vM_b h.2.1
  have hk := INV_k h
  have hp : R 0 7 = 85 ∨ R 0 7 = 89 := h.1.1.1
  have hM := INV_M h
  have hg : ∀ c, 0 ≤ c → c < vM J → I (R 0 7 + 1) c = J 1020 c ∧ 0 ≤ J 1020 c ∧ J 1020 c ≤ J 1000 13 := fun c c0 c1 => h.1.2.2.2.2.2.2.2.2 c c0 (by omega)
  unfold wX11_look
  refine c_beginR (M := vM J) (k := J 1000 13) hp hM hb.1 hb.2.1 h.1.2.2.2.2.2.1 hk.1 hk.2 (fun c c0 c1 => by rw [(hg c c0 c1).1]; exact (hg c c0 c1).2) (fun I' f1 f2 f3 f4 => ?_)
  have e81 : ∀ c, 0 ≤ c → c < vM J → I' 81 c = lk (J 1000 13) (J 1020 c) := fun c c0 c1 => by rw [f4]; unfold lkS; rw [if_pos ⟨c0, c1⟩, (hg c c0 c1).1]
  refine c_values (M := vM J) (by rw [f1 _ 0 (by omega) (by omega), f1 _ 1 (by omega) (by omega)]; exact hM) hb.1 hb.2.1 (fun c c0 c1 => by rw [e81 c c0 c1]; exact lk_b hk.1 hk.2 (hg c c0 c1).2.1 (hg c c0 c1).2.2) ?_
  obtain ⟨J', k1, k2, k3, k4⟩ : ∃ J' : cI, (∀ b x, b ≠ 1030 → ¬ (b = 1000 ∧ (x = 31 ∨ x = 32)) → J' b x = J b x) ∧ J' 1000 31 = 0 ∧ J' 1000 32 = 0 ∧ (∀ c, J' 1030 c = lkS (J 1030) (vM J) (J 1000 13) (J 1020) c) := by
    refine ⟨fun b x => if b = 1030 then lkS (J 1030) (vM J) (J 1000 13) (J 1020) x else if b = 1000 ∧ (x = 31 ∨ x = 32) then 0 else J b x, fun b x q1 q2 => ?_, ?_, ?_, fun c => ?_⟩
    · dsimp only; rw [if_neg q1, if_neg q2]
    · dsimp only; rw [if_neg (by decide), if_pos (by omega)]
    · dsimp only; rw [if_neg (by decide), if_pos (by omega)]
    · dsimp only; rw [if_pos rfl]
  rw [sF_cg (f := fun c => bc (I' 81 c)) (g := fun c => bc (J' 1030 c)) 0 (fun c c0 c1 => by rw [e81 c c0 c1, k4]; unfold lkS; rw [if_pos ⟨c0, c1⟩])]
  refine hQ I' J' ?_ k1 k4
  obtain ⟨p, v, s, t, w, k, x⟩ := h
  have j : smP J J' := ⟨fun b y q1 q2 => k1 _ _ (by omega) (by omega), k1 _ _ (by omega) (by omega), k1 _ _ (by omega) (by omega), k1 _ _ (by omega) (by omega), k1 _ _ (by omega) (by omega)⟩
  exact ⟨iP_fr p v (fun b y q => f1 _ _ (by omega) (by omega)) j, vP_fr v j,
    iS_lk (g := I (R 0 7 + 1)) (g' := J 1020) s hk.1 hk.2 hb.2.1 (fun c c0 c1 => hg c c0 c1) f4 k4 (fun c => f1 _ _ (by omega) (by omega)) f2 f3 k2 k3,
    iT_fr t (fun y => f1 _ _ (by omega) (by omega)) (f1 _ _ (by omega) (by omega)) (fun y => k1 _ _ (by omega) (by omega)) (k1 _ _ (by omega) (by omega)),
    iW_fr w (fun y => f1 _ _ (by omega) (by omega)) (f1 _ _ (by omega) (by omega)) (fun y => k1 _ _ (by omega) (by omega)) (k1 _ _ (by omega) (by omega)),
    iK_fr k (fun b y q1 q2 => f1 _ _ (by omega) (by omega)) (f1 _ _ (by omega) (by omega)) (f1 _ _ (by omega) (by omega)) (fun y => k1 _ _ (by omega) (by omega)) (k1 _ _ (by omega) (by omega)) (k1 _ _ (by omega) (by omega)) (smP_M j),
    iE_fr x (f1 _ _ (by omega) (by omega)) (k1 _ _ (by omega) (by omega))⟩
theorem k_reason {Q : Int → cI → cR → Prop} (h : INV I R J) (hQ : ∀ I' J', INV I' R J' → (∀ b x, b ≠ 1030 → ¬ (b = 1000 ∧ (x = 31 ∨ x = 32)) → J' b x = J b x) → (∀ c, J' 1030 c = (rsn (mr J 1015) (J 1000 14) (J 1000 13) (J 1030)).1.1 c) → J' 1000 31 = (rsn (mr J 1015) (J 1000 14) (J 1000 13) (J 1030)).2 → Q (rsn (mr J 1015) (J 1000 14) (J 1000 13) (J 1030)).1.2.2 I' R) : wX11_reason I R Q := by
  have hk := INV_k h
  have hn := h.2.1.2
  have gp0 := INV_gp h
  refine c_reason (n := J 1000 14) (h := J 1000 13) (S := J 1030) h.1.1 hk h.1.2.2.2.2.2.1 h.1.2.2.2.2.2.2.1 h.1.2.2.2.2.2.2.2.1 gp0 ⟨hn.1, hn.2.1⟩ (fun c c0 c1 => (h.2.2.1.1 c c0 c1).1) (fun c c0 c1 => (h.2.2.1.1 c c0 c1).2) h.2.2.1.2.1 (fun I' f rv1 i1 => ?_)
  generalize hD : rsn (mr J 1015) (J 1000 14) (J 1000 13) (J 1030) = D at *
  obtain ⟨J', k1, k2, k3, k4⟩ : ∃ J' : cI, (∀ b x, b ≠ 1030 → ¬ (b = 1000 ∧ (x = 31 ∨ x = 32)) → J' b x = J b x) ∧ J' 1000 31 = D.2 ∧ J' 1000 32 = D.1.2.1 ∧ (∀ c, J' 1030 c = D.1.1 c) := by
    refine ⟨fun b x => if b = 1030 then D.1.1 x else if b = 1000 ∧ x = 31 then D.2 else if b = 1000 ∧ x = 32 then D.1.2.1 else J b x, fun b x q1 q2 => ?_, ?_, ?_, fun c => ?_⟩
    · dsimp only; rw [if_neg q1, if_neg (by omega), if_neg (by omega)]
    · dsimp only; rw [if_neg (by decide), if_pos ⟨rfl, rfl⟩]
    · dsimp only; rw [if_neg (by decide), if_neg (by omega), if_pos ⟨rfl, rfl⟩]
    · dsimp only; rw [if_pos rfl]
  refine hQ I' J' ?_ k1 k4 k2
  have hS2 := h.2.2.1.1
  obtain ⟨p, v, s, t, w, k, x⟩ := h
  have j : smP J J' := ⟨fun b y q1 q2 => k1 _ _ (by omega) (by omega), k1 _ _ (by omega) (by omega), k1 _ _ (by omega) (by omega), k1 _ _ (by omega) (by omega), k1 _ _ (by omega) (by omega)⟩
  refine ⟨iP_fr p v (fun b y q => f _ _ (by omega)) j, vP_fr v j, ⟨fun c c0 c1 => ?_, rv1.2.2, by rw [i1, k2], by rw [rv1.2.1, k3]⟩,
    iT_fr t (fun y => f _ _ (by omega)) (f _ _ (by omega)) (fun y => k1 _ _ (by omega) (by omega)) (k1 _ _ (by omega) (by omega)),
    iW_fr w (fun y => f _ _ (by omega)) (f _ _ (by omega)) (fun y => k1 _ _ (by omega) (by omega)) (k1 _ _ (by omega) (by omega)),
    iK_fr k (fun b y q1 q2 => f _ _ (by omega)) (f _ _ (by omega)) (f _ _ (by omega)) (fun y => k1 _ _ (by omega) (by omega)) (k1 _ _ (by omega) (by omega)) (k1 _ _ (by omega) (by omega)) (smP_M j),
    iE_fr x (f _ _ (by omega)) (k1 _ _ (by omega) (by omega))⟩
  rw [rv1.1 c c0 c1, k4 c]
  have ok := rsn_ok (ρ := mr J 1015) (n := J 1000 14) (h := J 1000 13) (S := J 1030) gp0 hn.1 hk (fun c c0 c1 => (hS2 c c0 c1).2)
  rw [hD] at ok
  exact ⟨rfl, ok.1 c c0 c1⟩
end KST
