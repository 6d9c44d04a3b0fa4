/-! ===== the calls that change the puzzle, the class alone ===== -/
/-- other rules -/
def jR (J : cI) (ρ : Int → Int → Int) : cI := fun b x => if b = 1015 then ρ x 0 else if b = 1016 then ρ x 1 else if b = 1017 then ρ x 2 else if b = 1018 then ρ x 3 else if b = 1019 then ρ (x / 5) (4 + x % 5) else J b x
theorem jR_o {J : cI} {ρ : Int → Int → Int} {b : Nat} {x : Int} (q : b < 1015 ∨ 1019 < b) : jR J ρ b x = J b x := by
  unfold jR
  rw [if_neg (by omega), if_neg (by omega), if_neg (by omega), if_neg (by omega), if_neg (by omega)]
theorem jR_e {J : cI} {ρ : Int → Int → Int} {i : Int} : e9 (mr (jR J ρ) 1015 i) (ρ i) := fun k k0 k1 _ => by
  have : k = 0 ∨ k = 1 ∨ k = 2 ∨ k = 3 ∨ 4 ≤ k := by omega
  rcases this with rfl | rfl | rfl | rfl | k4
  · rw [mr0]; rfl
  · rw [mr1]; rfl
  · rw [mr2]; rfl
  · rw [mr3]; rfl
  · have e := mr4 (J := jR J ρ) (b := 1015) (i := i) (t := k - 4) (by omega)
    rw [show 4 + (k - 4) = k by omega] at e
    rw [e]
    show ρ ((5 * i + (k - 4)) / 5) (4 + (5 * i + (k - 4)) % 5) = ρ i k
    rw [show (5 * i + (k - 4)) / 5 = i by omega, show 4 + (5 * i + (k - 4)) % 5 = k by omega]
/-- another puzzle -/
def jG (J : cI) (w h k n : Int) (ρ : Int → Int → Int) (g : Int → Int) : cI := fun b x => if b = 1020 then g x else if b = 1000 then (if x = 11 then w else if x = 12 then h else if x = 13 then k else if x = 14 then n else J 1000 x) else jR J ρ b x
section JG
variable {J : cI} {w h k n : Int} {ρ : Int → Int → Int} {g : Int → Int}
theorem jG_11 : jG J w h k n ρ g 1000 11 = w := rfl
theorem jG_12 : jG J w h k n ρ g 1000 12 = h := rfl
theorem jG_13 : jG J w h k n ρ g 1000 13 = k := rfl
theorem jG_14 : jG J w h k n ρ g 1000 14 = n := rfl
theorem jG_20 : jG J w h k n ρ g 1020 = g := rfl
theorem jG_x {x : Int} (q : x < 11 ∨ 14 < x) : jG J w h k n ρ g 1000 x = J 1000 x := by
  show (if x = 11 then w else if x = 12 then h else if x = 13 then k else if x = 14 then n else J 1000 x) = J 1000 x
  rw [if_neg (by omega), if_neg (by omega), if_neg (by omega), if_neg (by omega)]
theorem jG_o {b : Nat} {x : Int} (q : b ≠ 1000) (q2 : b < 1015 ∨ 1020 < b) : jG J w h k n ρ g b x = J b x := by
  unfold jG
  rw [if_neg (by omega), if_neg q, jR_o (by omega)]
theorem jG_e {i : Int} : e9 (mr (jG J w h k n ρ g) 1015 i) (ρ i) := by
  have e : mr (jG J w h k n ρ g) 1015 = mr (jR J ρ) 1015 := mr_fr (fun a x q1 q2 => by unfold jG; rw [if_neg (by omega), if_neg (by omega)])
  rw [e]; exact jR_e
end JG
/-- the draft has become the puzzle -/
def jT (J : cI) : cI := fun b x => if b = 1030 then lkS (J 1030) (vM J) (J 1000 13) (J 1020) x else if b = 1000 ∧ (x = 28 ∨ x = 31 ∨ x = 32) then 0 else J b x
theorem jT_o {J : cI} {b : Nat} {x : Int} (q1 : b ≠ 1030) (q2 : ¬ (b = 1000 ∧ (x = 28 ∨ x = 31 ∨ x = 32))) : jT J b x = J b x := by
  unfold jT; rw [if_neg q1, if_neg q2]
theorem jT_mr {J : cI} : mr (jT J) 1015 = mr J 1015 := mr_fr (fun b x q1 q2 => jT_o (by omega) (by omega))
section TK
variable {I I' : cI} {R : cR} {J : cI}
theorem take_j (h : iP I (sw R) J) (hv : vP J) (hs : iS I J) (ht : iT I J) (hw : iW I J) (h27 : I 10 2 = J 1000 27) (he : iE I J)
    (f1 : ∀ a x, a ≠ 81 → ¬ (a = 80 ∧ (x = 1 ∨ x = 2)) → ¬ (a = 10 ∧ x = 1) → I' a x = I a x) (f2 : I' 80 1 = 0) (f3 : I' 80 2 = 0) (f4 : I' 10 1 = 0) (f5 : ∀ c, I' 81 c = lkS (I 81) (vM J) (J 1000 13) (I (R 0 8 + 1)) c) : INV I' (sw R) (jT J) := by
  refine take_inv (J' := jT J) (J2 := up2 J 1000 28 0) h hv hs ht hw h27 he f1 f2 f3 f4 f5 rfl (fun a x q1 q2 => ?_) (by unfold jT; rw [if_neg (by decide), if_pos (by omega)]) (by unfold jT; rw [if_neg (by decide), if_pos (by omega)]) (fun c => ?_)
  · by_cases q3 : a = 1000 ∧ x = 28
    · rw [q3.1, q3.2, u2e]; unfold jT; rw [if_neg (by decide), if_pos (by omega)]
    · rw [u2n q3, jT_o q1 (by omega)]
  · have e1 : vM (up2 J 1000 28 0) = vM J := by unfold vM; rw [u2x (by decide), u2x (by decide)]
    have e2 : up2 J 1000 28 0 1030 = J 1030 := funext fun y => u2a (by decide)
    have e3 : up2 J 1000 28 0 1020 = J 1020 := funext fun y => u2a (by decide)
    rw [e1, e2, e3, u2x (by decide)]
    unfold jT; rw [if_pos rfl]
end TK
section KST2
variable {I : cI} {R : cR} {J : cI}
theorem k_drop {a : Int} {Q : Int → cI → cR → Prop} {Qx : Nat → cI → cR → Prop} (h : INV I R J) (a0 : 0 ≤ a) (a1 : a < J 1000 14)
    (hQ : ∀ z I' R', INV I' R' (up2 (jR J (dr a (mr J 1015))) 1000 14 (J 1000 14 - 1)) → Q z I' R') : wX11_drop a I R Q Qx := by
  have h0 := h
  have hb := vM_b h.2.1
  have hp : R 0 7 = 85 ∨ R 0 7 = 89 := h.1.1.1
  have hp2 : R 0 8 = 85 ∨ R 0 8 = 89 := h.1.2.1.1
  have hne := h.1.2.2.1
  have h65 := h.2.1.2
  refine c_reqRule h (fun c => ?_) (fun c => absurd ⟨a0, a1⟩ c)
  refine c_remove h.1.1 c.1 c.2 h65.2.1 h.1.2.2.2.2.2.2.1 h.1.2.2.2.2.2.2.2.1 (fun I' R' g1 g2 g3 g4 g5 => ?_)
  refine hQ _ _ _ ?_
  have gd0 : gp (vM J) (J 1000 14 - 1) (dr a (mr J 1015)) := dr_gp c.1 h65.2.2.1
  obtain ⟨J', eJ'⟩ : ∃ J' : cI, J' = up2 (jR J (dr a (mr J 1015))) 1000 14 (J 1000 14 - 1) := ⟨_, rfl⟩
  rw [← eJ']
  have k2 : J' 1000 14 = J 1000 14 - 1 := by rw [eJ']; exact u2e
  have k1 : ∀ b x, ¬ (1015 ≤ b ∧ b ≤ 1019) → ¬ (b = 1000 ∧ x = 14) → J' b x = J b x := fun b x q1 q2 => by rw [eJ', u2n q2, jR_o (by omega)]
  have k3 : ∀ i, 0 ≤ i → i < J 1000 14 - 1 → e9 (mr J' 1015 i) (dr a (mr J 1015) i) := fun i _ _ => by
    have e : mr J' 1015 = mr (jR J (dr a (mr J 1015))) 1015 := mr_fr (fun b x q1 q2 => by rw [eJ', u2a (by omega)])
    rw [e]; exact jR_e
  obtain ⟨p, v, s, t, w, k, x⟩ := h0
  have eM : vM J' = vM J := by unfold vM; rw [k1 _ 11 (by omega) (by omega), k1 _ 12 (by omega) (by omega)]
  refine ⟨iP_r p g1 ⟨h.1.2.1.1, fun j j0 j1 => by rw [g2 _ _ (by omega)]; exact h.1.2.1.2.1 j j0 j1, fun i j i0 i1 j0 j1 => by rw [g2 _ _ (by omega), g2 _ _ (by omega)]; exact h.1.2.1.2.2 i j i0 i1 j0 j1⟩ (g2 _ _ (by omega)) (g2 _ _ (by omega)) (fun b y q1 q2 => g3 _ _ q2) g4 k2 g5 gd0 k3 (k1 _ _ (by omega) (by omega)) (k1 _ _ (by omega) (by omega)) (k1 _ _ (by omega) (by omega)) (fun y => k1 _ _ (by omega) (by omega)), ?_,
    iS_fr s (fun y => g3 _ _ (by omega)) (fun y => g3 _ _ (by omega)) (g3 _ _ (by omega)) (g3 _ _ (by omega)) (fun y => k1 _ _ (by omega) (by omega)) (k1 _ _ (by omega) (by omega)) (k1 _ _ (by omega) (by omega)),
    iT_fr t (fun y => g3 _ _ (by omega)) (g3 _ _ (by omega)) (fun y => k1 _ _ (by omega) (by omega)) (k1 _ _ (by omega) (by omega)),
    iW_fr w (fun y => g3 _ _ (by omega)) (g3 _ _ (by omega)) (fun y => k1 _ _ (by omega) (by omega)) (k1 _ _ (by omega) (by omega)),
    iK_fr k (fun b y q1 q2 => g3 _ _ (by omega)) (g3 _ _ (by omega)) (g3 _ _ (by omega)) (fun y => k1 _ _ (by omega) (by omega)) (k1 _ _ (by omega) (by omega)) (k1 _ _ (by omega) (by omega)) eM,
    iE_fr x (g3 _ _ (by omega)) (k1 _ _ (by omega) (by omega))⟩
  have v' := h.2.1
  unfold vP at v' ⊢
  rw [k2, eM, k1 _ 11 (by omega) (by omega), k1 _ 12 (by omega) (by omega), k1 _ 13 (by omega) (by omega)]
  refine ⟨?_, by omega, by omega, gp_e (fun i i0 i1 => e9_s (k3 i i0 i1)) gd0, ?_⟩
  · have q := v'.1
    omega
  · have e := cF_dr (p := fun σ => ¬ σ 0 = 9) (ρ := mr J 1015) c.1 c.2
    rw [cF_cg (p := fun i => ¬ mr J' 1015 i 0 = 9) (q := fun i => ¬ dr a (mr J 1015) i 0 = 9) (fun i i0 i1 => by rw [k3 i i0 i1 0 (by decide) (by decide) (Or.inl (by decide))])]
    have := b2_or (¬ mr J 1015 a 0 = 9)
    have v5 := v'.2.2.2.2
    omega
/-- the paper is written -/
def jW (J : cI) (T : pT) : cI := fun b x => if b = 1009 then T.2 x else if b = 1000 ∧ x = 10 then T.1 else J b x
theorem jW_o {T : pT} {b : Nat} {x : Int} (q1 : b ≠ 1009) (q2 : ¬ (b = 1000 ∧ x = 10)) : jW J T b x = J b x := by unfold jW; rw [if_neg q1, if_neg q2]
theorem adH_l {w h k : Int} (w0 : 0 ≤ w ∧ w < 10) (h0 : 0 ≤ h ∧ h < 10) (k0 : 0 ≤ k ∧ k < 10) : (adH w h k).1 = 11 := by
  have lW := adW_l (s := ((0, fun _ => 0) : pT)) (i := 14) (by decide)
  rw [show txN 14 = 4 by decide] at lW
  have lw' : (adW 14 ((0, fun _ => 0) : pT)).1 = 4 := lW
  have x1 := adX_1 (v := w) (s := adW 14 ((0, fun _ => 0) : pT)) (by omega)
  have x2 := adX_1 (v := h) (s := adX w (adW 14 ((0, fun _ => 0) : pT))) (by omega)
  have x3 := adX_1 (v := k) (s := adX h (adX w (adW 14 ((0, fun _ => 0) : pT)))) (by omega)
  unfold adH; rw [ad_l]; omega
theorem k_write {Q : Int → cI → cR → Prop} {Qx : Nat → cI → cR → Prop} (h : INV I R J) (hw : J 1000 11 ≠ 0)
    (hQ : ∀ T I', T = adS (mr J 1015) (J 1000 11) (J 1000 14).toNat 0 (adH (J 1000 11) (J 1000 12) (J 1000 13)) → INV I' R (jW J T) → Q T.1 I' R) : wX11_write I R Q Qx := by
  have h0 := h
  have hb := vM_b h.2.1
  have hs := h.2.1.1
  have hn := h.2.1.2
  refine c_reqPuzzle h (fun hw => ?_) (fun q => absurd q hw)
  have hB := INV_pB h hw
  refine c_show (w := J 1000 11) (hh := J 1000 12) hB h.1.2.2.2.1 h.1.2.2.2.2.1 (by omega) (by omega) (by omega) (by omega) (fun I' v => ?_)
  have lS := adS_l (w := J 1000 11) h.2.1.2.2.2.1 (J 1000 14).toNat 0 (adH (J 1000 11) (J 1000 12) (J 1000 13)) (Int.le_refl 0) (by have := hn.1; omega)
  have lH2 := adH_l (w := J 1000 11) (h := J 1000 12) (k := J 1000 13) (by omega) (by omega) (by omega)
  have n1 := hn.2.1
  rw [v.1]
  refine hQ _ I' rfl ?_
  generalize hT : adS (mr J 1015) (J 1000 11) (J 1000 14).toNat 0 (adH (J 1000 11) (J 1000 12) (J 1000 13)) = T at *
  obtain ⟨p, vp, s, t, w, k, x⟩ := h0
  have f := v.2.2.1
  have g : ∀ b x, b ≠ 1009 → ¬ (b = 1000 ∧ x = 10) → jW J T b x = J b x := fun b x => jW_o
  have j : smP J (jW J T) := ⟨fun b y q1 q2 => g _ _ (by omega) (by omega), g _ _ (by omega) (by omega), g _ _ (by omega) (by omega), g _ _ (by omega) (by omega), g _ _ (by omega) (by omega)⟩
  have u1 : jW J T 1000 10 = T.1 := rfl
  have u2 : ∀ y, jW J T 1009 y = T.2 y := fun y => rfl
  exact ⟨iP_fr p vp (fun b y q => f _ _ (by omega) (by omega)) j, vP_fr vp j,
    iS_fr s (fun y => f _ _ (by omega) (by omega)) (fun y => f _ _ (by omega) (by omega)) (f _ _ (by omega) (by omega)) (f _ _ (by omega) (by omega)) (fun y => g _ _ (by omega) (by omega)) (g _ _ (by omega) (by omega)) (g _ _ (by omega) (by omega)),
    iT_fr t (fun y => f _ _ (by omega) (by omega)) (f _ _ (by omega) (by omega)) (fun y => g _ _ (by omega) (by omega)) (g _ _ (by omega) (by omega)),
    ⟨by rw [v.1, u1], by rw [u1]; omega, by rw [u1]; omega, fun y y0 y1 => by rw [u1] at y1; rw [v.2.1 y y0 y1, u2 y]⟩,
    iK_fr k (fun b y z1 z2 => f _ _ (by omega) (by omega)) (f _ _ (by omega) (by omega)) (f _ _ (by omega) (by omega)) (fun y => g _ _ (by omega) (by omega)) (g _ _ (by omega) (by omega)) (g _ _ (by omega) (by omega)) (smP_M j),
    iE_fr x (f _ _ (by omega) (by omega)) (g _ _ (by omega) (by omega))⟩
theorem k_compile {Q : Int → cI → cR → Prop} (h : INV I R J) (c0 : (cmp (kOf (J 1001) (J 1000 2))).1 = 0)
    (hQ : ∀ k I' R', k = kOf (J 1001) (J 1000 2) → INV I' R' (up2 (jT (jG (up2 J 1000 3 (-1)) (kV' k 1) (kV' k 2) (kV' k 3) (cmp k).2.2.1 (cmp k).2.2.2 (fun _ => 0))) 1000 2 0) → Q 0 I' R') : wX11_compile I R Q := by
  obtain ⟨p, v, s, t, w, kk, x⟩ := h
  have hc : cTp I (J 1001) (J 1000 2) := ⟨t.1, t.2.1, t.2.2.1, fun y y0 y1 => t.2.2.2 y y0 y1⟩
  have o := okK_of (T := J 1001) t.2.1 t.2.2.1
  obtain ⟨oa, op, hne, p0, p1, p2, p5, hv, hg⟩ := p
  unfold wX11_compile
  have hcr := fun (Q : Int → cI → cR → Prop) q1 q0 => c_readInto (Q := Q) hc (fun I' n c => cKV_of n c) o op oa (Ne.symm hne) v.2.2.1 hv q1 q0
  have hQ' := hQ (kOf (J 1001) (J 1000 2))
  generalize kOf (J 1001) (J 1000 2) = k at *
  refine hcr _ (fun _ I' R' d a' r0 va fr e30 e31 => ⟨fun z => absurd z (by decide), fun _ => ?_⟩) (fun c1 => absurd c0 c1)
  have sz := cmp_0 o c0
  obtain ⟨-, ⟨w2, h2, k2⟩, n0, n40, hgp⟩ := sz
  have r08 : R' 0 8 = R 0 8 := congrFun r0 8
  have r07 : R' 0 7 = R 0 7 := congrFun r0 7
  have hb1 := Int.mul_le_mul w2.2 h2.2 (by omega) (by decide)
  have hb2 := Int.mul_le_mul w2.1 h2.1 (by decide) (by omega)
  have ip := op.1
  unfold isP at ip
  refine c_take (M := kV' k 1 * kV' k 2) (k := kV' k 3) (by rw [r08]; exact op.1) (by rw [r08, d.2.1, d.2.2.1]) (by omega) (by omega) (by rw [r08]; exact d.2.2.2.1) (by omega) k2.2 (fun c c0' c1 => by rw [r08, d.2.2.2.2.2.2 c c0' (by omega)]; omega) (fun I7 z1 z2 z3 z4 z5 => ?_)
  unfold wX11_compile_22
  intro I8 e8
  have e83 : I8 3 0 = 0 := by rw [e8, u2a (by decide), z1 _ _ (by decide) (by omega) (by omega)]; exact e30
  rw [e83]
  refine hQ' I8 (sw R') rfl ?_
  obtain ⟨J2, eJ2⟩ : ∃ J2 : cI, J2 = jG (up2 J 1000 3 (-1)) (kV' k 1) (kV' k 2) (kV' k 3) (cmp k).2.2.1 (cmp k).2.2.2 (fun _ => 0) := ⟨_, rfl⟩
  rw [← eJ2]
  have y11 : J2 1000 11 = kV' k 1 := by rw [eJ2]; rfl
  have y12 : J2 1000 12 = kV' k 2 := by rw [eJ2]; rfl
  have y13 : J2 1000 13 = kV' k 3 := by rw [eJ2]; rfl
  have y14 : J2 1000 14 = (cmp k).2.2.1 := by rw [eJ2]; rfl
  have y3 : J2 1000 3 = -1 := by rw [eJ2, jG_x (by decide), u2e]
  have yg : ∀ c, J2 1020 c = 0 := fun c => by rw [eJ2]; rfl
  have yr : ∀ i, 0 ≤ i → i < (cmp k).2.2.1 → e9 (mr J2 1015 i) ((cmp k).2.2.2 i) := fun i _ _ => by rw [eJ2]; exact jG_e
  have eM2 : vM J2 = kV' k 1 * kV' k 2 := by unfold vM; rw [y11, y12]
  have ip2 : iP I' (sw R') J2 := by
    unfold iP
    rw [sw_7, sw_8, r08, r07, y11, y12, y13, y14]
    have op' : okp R' (R 0 8) := d.1
    refine ⟨okp_sw op', okp_sw a', Ne.symm hne, d.2.1, d.2.2.1, d.2.2.2.1, d.2.2.2.2.1, pv_sw op' (by omega) (pv_e hgp (fun i i0 i1 => e9_s (yr i i0 i1)) d.2.2.2.2.2.1), fun c c0' c1 => ?_⟩
    rw [d.2.2.2.2.2.2 c c0' c1, yg c]
    exact ⟨rfl, Int.le_refl 0, by omega⟩
  have vp2 : vP J2 := by
    unfold vP
    rw [y11, y12, y13, y14, eM2]
    refine ⟨Or.inr (by omega), by omega, by omega, gp_e (fun i i0 i1 => e9_s (yr i i0 i1)) hgp, ?_⟩
    have := (cF_b (p := fun i => ¬ mr J2 1015 i 0 = 9) (n := (cmp k).2.2.1) 0 n0).2
    omega
  have F : ∀ b y, b < 3 ∨ (8 ≤ b ∧ b < 85) → I' b y = I b y := fun b y q => fr b y (by omega)
  have G : ∀ y, y ≠ 3 → ¬ (11 ≤ y ∧ y ≤ 14) → J2 1000 y = J 1000 y := fun y q1 q2 => by rw [eJ2, jG_x (by omega), u2x q1]
  have G2 : ∀ b y, b ≠ 1000 → (b < 1015 ∨ 1020 < b) → J2 b y = J b y := fun b y q1 q2 => by rw [eJ2, jG_o q1 q2, u2a q1]
  have Inv := take_j (I := I') (R := R') (I' := I7) ip2 vp2 (iS_fr s (fun y => F _ _ (by omega)) (fun y => F _ _ (by omega)) (F _ _ (by omega)) (F _ _ (by omega)) (fun y => G2 _ _ (by omega) (by omega)) (G _ (by omega) (by omega)) (G _ (by omega) (by omega)))
    (iT_fr t (fun y => F _ _ (by omega)) (F _ _ (by omega)) (fun y => G2 _ _ (by omega) (by omega)) (G _ (by omega) (by omega)))
    (iW_fr w (fun y => F _ _ (by omega)) (F _ _ (by omega)) (fun y => G2 _ _ (by omega) (by omega)) (G _ (by omega) (by omega)))
    (by rw [F _ _ (by omega), G _ (by omega) (by omega)]; exact kk.2.2.2.1) (by unfold iE; rw [e31, y3])
    z1 z2 z3 z4 (by rw [eM2, y13]; exact z5)
  rw [e8]
  exact INV_tape Inv
end KST2
