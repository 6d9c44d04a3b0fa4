/-! ===== make: the class ===== -/
def fiS (M k s : Int) : Int → Int := fun c => if 0 ≤ c ∧ c < M then 1 + (dit s (c.toNat + 1) / 16) % k else 1
theorem fiS_b {M k s : Int} (k1 : 1 ≤ k) (c : Int) : 1 ≤ fiS M k s c ∧ fiS M k s c ≤ k := by
  unfold fiS
  have m0 := Int.emod_nonneg (dit s (c.toNat + 1) / 16) (show k ≠ 0 by omega)
  have m1 := Int.emod_lt_of_pos (dit s (c.toNat + 1) / 16) (show 0 < k by omega)
  split <;> omega
noncomputable def mkD (M k s nf : Int) (σ : Int → Int → Int) : Int × sT := dfs (sPr 1 k nf (-1) σ (fun _ => 0) (fiS M k s)) M.toNat 0 st0
theorem mkD_go {M k s nf : Int} {σ : Int → Int → Int} (k1 : 1 ≤ k) (k5 : k ≤ 5) : goP (sPr 1 k nf (-1) σ (fun _ => 0) (fiS M k s)) :=
  ⟨Int.le_refl 1, by show (1 : Int) ≤ 30; decide, k1, k5, fun c _ _ => ⟨Int.le_refl 0, by show (0 : Int) ≤ k; omega⟩, fun c _ _ => fiS_b k1 c⟩
theorem mkD_s {M k s nf : Int} {σ : Int → Int → Int} (k1 : 1 ≤ k) (k5 : k ≤ 5) (M1 : M ≤ 25) (h : fnd (mkD M k s nf σ) = 1) (c : Int) (c0 : 0 ≤ c) (c1 : c < 25) : 0 ≤ (mkD M k s nf σ).2.2.2.2 0 c ∧ (mkD M k s nf σ).2.2.2.2 0 c ≤ 5 := by
  have hk := dfs_k (mkD_go (M := M) (s := s) (nf := nf) (σ := σ) k1 k5) M.toNat 0 st0 (Int.le_refl 0) (by omega) (gS_0 (mkD_go k1 k5)) (fun i c i0 i1 _ _ => absurd (show i < 0 from i1) (by omega))
  have e : dfs (sPr 1 k nf (-1) σ (fun _ => 0) (fiS M k s)) M.toNat 0 st0 = mkD M k s nf σ := rfl
  rw [e] at hk
  refine hk 0 c (Int.le_refl 0) ?_ c0 c1
  unfold fnd at h
  split at h
  · omega
  · omega
section MC
variable {I : cI} {R : cR}
theorem c_addGiven {p : Nat} {n c v : Int} {Q : cI → cR → Prop} {σ : Int → Int → Int} (hp : okp R p) (e5 : I p 5 = n) (n0 : 0 ≤ n) (n1 : n < 65) (c0 : 0 ≤ c) (c1 : c < 25) (hv : pv I R p n σ) (hs : σ n = gvn c v)
    (hQ : ∀ I' R', okp R' p → (∀ b x, b < 93 → R' b x = R b x) → (∀ b x, b < 93 → ¬ (b = p ∧ x = 5) → I' b x = I b x) → I' p 5 = n + 1 → pv I' R' p (n + 1) σ → Q I' R') : wX4_addGiven p c v I R Q := by
  have hp' : p = 85 ∨ p = 89 := hp.1
  have hr := rg_R (hp.2.1 n n0 n1)
  have hr' : 93 ≤ R (p + 2) n ∧ R (p + 2) n < 223 := hr
  unfold wX4_addGiven
  refine c_addRule hp e5 n0 n1 (fun I3 R4 g1 g2 g3 g4 g5 g6 g7 g8 I6 e6 => ?_)
  have v0 : rv I6 R4 (R (p + 2) n) (pt (gvn c v) 0) := rv_0 (by rw [g3]; rfl) (by subst e6; exact u2e) (by subst e6; rw [u2x (by decide)]; exact g6) (by subst e6; rw [u2x (by decide)]; exact g7) (by subst e6; rw [u2x (by decide)]; exact g8)
  refine c_addCell (ρ := gvn c v) (s := 0) v0 (Int.le_refl 0) (by decide) rfl c0 c1 (fun I10 f10 v10 => ?_)
  have v11 : rv I10 R4 (R (p + 2) n) (gvn c v) := by
    have e : pt (gvn c v) (0 + 1) = gvn c v := pt_e (ρ := gvn c v)
    rw [e] at v10; exact v10
  have F : ∀ b y, b ≠ R (p + 2) n → b ≠ R (p + 2) n + 130 → ¬ (b = p ∧ y = 5) → I10 b y = I b y := fun b y z1 z2 z3 => by rw [f10 b y z1 z2]; subst e6; rw [u2a z1]; exact g1 b y z1 z3
  refine hQ I10 R4 (okp_fr hp (fun j => g2 _ _ (by omega))) (fun b x q => g2 b x (by omega)) (fun b x q1 q2 => F b x (by omega) (by omega) q2) ?_ (pv_add hp n0 n1 (fun b y z1 z2 z3 => F b y z2 z3 (by omega)) g2 hv (by rw [hs]; exact v11))
  rw [f10 _ _ (by omega) (by omega)]; subst e6; rw [u2a (by omega)]; exact g4
theorem c_giveAll {p a : Nat} {w h k n s : Int} {ρ : Int → Int → Int} {Q : Int → cI → cR → Prop} (hp : okp R p) (ha : okp R a) (hne : p ≠ a) (ew : I a 0 = w) (eh : I a 1 = h) (ek : I a 2 = k) (e5 : I a 5 = n) (n0 : 0 ≤ n) (n1 : n ≤ 65) (hM : okM (w * h)) (k1 : 1 ≤ k) (k5 : k ≤ 5) (hv : pv I R a n ρ) (hg : gp (w * h) n ρ) (s0 : 0 ≤ s) (s1 : s < 65536) (h40 : (fl ρ n.toNat).1 ≤ 40)
    (hQ0 : ¬ fnd (mkD (w * h) k s (fl ρ n.toNat).1 (fl ρ n.toNat).2) = 1 → ∀ I' R', okp R' p → okp R' a → R' 0 = R 0 → (∀ b x, b < 45 ∨ (80 ≤ b ∧ b < 83) ∨ b = a ∨ b = a + 1 → I' b x = I b x) → pv I' R' a n ρ → Q 0 I' R')
    (hQ1 : fnd (mkD (w * h) k s (fl ρ n.toNat).1 (fl ρ n.toNat).2) = 1 → ∀ I' R', okp R' p → okp R' a → R' 0 = R 0 → (∀ b x, b < 45 ∨ (80 ≤ b ∧ b < 83) → I' b x = I b x) → I' 83 1 = dit s (w * h).toNat → I' p 0 = w → I' p 1 = h → I' p 2 = k → I' p 5 = (fl ρ n.toNat).1 + w * h → pv I' R' p ((fl ρ n.toNat).1 + w * h) (fam (fl ρ n.toNat).2 (fl ρ n.toNat).1 ((mkD (w * h) k s (fl ρ n.toNat).1 (fl ρ n.toNat).2).2.2.2.2 0)) → (∀ c, 0 ≤ c → c < 25 → I' (p + 1) c = 0) → Q 1 I' R') : wX2_giveAll p a 45 s I R Q := by
  have hp' : p = 85 ∨ p = 89 := hp.1
  have ha' : a = 85 ∨ a = 89 := ha.1
  have hb := okM_b hM
  have fb := fl_b (ρ := ρ) n.toNat
  have fg := fl_gp hg n.toNat (by omega)
  unfold wX2_giveAll
  intro I1 e1
  have F1 : ∀ b x, b ≠ 83 → I1 b x = I b x := fun b x q => by subst e1; exact u2a q
  refine c_copyW (I := I1) (w := w) (h := h) (k := k) (m := w * h) hp ha hne (by rw [F1 _ _ (by omega)]; exact ew) (by rw [F1 _ _ (by omega)]; exact eh) (by rw [F1 _ _ (by omega)]; exact ek) (by rw [F1 _ _ (by omega)]; exact e5) n0 n1 hb.2 (pv_fr ha n1 (fun b x q => F1 b x (by omega)) hv) hg (fun I5 R6 op oa r0 f5 q0 q1 q2 q5 vp va qz => ?_)
  generalize hnf : (fl ρ n.toNat).1 = nf at *
  generalize hσ : (fl ρ n.toNat).2 = σ at *
  generalize hD : mkD (w * h) k s nf σ = D at *
  have gσ : gp (w * h) nf σ := fun i i0 i1 => (fg i i0 i1).1
  rw [q2]
  refine ⟨fun _ => ⟨26, ?_⟩, fun c => absurd k1 c⟩
  have cells : ∀ {I' : cI}, I' p 0 = w → I' p 1 = h → I' p 0 * I' p 1 = w * h := fun a b => by rw [a, b]
  have L74 : ∀ (m : Nat) (x : Int) (I' : cI) (R' : cR), 0 ≤ x → x ≤ w * h → w * h - x < m → fnd D = 1 → okp R' p → okp R' a → R' 0 = R 0 → (∀ b y, b < 45 ∨ (80 ≤ b ∧ b < 83) → I' b y = I b y) → (∀ c, 0 ≤ c → c < 25 → I' 50 c = D.2.2.2.2 0 c) → I' 83 1 = dit s (w * h).toNat → I' p 0 = w → I' p 1 = h → I' p 2 = k → I' p 5 = nf + x → pv I' R' p (nf + x) (fam σ nf (D.2.2.2.2 0)) → (∀ c, 0 ≤ c → c < 25 → I' (p + 1) c = 0) → wX2_giveAll_74 Q p a 45 s m x I' R' := by
    intro m
    induction m with
    | zero => intro x I' R' x0 x1 x2; omega
    | succ m ih =>
      intro x I' R' x0 x1 x2 hd op oa r0 f1 fs e83 p0 p1 p2 p5 vp pz
      show wbX2_giveAll_74 Q p a 45 s (wX2_giveAll_74 Q p a 45 s m) x I' R'
      unfold wbX2_giveAll_74 wX4_cellCount
      rw [cells p0 p1]
      refine ⟨by unfold inR; omega, fun c => ?_, fun c => ⟨by omega, ?_⟩⟩
      · have ex : x = w * h := by omega
        subst ex
        exact hQ1 hd I' R' op oa r0 f1 e83 p0 p1 p2 p5 vp pz
      · have es : I' (45 + 5 + Int.toNat 0) x = D.2.2.2.2 0 x := fs x x0 (by omega)
        rw [es]
        refine c_addGiven op p5 (by omega) (by omega) x0 (by omega) vp ?_ (fun I8 R9 op' g2 g1 g5 gp' => ⟨by unfold inR; omega, fun z hz => ?_⟩)
        · unfold fam; rw [if_neg (by omega), show nf + x - nf = x by omega]
        · subst hz
          refine ih (x + 1) I8 R9 (by omega) (by omega) (by omega) hd op' (okp_fr oa (fun j => g2 _ _ (by omega))) ?_ (fun b y q => by rw [g1 b y (by omega) (by omega)]; exact f1 b y q) (fun c c0 c1 => by rw [g1 _ _ (by omega) (by omega)]; exact fs c c0 c1) (by rw [g1 _ _ (by omega) (by omega)]; exact e83) (by rw [g1 _ _ (by omega) (by omega)]; exact p0) (by rw [g1 _ _ (by omega) (by omega)]; exact p1) (by rw [g1 _ _ (by omega) (by omega)]; exact p2) (by rw [g5]; omega) (by rw [show nf + (x + 1) = nf + x + 1 by omega]; exact gp') (fun c c0 c1 => by rw [g1 _ _ (by omega) (by omega)]; exact pz c c0 c1)
          rw [← r0]; funext y; exact g2 _ _ (by omega)
  have L24 : ∀ (m : Nat) (x : Nat) (I' : cI), (x : Int) ≤ w * h → w * h - x < m → (∀ b y, b ≠ 83 → b ≠ 84 → I' b y = I5 b y) → I' 83 1 = dit s x → (∀ c : Int, 0 ≤ c → c < x → I' 84 c = fiS (w * h) k s c) → wX2_giveAll_24 Q p a 45 s m x I' R6 := by
    intro m
    induction m with
    | zero => intro x I' x0 x1; omega
    | succ m ih =>
      intro x I' x0 x1 f1 e83 e84
      show wbX2_giveAll_24 Q p a 45 s (wX2_giveAll_24 Q p a 45 s m) x I' R6
      unfold wbX2_giveAll_24 wX4_cellCount
      have p0 : I' p 0 = w := by rw [f1 _ _ (by omega) (by omega)]; exact q0
      have p1 : I' p 1 = h := by rw [f1 _ _ (by omega) (by omega)]; exact q1
      have p2 : I' p 2 = k := by rw [f1 _ _ (by omega) (by omega)]; exact q2
      rw [cells p0 p1]
      refine ⟨by unfold inR; omega, fun c => ?_, fun c => ?_⟩
      · have ex : x = (w * h).toNat := by omega
        have hB : pB p I' R6 (w * h) nf k σ := ⟨op, cells p0 p1, p2, by rw [f1 _ _ (by omega) (by omega)]; exact q5, pv_fr op (by omega) (fun b y q => f1 _ _ (by omega) (by omega)) vp, gσ, by omega, by omega, by omega, hb.2, k1, k5⟩
        have hD' : dfs (sPr 1 k nf (-1) σ (fun _ => 0) (fiS (w * h) k s)) (w * h).toNat 0 st0 = D := hD
        refine c_one (g := fiS (w * h) k s) (a := 84) (Or.inr rfl) hB (Or.inr (by decide)) (fun c c0 c1 => e84 c c0 (by omega)) (fun c c0 => by unfold fiS; rw [if_neg (by omega)]) (fun c => fiS_b k1 c) (fun I2 g2 gs => ?_)
        rw [hD'] at gs ⊢
        refine ⟨fun r => ⟨26, ?_⟩, fun r => ?_⟩
        · have hd : fnd D = 1 := by
            have := (b2_or (fnd D = 1)).resolve_left r
            exact b2_y.mp this
          refine L74 26 0 I2 R6 (Int.le_refl 0) (by omega) (by omega) hd op oa r0 (fun b y q => by rw [g2 b y (by omega), f1 _ _ (by omega) (by omega), f5 b y (by omega)]; exact F1 b y (by omega)) (fun c c0 c1 => gs 0 c (Int.le_refl 0) (by omega) c0 c1) ?_ ?_ ?_ ?_ ?_ ?_ (fun c c0 c1 => by rw [g2 _ _ (by omega), f1 _ _ (by omega) (by omega)]; exact qz c c0 c1)
          · rw [g2 _ _ (by omega), e83, ex]
          · rw [g2 _ _ (by omega)]; exact p0
          · rw [g2 _ _ (by omega)]; exact p1
          · rw [g2 _ _ (by omega)]; exact p2
          · rw [g2 _ _ (by omega), f1 _ _ (by omega) (by omega), q5]; omega
          · rw [Int.add_zero]
            exact pv_cg (fun i i0 i1 => by unfold fam; rw [if_pos i1]) (pv_fr op (by omega) (fun b y q => by rw [g2 _ _ (by omega)]; exact f1 _ _ (by omega) (by omega)) vp)
        · exact hQ0 (b2_n.mp r) I2 R6 op oa r0 (fun b y q => by rw [g2 b y (by omega), f1 _ _ (by omega) (by omega), f5 b y (by omega)]; exact F1 b y (by omega)) (pv_fr oa n1 (fun b y q => by rw [g2 _ _ (by omega)]; exact f1 _ _ (by omega) (by omega)) va)
      · have db := dit_b s0 s1 x
        refine c_draw e83 db.1 db.2 (fun I13 g1 g2 => ?_)
        have p2' : I13 p 2 = k := by rw [g1 _ _ (by omega)]; exact p2
        have dd := dw_b (dit s x)
        have m0 := Int.emod_nonneg (dw (dit s x) / 16) (show k ≠ 0 by omega)
        have m1 := Int.emod_lt_of_pos (dw (dit s x) / 16) (show 0 < k by omega)
        rw [p2']
        refine ⟨⟨by omega, by omega⟩, by unfold inR; omega, by omega, fun I20 e20 => ⟨by unfold inR; omega, fun z hz => ?_⟩⟩
        have ez : z = ((x + 1 : Nat) : Int) := by omega
        rw [ez]
        refine ih (x + 1) I20 (by omega) (by omega) (fun b y z1 z2 => by subst e20; rw [u2a z2, g1 _ _ (by omega)]; exact f1 b y z1 z2) ?_ (fun c c0 c1 => ?_)
        · subst e20; rw [u2a (by decide)]; exact g2
        · subst e20
          by_cases ec : c = x
          · subst ec
            rw [u2e]
            unfold fiS
            rw [if_pos ⟨by omega, by omega⟩, show ((x : Int).toNat + 1) = x + 1 by omega]
            rfl
          · rw [u2x ec, g1 _ _ (by omega)]; exact e84 c c0 (by omega)
  exact L24 26 0 I5 (by omega) (by omega) (fun _ _ _ _ => rfl) (by rw [f5 _ _ (by omega)]; subst e1; exact u2e) (fun c c0 c1 => by omega)
theorem c_findG {p : Nat} {n c r : Int} {ρ : Int → Int → Int} {Q : Int → cI → cR → Prop} (e5 : I p 5 = n) (n1 : n ≤ 65) (c0 : 0 ≤ c) (c1 : c < 25) (hv : pv I R p n ρ) (r0 : 0 ≤ r) (r1 : r < n) (h9 : ρ r 0 = 9) (hh : hc (ρ r) c) (hno : ∀ i, 0 ≤ i → i < r → ¬ (ρ i 0 = 9 ∧ hc (ρ i) c)) (hQ : Q r I R) : wX4_findGiven p c I R Q := by
  have L : ∀ (m : Nat) (x : Int), 0 ≤ x → x ≤ r → r - x < m → wX4_findGiven_2 Q p c m x I R := by
    intro m
    induction m with
    | zero => intro x x0 x1 x2; omega
    | succ m ih =>
      intro x x0 x1 x2
      show wbX4_findGiven_2 Q p c (wX4_findGiven_2 Q p c m) x I R
      unfold wbX4_findGiven_2
      rw [e5]
      have vx := hv x x0 (by omega)
      have k0 : ((R (R (p + 2) x) 0 : Nat) : Int) = ρ x 0 := vx.1
      have next : ¬ (ρ x 0 = 9 ∧ hc (ρ x) c) → inR (x + 1) ∧ ∀ z : Int, z = x + 1 → wX4_findGiven_2 Q p c m z I R := fun w => ⟨by unfold inR; omega, fun z hz => by
        subst hz
        have : x ≠ r := fun e => w (by rw [e]; exact ⟨h9, hh⟩)
        exact ih (x + 1) (by omega) (by omega) (by omega)⟩
      refine ⟨fun w => by omega, fun w => ⟨by omega, fun g9 => ⟨fun _ => next (fun q => g9 (by omega)), fun q => absurd rfl q⟩, fun g9 => c_has vx ⟨c0, c1⟩ ⟨fun q => ?_, fun q => ?_⟩⟩⟩
      · exact ⟨fun _ => next (fun z => b2_n.mp q z.2), fun z => absurd rfl z⟩
      · refine ⟨fun z => absurd z (by decide), fun _ => ?_⟩
        have hx : hc (ρ x) c := b2_y.mp ((b2_or _).resolve_left q)
        have e : x = r := by
          by_cases e : x = r
          · exact e
          · exact absurd ⟨by omega, hx⟩ (hno x x0 (by omega))
        rw [e]; exact hQ
  exact ⟨66, L 66 0 (Int.le_refl 0) r0 (by omega)⟩
theorem c_thin {p : Nat} {w h k f s : Int} {S : tS} {Q : cI → cR → Prop} (hp : okp R p) (e0 : I p 0 = w) (e1 : I p 1 = h) (e2 : I p 2 = k) (e5 : I p 5 = S.1) (hM : okM (w * h)) (k1 : 1 ≤ k) (k5 : k ≤ 5) (e83 : I 83 1 = s) (s0 : 0 ≤ s) (s1 : s < 65536) (hv : pv I R p S.1 S.2) (hT : TI (w * h) f (w * h).toNat (dw s / 16 % (w * h)) S)
    (hQ : ∀ I' R', okp R' p → (∀ b x, b ≠ p + 2 → R' b x = R b x) → (∀ b x, (b < 45 ∨ 80 ≤ b) → ¬ (b = 83 ∧ x = 1) → ¬ (b = p ∧ x = 5) → I' b x = I b x) → I' p 5 = (thn (w * h) k f (w * h).toNat (dw s / 16 % (w * h)) S).1 → pv I' R' p (thn (w * h) k f (w * h).toNat (dw s / 16 % (w * h)) S).1 (thn (w * h) k f (w * h).toNat (dw s / 16 % (w * h)) S).2 → Q I' R') : wX2_dropGivens p 45 I R Q := by
  have hp' : p = 85 ∨ p = 89 := hp.1
  have hb := okM_b hM
  have dd := dw_b s
  generalize hM' : w * h = M at *
  have m0 := Int.emod_nonneg (dw s / 16) (show M ≠ 0 by omega)
  have m1 := Int.emod_lt_of_pos (dw s / 16) (show 0 < M by omega)
  have L : ∀ (m : Nat) (kk : Nat) (c : Int) (S' : tS) (I' : cI) (R' : cR), (kk : Int) ≤ M → (kk : Int) < m → TI M f kk c S' → okp R' p → (∀ b x, b ≠ p + 2 → R' b x = R b x) → (∀ b x, (b < 45 ∨ 80 ≤ b) → ¬ (b = 83 ∧ x = 1) → ¬ (b = p ∧ x = 5) → I' b x = I b x) → I' p 5 = S'.1 → pv I' R' p S'.1 S'.2 → thn M k f kk c S' = thn M k f M.toNat (dw s / 16 % M) S → wX2_dropGivens_22 Q p 45 m M c (M - kk) I' R' := by
    intro m
    induction m with
    | zero => intro kk c S' I' R' x0 x1; omega
    | succ m ih =>
      intro kk c S' I' R' x0 x1 T op g2 g1 p5 vp he
      show wbX2_dropGivens_22 Q p 45 (wX2_dropGivens_22 Q p 45 m) M c (M - kk) I' R'
      unfold wbX2_dropGivens_22
      refine ⟨fun q => ?_, fun q => ?_⟩
      · have ek : kk = 0 := by omega
        subst ek
        have he' : S' = thn M k f M.toNat (dw s / 16 % M) S := he
        rw [← he'] at hQ
        exact hQ I' R' op g2 g1 p5 vp
      · cases kk with
        | zero => omega
        | succ kk =>
          have T' := T
          obtain ⟨t1, t2, t3, t4, t5, t6, t7, t8, t9, t10, t11⟩ := T'
          have hr := TI_r T
          have hT2 := TI_s (h := k) hM T
          have he2 : thn M k f kk ((c + 7) % M) (thS M k f c S') = thn M k f M.toNat (dw s / 16 % M) S := he
          have g6 := t6 _ hr.1 hr.2.1
          have next : ∀ I2 R2, okp R2 p → (∀ b x, b ≠ p + 2 → R2 b x = R b x) → (∀ b x, (b < 45 ∨ 80 ≤ b) → ¬ (b = 83 ∧ x = 1) → ¬ (b = p ∧ x = 5) → I2 b x = I b x) → I2 p 5 = (thS M k f c S').1 → pv I2 R2 p (thS M k f c S').1 (thS M k f c S').2 → wX2_dropGivens_58 Q p 45 (wX2_dropGivens_22 Q p 45 m) M c (M - ((kk + 1 : Nat) : Int)) I2 R2 := fun I2 R2 z1 z2 z3 z4 z5 => by
            have n0 := Int.emod_nonneg (c + 7) (show M ≠ 0 by omega)
            have n1 := Int.emod_lt_of_pos (c + 7) (show 0 < M by omega)
            refine ⟨by unfold inR; omega, ⟨by omega, by omega⟩, by unfold inR; omega, fun z hz => ⟨by unfold inR; omega, fun z' hz' => ?_⟩⟩
            have ez : z' = M - (kk : Int) := by omega
            rw [ez, hz]
            exact ih kk _ _ I2 R2 (by omega) (by omega) hT2 z1 z2 z3 z4 z5 he2
          have hcr : hc (S'.2 (thI f c S')) c := ⟨0, Int.le_refl 0, by rw [g6.2]; decide, hr.2.2.1⟩
          have hB : pB p I' R' M S'.1 k S'.2 := ⟨op, by rw [g1 _ _ (by omega) (by omega) (by omega), g1 _ _ (by omega) (by omega) (by omega), e0, e1]; exact hM', by rw [g1 _ _ (by omega) (by omega) (by omega)]; exact e2, p5, vp, t4, by omega, t3, by omega, hb.2, k1, k5⟩
          refine c_findG p5 t3 t9 (by omega) vp (by omega) hr.2.1 g6.1 hcr (fun i i0 i1 w => ?_) ⟨fun w => by omega, fun _ => c_just (Or.inr rfl) hB (fun I7 f7 => ⟨fun w => ?_, fun w => ?_⟩)⟩
          · by_cases fi : i < f
            · exact t5 i i0 fi w.1
            · obtain ⟨j, j0, j1, j2⟩ := w.2
              rw [(t6 i (by omega) (by omega)).2] at j1
              have ej : j = 0 := by omega
              subst ej
              have := hr.2.2.2 i (by omega) (by omega) j2
              omega
          · have nj : ¬ jst M S'.1 k (thI f c S') S'.2 := b2_n.mp w
            have eS : thS M k f c S' = S' := if_neg nj
            refine next I7 R' op g2 (fun b x y1 y2 y3 => by rw [f7 b x (by omega)]; exact g1 b x y1 y2 y3) ?_ ?_
            · rw [eS, f7 _ _ (by omega)]; exact p5
            · rw [eS]; exact pv_fr op t3 (fun b x y => f7 b x (by omega)) vp
          · have jj : jst M S'.1 k (thI f c S') S'.2 := b2_y.mp ((b2_or _).resolve_left w)
            have eS : thS M k f c S' = (S'.1 - 1, dr (thI f c S') S'.2) := if_pos jj
            refine c_remove op (by omega) hr.2.1 t3 (by rw [f7 _ _ (by omega)]; exact p5) (pv_fr op t3 (fun b x y => f7 b x (by omega)) vp) (fun I12 R12 z1 z2 z3 z4 z5 => next I12 R12 z1 (fun b x y => by rw [z2 b x y]; exact g2 b x y) (fun b x y1 y2 y3 => by rw [z3 b x y3, f7 b x (by omega)]; exact g1 b x y1 y2 y3) ?_ ?_)
            · rw [eS]; exact z4
            · rw [eS]; exact z5
  unfold wX2_dropGivens wX4_cellCount
  rw [e0, e1, hM']
  refine ⟨by unfold inR; omega, fun _ => c_draw e83 s0 s1 (fun I7 g1 g2 => ⟨⟨by omega, by omega⟩, by unfold inR; omega, fun z hz => ⟨27, ?_⟩⟩), fun c => by omega⟩
  have h0 := L 27 M.toNat (dw s / 16 % M) S I7 R (by omega) (by omega) hT hp (fun _ _ _ => rfl) (fun b x y1 y2 y3 => g1 b x y2) (by rw [g1 _ _ (by omega)]; exact e5) (pv_fr hp hT.2.2.1 (fun b x y => g1 b x (by omega)) hv) rfl
  rw [show M - (M.toNat : Int) = 0 by omega] at h0
  rw [hz]; exact h0
end MC
