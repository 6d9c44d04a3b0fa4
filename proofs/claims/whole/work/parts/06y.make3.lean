/-! ===== make: the reference ===== -/
section MM
variable {J : cI}
/-- the rules as they are told stay where all cells of their rows do -/
theorem e9_fr {J J' : cI} {b : Nat} {x : Int} (h : ∀ a y, b ≤ a → a ≤ b + 3 → y = x → J' a y = J a y) (h2 : ∀ y, 5 * x ≤ y → y < 5 * x + 5 → J' (b + 4) y = J (b + 4) y) : e9 (mr J' b x) (mr J b x) := fun k k0 k1 _ => by
  have : k = 0 ∨ k = 1 ∨ k = 2 ∨ k = 3 ∨ 4 ≤ k := by omega
  rcases this with rfl | rfl | rfl | rfl | k4
  · rw [mr0, mr0]; exact h _ _ (by omega) (by omega) rfl
  · rw [mr1, mr1]; exact h _ _ (by omega) (by omega) rfl
  · rw [mr2, mr2]; exact h _ _ (by omega) (by omega) rfl
  · rw [mr3, mr3]; exact h _ _ (by omega) (by omega) rfl
  · rw [show k = 4 + (k - 4) by omega, mr4 (by omega), mr4 (by omega)]; exact h2 _ (by omega) (by omega)
theorem m_save {a n : Int} {Q : Int → cI → Prop} (e14 : J 1000 14 = n) (n0 : 0 ≤ n) (n1 : n ≤ 65)
    (hQ : ∀ J', (∀ b x, ¬ (1037 ≤ b ∧ b ≤ 1041) → J' b x = J b x) → (∀ i, 0 ≤ i → i < n → e9 (mr J' 1037 i) (mr J 1015 i)) → ∃ m, wX12_make_161 Q a m n (n - 1) J') : ∃ m, wX12_make_55 Q a m n 0 J := by
  have L2 : ∀ (K : Int → Int → cI → Prop) (x : Int), 0 ≤ x → x < n → ∀ (J1 : cI), (∀ b y, ¬ (1037 ≤ b ∧ b ≤ 1041) → J1 b y = J b y) → J1 1037 x = J 1015 x → J1 1038 x = J 1016 x → J1 1039 x = J 1017 x → J1 1040 x = J 1018 x → (∀ J', (∀ b y, ¬ (b = 1041 ∧ 5 * x ≤ y ∧ y < 5 * x + 5) → J' b y = J1 b y) → e9 (mr J' 1037 x) (mr J 1015 x) → K n (x + 1) J') →
      ∀ (m : Nat) (y : Int) (J' : cI), 0 ≤ y → y ≤ 5 → 5 - y < m → (∀ b z, ¬ (b = 1041 ∧ 5 * x ≤ z ∧ z < 5 * x + 5) → J' b z = J1 b z) → (∀ i, 0 ≤ i → i < y → J' 1041 (5 * x + i) = J 1019 (5 * x + i)) → wX12_make_114 Q a K m n x y J' := by
    intro K x x0 x1 J1 f1 a0 a1 a2 a3 hK m
    induction m with
    | zero => intro y J' y0 y1 y2; omega
    | succ m ih =>
      intro y J' y0 y1 y2 v1 v2
      show wbX12_make_114 Q a K (wX12_make_114 Q a K m) n x y J'
      unfold wbX12_make_114
      refine ⟨fun c => ⟨by unfold inR; omega, fun z hz => ?_⟩, fun c => ⟨by omega, by omega, fun J6 e6 => ⟨by unfold inR; omega, fun z hz => ?_⟩⟩⟩
      · subst hz
        refine hK J' v1 (fun k k0 k1 _ => ?_)
        have : k = 0 ∨ k = 1 ∨ k = 2 ∨ k = 3 ∨ 4 ≤ k := by omega
        rcases this with rfl | rfl | rfl | rfl | k4
        · rw [mr0, mr0, v1 _ _ (by omega)]; exact a0
        · rw [mr1, mr1, v1 _ _ (by omega)]; exact a1
        · rw [mr2, mr2, v1 _ _ (by omega)]; exact a2
        · rw [mr3, mr3, v1 _ _ (by omega)]; exact a3
        · rw [show k = 4 + (k - 4) by omega, mr4 (by omega), mr4 (by omega)]; exact v2 (k - 4) (by omega) (by omega)
      · subst hz
        have ev : J' 1019 (5 * x + y) = J 1019 (5 * x + y) := by rw [v1 _ _ (by omega)]; exact f1 _ _ (by omega)
        refine ih (y + 1) J6 (by omega) (by omega) (by omega) (fun b z q => by subst e6; rw [u2n (by omega)]; exact v1 b z q) (fun i i0 i1 => ?_)
        subst e6
        by_cases ei : i = y
        · subst ei; rw [u2e]; exact ev
        · rw [u2x (by omega)]; exact v2 i i0 (by omega)
  have L : ∀ (m : Nat) (x : Int) (J' : cI), 0 ≤ x → x ≤ n → n - x < m → (∀ b y, ¬ (1037 ≤ b ∧ b ≤ 1041) → J' b y = J b y) → (∀ i, 0 ≤ i → i < x → e9 (mr J' 1037 i) (mr J 1015 i)) → wX12_make_55 Q a m n x J' := by
    intro m
    induction m with
    | zero => intro x J' x0 x1 x2; omega
    | succ m ih =>
      intro x J' x0 x1 x2 v1 v2
      show wbX12_make_55 Q a (wX12_make_55 Q a m) n x J'
      unfold wbX12_make_55
      rw [v1 1000 14 (by omega), e14]
      refine ⟨fun c => ⟨by unfold inR; omega, fun z hz => ?_⟩, fun c => ⟨by omega, by omega, fun J7 e7 => ⟨by omega, by omega, fun J12 e12 => ⟨by omega, by omega, fun J17 e17 => ⟨by omega, by omega, fun J22 e22 => ⟨6, ?_⟩⟩⟩⟩⟩⟩
      · subst hz
        have ex : x = n := by omega
        subst ex
        exact hQ J' v1 v2
      · have G : ∀ b y, ¬ (1037 ≤ b ∧ b ≤ 1040 ∧ y = x) → J22 b y = J' b y := fun b y q => by subst e22; rw [u2n (by omega)]; subst e17; rw [u2n (by omega)]; subst e12; rw [u2n (by omega)]; subst e7; exact u2n (by omega)
        refine L2 _ x x0 (by omega) J22 (fun b y q => by rw [G b y (by omega)]; exact v1 b y q) ?_ ?_ ?_ ?_ (fun J2 z1 z2 => ih (x + 1) J2 (by omega) (by omega) (by omega) (fun b y q => by rw [z1 b y (by omega), G b y (by omega)]; exact v1 b y q) (fun i i0 i1 => ?_)) 6 0 J22 (Int.le_refl 0) (by decide) (by decide) (fun _ _ _ => rfl) (fun i i0 i1 => by omega)
        · subst e22; rw [u2n (by omega)]; subst e17; rw [u2n (by omega)]; subst e12; rw [u2n (by omega)]; subst e7; rw [u2e]; exact v1 _ _ (by omega)
        · subst e22; rw [u2n (by omega)]; subst e17; rw [u2n (by omega)]; subst e12; rw [u2e]; subst e7; rw [u2n (by omega)]; exact v1 _ _ (by omega)
        · subst e22; rw [u2n (by omega)]; subst e17; rw [u2e]; subst e12; rw [u2n (by omega)]; subst e7; rw [u2n (by omega)]; exact v1 _ _ (by omega)
        · subst e22; rw [u2e]; subst e17; rw [u2n (by omega)]; subst e12; rw [u2n (by omega)]; subst e7; rw [u2n (by omega)]; exact v1 _ _ (by omega)
        · by_cases ei : i = x
          · subst ei; exact z2
          · refine e9_t (e9_fr (b := 1037) (fun b y q1 q2 q3 => ?_) (fun y q1 q2 => ?_)) (v2 i i0 (by omega))
            · rw [z1 _ _ (by omega)]; exact G _ _ (by omega)
            · rw [z1 _ _ (by omega)]; exact G _ _ (by omega)
  exact ⟨66, L 66 0 J (Int.le_refl 0) n0 (by omega) (fun _ _ _ => rfl) (fun i i0 i1 => by omega)⟩
/-- the givens go, from the last rule on -/
theorem m_filter {a n : Int} {ρ : Int → Int → Int} {Q : Int → cI → Prop} (e14 : J 1000 14 = n) (n0 : 0 ≤ n) (n1 : n ≤ 65) (er : ∀ i, 0 ≤ i → i < n → e9 (mr J 1015 i) (ρ i))
    (hQ : ∀ J', (∀ b x, ¬ (1015 ≤ b ∧ b ≤ 1019) → ¬ (b = 1000 ∧ x = 14) → J' b x = J b x) → J' 1000 14 = (fl ρ n.toNat).1 → (∀ i, 0 ≤ i → i < (fl ρ n.toNat).1 → e9 (mr J' 1015 i) ((fl ρ n.toNat).2 i)) → wX12_prepare 0 J' (fun J2 => ∃ m, wX12_make_194 Q a m n 0 J2)) : ∃ m, wX12_make_161 Q a m n (n - 1) J := by
  have L : ∀ (m : Nat) (x : Nat) (J' : cI), (x : Int) ≤ n → (x : Int) < m → (∀ b y, ¬ (1015 ≤ b ∧ b ≤ 1019) → ¬ (b = 1000 ∧ y = 14) → J' b y = J b y) → J' 1000 14 = x + ((fl ρ n.toNat).1 - (fl ρ x).1) → (∀ i : Int, 0 ≤ i → i < x → e9 (mr J' 1015 i) (ρ i)) → (∀ j, (x : Int) ≤ j → j < J' 1000 14 → e9 (mr J' 1015 j) ((fl ρ n.toNat).2 ((fl ρ x).1 + (j - x)))) → wX12_make_161 Q a m n ((x : Int) - 1) J' := by
    intro m
    induction m with
    | zero => intro x J' x0 x1; omega
    | succ m ih =>
      intro x J' x0 x1 v1 v14 v2 v3
      show wbX12_make_161 Q a (wX12_make_161 Q a m) n ((x : Int) - 1) J'
      unfold wbX12_make_161
      refine ⟨fun c => ?_, fun c => ?_⟩
      · have ex : x = 0 := by omega
        subst ex
        have z : (fl ρ 0).1 = 0 := rfl
        rw [z] at v14 v3
        refine hQ J' v1 (by rw [v14]; omega) (fun i i0 i1 => ?_)
        have := v3 i (by omega) (by omega)
        rw [show (0 : Int) + (i - ((0 : Nat) : Int)) = i by omega] at this
        exact this
      · cases x with
        | zero => omega
        | succ x =>
          have ex : ((x + 1 : Nat) : Int) - 1 = x := by omega
          rw [ex]
          have exx := v2 x (by omega) (by omega)
          have e0 := exx 0 (by decide) (by decide) (Or.inl (by decide))
          rw [mr0] at e0
          have fb := fl_b (ρ := ρ) x
          have fs := fl_st (ρ := ρ) x (n.toNat - x)
          rw [show x + (n.toNat - x) = n.toNat by omega] at fs
          rw [e0]
          refine ⟨by omega, fun h9 => ⟨by unfold inR; omega, fun z hz => ?_⟩, fun h9 => ?_⟩
          · have ez : z = (x : Int) - 1 := by omega
            rw [ez]
            have hn := fl_n h9
            refine ih x J' (by omega) (by omega) v1 ?_ (fun i i0 i1 => v2 i i0 (by omega)) (fun j j0 j1 => ?_)
            · rw [v14, hn]; show ((x + 1 : Nat) : Int) + ((fl ρ n.toNat).1 - ((fl ρ x).1 + 1)) = _; omega
            · by_cases ej : j = x
              · subst ej
                rw [show (fl ρ x).1 + ((x : Int) - x) = (fl ρ x).1 by omega, fl_at (by omega) h9]
                exact exx
              · have := v3 j (by omega) j1
                rw [hn] at this
                have e : (fl ρ x).1 + 1 + (j - ((x + 1 : Nat) : Int)) = (fl ρ x).1 + (j - x) := by omega
                have this' : e9 (mr J' 1015 j) ((fl ρ n.toNat).2 ((fl ρ x).1 + 1 + (j - ((x + 1 : Nat) : Int)))) := this
                rw [e] at this'
                exact this'
          · have hn := fl_9 h9
            have fn := fl_b (ρ := ρ) n.toNat
            have fu := fl_up (ρ := ρ) (x + 1) (n.toNat - (x + 1))
            rw [show x + 1 + (n.toNat - (x + 1)) = n.toNat by omega, hn] at fu
            refine m_drop (n := J' 1000 14) (by omega) (by rw [v14, hn]; omega) (by rw [v14, hn]; omega) rfl (fun J2 z1 z2 z3 => ⟨by unfold inR; omega, fun z hz => ?_⟩)
            have ez : z = (x : Int) - 1 := by omega
            rw [ez]
            rw [hn] at v14
            refine ih x J2 (by omega) (by omega) (fun b y q1 q2 => by rw [z1 b y q1 q2]; exact v1 b y q1 q2) (by rw [z2, v14]; omega) (fun i i0 i1 => ?_) (fun j j0 j1 => ?_)
            · refine e9_t (z3 i i0 (by omega)) ?_
              unfold dr; rw [if_pos i1]; exact v2 i i0 (by omega)
            · rw [z2] at j1
              refine e9_t (z3 j (by omega) j1) ?_
              unfold dr; rw [if_neg (by omega)]
              have := v3 (j + 1) (by omega) (by omega)
              rw [hn, show (fl ρ x).1 + (j + 1 - ((x + 1 : Nat) : Int)) = (fl ρ x).1 + (j - x) by omega] at this
              exact this
  have h0 := L 67 n.toNat J (by omega) (by omega) (fun _ _ _ _ => rfl) (by rw [e14]; omega) (fun i i0 i1 => er i i0 (by omega)) (fun j j0 j1 => by rw [e14] at j1; omega)
  rw [show (n.toNat : Int) - 1 = n - 1 by omega] at h0
  exact ⟨67, h0⟩
/-- places that a making writes -/
def jM (b : Nat) (x : Int) : Prop := (1015 ≤ b ∧ b ≤ 1019) ∨ (1021 ≤ b ∧ b ≤ 1023) ∨ b = 1026 ∨ (1037 ≤ b ∧ b ≤ 1041) ∨ (b = 1000 ∧ (x = 14 ∨ x = 24 ∨ x = 25 ∨ x = 43))
theorem m_thin {w h k f s : Int} {S : tS} {Q : cI → Prop} (e11 : J 1000 11 = w) (e12 : J 1000 12 = h) (e13 : J 1000 13 = k) (e14 : J 1000 14 = S.1) (hM : okM (w * h)) (k1 : 1 ≤ k) (k5 : k ≤ 5) (e43 : J 1000 43 = s) (s0 : 0 ≤ s) (s1 : s < 65536) (er : ∀ i, 0 ≤ i → i < S.1 → e9 (mr J 1015 i) (S.2 i)) (hT : TI (w * h) f (w * h).toNat (dw s / 16 % (w * h)) S)
    (hQ : ∀ J', (∀ b x, ¬ jM b x → J' b x = J b x) → J' 1000 14 = (thn (w * h) k f (w * h).toNat (dw s / 16 % (w * h)) S).1 → (∀ i, 0 ≤ i → i < (thn (w * h) k f (w * h).toNat (dw s / 16 % (w * h)) S).1 → e9 (mr J' 1015 i) ((thn (w * h) k f (w * h).toNat (dw s / 16 % (w * h)) S).2 i)) → Q J') : wX12_thinOut f J Q := by
  have hb := okM_b hM
  have dd := dw_b s
  have eM : J 1000 11 * J 1000 12 = w * h := by rw [e11, e12]
  generalize w * h = M at *
  have m0 := Int.emod_nonneg (dw s / 16) (show M ≠ 0 by omega)
  have m1 := Int.emod_lt_of_pos (dw s / 16) (show 0 < M by omega)
  have L : ∀ (m : Nat) (kk : Nat) (c : Int) (S' : tS) (J' : cI), (kk : Int) ≤ M → (kk : Int) < m → TI M f kk c S' → (∀ b x, ¬ jM b x → J' b x = J b x) → (∀ y, 0 ≤ y → y < 25 → J' 1022 y = 0 ∧ J' 1023 y = 0) → J' 1000 14 = S'.1 → (∀ i, 0 ≤ i → i < S'.1 → e9 (mr J' 1015 i) (S'.2 i)) → thn M k f kk c S' = thn M k f M.toNat (dw s / 16 % M) S → wX12_thinOut_17 Q f m c (M - kk) J' := by
    intro m
    induction m with
    | zero => intro kk c S' J' x0 x1; omega
    | succ m ih =>
      intro kk c S' J' x0 x1 T g1 gz p14 vp he
      show wbX12_thinOut_17 Q f (wX12_thinOut_17 Q f m) c (M - kk) J'
      have cM : ∀ {J2 : cI}, (∀ b x, ¬ jM b x → J2 b x = J b x) → J2 1000 11 * J2 1000 12 = M := fun g => by rw [g 1000 11 (by unfold jM; omega), g 1000 12 (by unfold jM; omega)]; exact eM
      unfold wbX12_thinOut_17 wX12_cells
      rw [cM g1]
      refine ⟨by unfold inR; omega, fun q => ?_, fun q => ⟨67, ?_⟩⟩
      · have ek : kk = 0 := by omega
        subst ek
        have he' : S' = thn M k f M.toNat (dw s / 16 % M) S := he
        rw [← he'] at hQ
        exact hQ J' g1 p14 vp
      · cases kk with
        | zero => omega
        | succ kk =>
          have T' := T
          obtain ⟨t1, t2, t3, t4, t5, t6, t7, t8, t9, t10, t11⟩ := T'
          have hr := TI_r T
          have hT2 := TI_s (h := k) hM T
          have he2 : thn M k f kk ((c + 7) % M) (thS M k f c S') = thn M k f M.toNat (dw s / 16 % M) S := he
          have n0 := Int.emod_nonneg (c + 7) (show M ≠ 0 by omega)
          have n1 := Int.emod_lt_of_pos (c + 7) (show 0 < M by omega)
          have next : ∀ J2, (∀ b x, ¬ jM b x → J2 b x = J b x) → (∀ y, 0 ≤ y → y < 25 → J2 1022 y = 0 ∧ J2 1023 y = 0) → J2 1000 14 = (thS M k f c S').1 → (∀ i, 0 ≤ i → i < (thS M k f c S').1 → e9 (mr J2 1015 i) ((thS M k f c S').2 i)) → wX12_thinOut_73 Q f (wX12_thinOut_17 Q f m) c (M - ((kk + 1 : Nat) : Int)) J2 := fun J2 z1 z2 z3 z4 => by
            unfold wX12_thinOut_73 wX12_cells
            rw [cM z1]
            refine ⟨by unfold inR; omega, by unfold inR; omega, ⟨by omega, by omega⟩, by unfold inR; omega, fun z hz => ⟨by unfold inR; omega, fun z' hz' => ?_⟩⟩
            have ez : z' = M - (kk : Int) := by omega
            rw [ez, hz]
            exact ih kk _ _ J2 (by omega) (by omega) hT2 z1 z2 z3 z4 he2
          have gmr : gp M S'.1 (mr J' 1015) := gp_e (fun i i0 i1 => e9_s (vp i i0 i1)) t4
          have mb : mB J' M S'.1 (thI f c S') (sPr 2 k S'.1 (thI f c S') S'.2 (fun _ => 0) (fun _ => 1)) :=
            ⟨cM g1, by rw [g1 1000 13 (by unfold jM; omega)]; exact e13, p14, gmr, by omega, t3, by omega, hb.2, fun y y0 y1 => (gz y y0 (by omega)).2, fun y y0 y1 => (gz y y0 (by omega)).1, fun y v => am_e t4 (fun i i0 i1 => e9_s (vp i i0 i1))⟩
          have goP0 : goP (sPr 2 k S'.1 (thI f c S') S'.2 (fun _ => 0) (fun _ => 1)) := goP_2 k1 k5 (by decide) (by decide)
          have rr := (fnd_b goP0 (M := M.toNat) (by omega)).2.2.2
          have at56 : wX12_thinOut_56 Q f (wX12_thinOut_17 Q f m) c (M - ((kk + 1 : Nat) : Int)) (thI f c S') J' := by
            refine m_look mb goP0 (fun J2 f2 tr sl => ⟨fun w => ?_, fun w => ?_⟩)
            · have nj : ¬ jst M S'.1 k (thI f c S') S'.2 := fun q => w (rr.mpr q)
              have eS : thS M k f c S' = S' := if_neg nj
              refine next J2 (fun b x q => by rw [f2 b x (by unfold jM at q; omega)]; exact g1 b x q) (fun y y0 y1 => by rw [f2 _ _ (by omega), f2 _ _ (by omega)]; exact gz y y0 y1) (by rw [eS, f2 _ _ (by omega)]; exact p14) (fun i i0 i1 => ?_)
              rw [eS] at i1 ⊢
              rw [mr_fr (J0 := J') (J := J2) (b := 1015) (fun b x q1 q2 => f2 b x (by omega))]
              exact vp i i0 i1
            · have jj : jst M S'.1 k (thI f c S') S'.2 := rr.mp w
              have eS : thS M k f c S' = (S'.1 - 1, dr (thI f c S') S'.2) := if_pos jj
              refine m_drop (n := S'.1) (by omega) hr.2.1 t3 (by rw [f2 _ _ (by omega)]; exact p14) (fun J6 z1 z2 z3 => next J6 (fun b x q => by rw [z1 b x (by unfold jM at q; omega) (by unfold jM at q; omega), f2 b x (by unfold jM at q; omega)]; exact g1 b x q) (fun y y0 y1 => by rw [z1 _ _ (by omega) (by omega), z1 _ _ (by omega) (by omega), f2 _ _ (by omega), f2 _ _ (by omega)]; exact gz y y0 y1) (by rw [eS]; exact z2) (fun i i0 i1 => ?_))
              rw [eS] at i1 ⊢
              refine e9_t (z3 i i0 i1) ?_
              have em : mr J2 1015 = mr J' 1015 := mr_fr (fun b x q1 q2 => f2 b x (by omega))
              have i1' : i < S'.1 - 1 := i1
              show e9 (dr (thI f c S') (mr J2 1015) i) (dr (thI f c S') S'.2 i)
              rw [em]
              unfold dr
              split
              · exact vp i i0 (by omega)
              · exact vp (i + 1) (by omega) (by omega)
          have L28 : ∀ (m' : Nat) (x : Int), f ≤ x → x ≤ thI f c S' → thI f c S' - x < m' → wX12_thinOut_28 Q f (wX12_thinOut_17 Q f m) m' c (M - ((kk + 1 : Nat) : Int)) x J' := by
            intro m'
            induction m' with
            | zero => intro x y0 y1 y2; omega
            | succ m' ih' =>
              intro x y0 y1 y2
              show wbX12_thinOut_28 Q f (wX12_thinOut_17 Q f m) (wX12_thinOut_28 Q f (wX12_thinOut_17 Q f m) m') c (M - ((kk + 1 : Nat) : Int)) x J'
              unfold wbX12_thinOut_28
              have ex := vp x (by omega) (by omega)
              have g6 := t6 x y0 (by omega)
              have e4 : J' 1019 (5 * x) = S'.2 x 4 := by
                have := ex 4 (by decide) (by decide) (by rw [e9_3 ex, g6.2]; omega)
                rw [← this, show (4 : Int) = 4 + 0 by decide, mr4 (Int.le_refl 0), Int.add_zero]
              rw [p14, e4]
              refine ⟨fun w => by omega, fun w => ⟨by omega, fun q => ?_, fun q => ⟨by unfold inR; omega, fun z hz => ?_⟩⟩⟩
              · have := hr.2.2.2 x y0 (by omega) q
                rw [this]; exact at56
              · subst hz
                have : x ≠ thI f c S' := fun e => q (by rw [e]; exact hr.2.2.1)
                exact ih' (x + 1) (by omega) (by omega) (by omega)
          exact L28 67 f (Int.le_refl f) hr.1 (by omega)
  unfold wX12_thinOut
  refine m_prep (Or.inl rfl) (fun J2 f2 p2 => m_drawn (s := s) (by rw [f2 _ _ (by omega)]; exact e43) s0 s1 (fun J6 f6 g6 => ?_))
  have F6 : ∀ b x, ¬ jM b x → J6 b x = J b x := fun b x q => by rw [f6 b x (by unfold jM at q; omega)]; exact f2 b x (by unfold jM at q; omega)
  unfold wX12_cells
  rw [F6 1000 11 (by unfold jM; omega), F6 1000 12 (by unfold jM; omega), eM]
  refine ⟨by unfold inR; omega, ⟨by omega, by omega⟩, by unfold inR; omega, fun z hz => ⟨26, by decide, ?_⟩⟩
  have em : mr J6 1015 = mr J 1015 := mr_fr (fun b x q1 q2 => by rw [f6 _ _ (by omega)]; exact f2 _ _ (by omega))
  have h0 := L 26 M.toNat (dw s / 16 % M) S J6 (by omega) (by omega) hT F6 (fun y y0 y1 => by rw [f6 _ _ (by omega), f6 _ _ (by omega)]; have := p2 y y0 y1; rw [if_pos rfl] at this; exact this) (by rw [f6 _ _ (by omega), f2 _ _ (by omega)]; exact e14) (fun i i0 i1 => by rw [em]; exact er i i0 i1) rfl
  rw [show M - (M.toNat : Int) = 0 by omega] at h0
  rw [hz]; exact h0
end MM
