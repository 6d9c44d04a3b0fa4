/-! ===== the law, from its begin ===== -/
noncomputable def DG (J : cI) : Int := d6 J (d5 J (d4 J (d3 J (d2 J (d1 J 457)))))
theorem lk_in : ∀ g : Fin 5, ∀ v : Fin 4, (g.val = 0 ∨ g.val = v.val + 1) → ¬ iAnd (iShr (lk 4 (g.val : Int)) (v.val : Int)) 1 = 0 := by decide +kernel
theorem lk_4 : ∀ g : Fin 5, 0 ≤ bc (lk 4 (g.val : Int)) ∧ bc (lk 4 (g.val : Int)) ≤ 4 := by decide +kernel
section LW
variable {I : cI} {R : cR} {J : cI} {rds : List rdT} {g : Int → Int} {L : List (Int → Int)} {x4 : Int} {sc : Int → Int}
theorem cv6 {J : cI} : cv J 6 = cF (fun i => br (mr J 1015 i) (J 1000 13) (J 1020)) 0 (J 1000 14) := by
  unfold cv
  rw [if_neg (by decide), if_neg (by decide), if_neg (by decide), if_neg (by decide), if_neg (by decide), if_neg (by decide), if_pos rfl]
theorem z_408 (h : INV I R J) (hs : SS J rds g L x4) (hr : ∀ r ∈ rds, r ∈ ST) (l12 : rds.length ≤ 12) {y0 : Int} (hy : y0 = 0 ∨ y0 = 1) (hyb : y0 = 1 ↔ ∀ i, 0 ≤ i → i < J 1000 14 → ¬ br (mr J 1015 i) (J 1000 13) (J 1020)) : wL_law_408 sc x4 y0 I R := by
  have hp := hs.1
  have eM := PZ_M hp
  have sl := L_SL h hs hr
  unfold wL_law_408
  refine p_none h (fun r3 h3 h3b => ⟨fun _ => ?_, fun w => absurd ?_ w⟩)
  · refine k_look h (fun I1 J1 h1 f1 s1 => ?_)
    have hs1 := SS_fr hs f1
    have hp1 := hs1.1
    have eM1 := PZ_M hp1
    rw [eM, hp.2.2.1] at s1
    rw [eM]
    have gb : ∀ c, 0 ≤ c → c < 4 → 0 ≤ J 1020 c ∧ J 1020 c ≤ 4 := fun c c0 c1 => by
      have := (h.1.2.2.2.2.2.2.2.2 c c0 (by omega)).2
      rw [hp.2.2.1] at this
      exact this
    have eg : ∀ c, 0 ≤ c → c < 4 → g c = J 1020 c := fun c c0 c1 => by
      rw [← hs.2.1]; unfold gJ; rw [if_pos ⟨c0, by rw [eM]; exact c1⟩]
    have sl1 : ∀ c, 0 ≤ c → c < 4 → J1 1030 c = lk 4 (J 1020 c) := fun c c0 c1 => by
      rw [s1]; unfold lkS; rw [if_pos ⟨c0, c1⟩]
    have in1 : ∀ x ∈ L, inS (J1 1030) x := fun x hx c c0 c1 => by
      have sx := (sl x hx).2.1 c c0 c1
      have b := gb c c0 c1
      rw [sl1 c c0 c1]
      have := lk_in ⟨(J 1020 c).toNat, by omega⟩ ⟨(x c - 1).toNat, by omega⟩ (by
        show (J 1020 c).toNat = 0 ∨ (J 1020 c).toNat = (x c - 1).toNat + 1
        by_cases q : J 1020 c = 0
        · left; omega
        · right
          have e := sx.2.2 (by rw [eg c c0 c1]; exact q)
          rw [eg c c0 c1] at e
          omega)
      rw [show (((J 1020 c).toNat : Nat) : Int) = J 1020 c by omega, show (((x c - 1).toNat : Nat) : Int) = x c - 1 by omega] at this
      exact this
    have b1 : ∀ c, 0 ≤ c → c < 4 → 0 ≤ bc (J1 1030 c) ∧ bc (J1 1030 c) ≤ 4 := fun c c0 c1 => by
      have b := gb c c0 c1
      rw [sl1 c c0 c1]
      have := lk_4 ⟨(J 1020 c).toNat, by omega⟩
      rw [show (((J 1020 c).toNat : Nat) : Int) = J 1020 c by omega] at this
      exact this
    have t1 : 0 ≤ sF (fun c => bc (J1 1030 c)) 0 4 ∧ sF (fun c => bc (J1 1030 c)) 0 4 ≤ 16 := by
      have q0 := b1 0 (by decide) (by decide)
      have q1 := b1 1 (by decide) (by decide)
      have q2 := b1 2 (by decide) (by decide)
      have q3 := b1 3 (by decide) (by decide)
      rw [sF_4]
      omega
    have bS : ∀ c, 0 ≤ c → c < 25 → 0 ≤ J1 1030 c ∧ J1 1030 c < 32 := fun c c0 c1 => (h1.2.2.1.1 c c0 c1).2
    have gg := h1.2.1.2.2.2.1
    rw [eM1, hp1.2.2.2.1, hp1.2.2.2.2] at gg
    have re := rsn_end (h := 4) gg (by omega) (by decide) (by decide) bS
    have rc := rsn_c (h := 4) gg (by omega) (by decide) (by decide) bS
    refine k_reason h1 (fun I2 J2 h2 f2 s2 p2 => ?_)
    rw [hp1.2.2.2.2, hp1.2.2.2.1, hp1.2.2.1] at s2 p2 ⊢
    have es : J2 1030 = (rsn (RU rds) (rds.length : Nat) 4 (J1 1030)).1.1 := funext s2
    have hs2 := SS_fr hs1 f2
    have in2 : ∀ x ∈ L, inS (J2 1030) x := fun x hx => by
      rw [es]
      have sx := sl x hx
      exact re.2.2.2.1 x (fun i i0 i1 => sx.2.2 i i0 i1 (by omega)) (fun c c0 c1 => ⟨(sx.2.1 c c0 c1).1, (sx.2.1 c c0 c1).2.1⟩) (in1 x hx)
    refine ⟨5, ?_⟩
    have rsum := re.2.2.1
    have r5 := re.2.2.2.2
    rw [← es] at rsum r5
    exact z_435 h2 hs2 hr l12 in2 rsum (by omega) (by omega) rc r5.1 r5.2 5 0 (by decide) (by decide)
  · have : y0 = 1 ↔ r3 = 1 := hyb.trans h3b.symm
    omega
theorem z_379 (h : INV I R J) (hs : SS J rds g L x4) (hr : ∀ r ∈ rds, r ∈ ST) (l12 : rds.length ≤ 12) : wL_law_379 sc x4 (DG J) I R := by
  have hn := h.2.1.2
  unfold wL_law_379
  refine k_doubt h (by rw [hs.1.1]; decide) (k_digest h ⟨rfl, fun w => absurd rfl w, fun _ => ?_⟩)
  refine c_count h (fun _ _ => ?_) (fun q => absurd (show (0 : Int) ≤ 6 ∧ (6 : Int) ≤ 10 by omega) q)
  rw [cv6]
  have e := cF_0 (p := fun i => br (mr J 1015 i) (J 1000 13) (J 1020)) (n := J 1000 14) 0
  refine ⟨fun w => z_408 h hs hr l12 (Or.inl rfl) ⟨fun q => absurd q (by decide), fun q => absurd (e.mpr (fun ⟨i, i0, i1, b⟩ => q i i0 i1 b)) w⟩, fun w => z_408 h hs hr l12 (Or.inr rfl) ⟨fun _ i i0 i1 b => (e.mp w) ⟨i, i0, i1, b⟩, fun _ => rfl⟩⟩
theorem z_167 (h : INV I R J) (hs : SS J rds g L x4) (hr : ∀ r ∈ rds, r ∈ ST) (l10 : rds.length ≤ 10) (pw : L.Pairwise lx) :
    ∀ (n : Nat) (x5 : Int), 0 ≤ x5 → x5 ≤ x4 → x4 - x5 < n → wL_law_167 sc n x4 x5 I R := by
  have sl := L_SL h hs hr
  have hs' := hs
  obtain ⟨hp, eg, eL, e4, e28, sol⟩ := hs'
  have x4b : 0 ≤ x4 ∧ x4 ≤ 30 ∧ x4 ≤ L.length := by rw [e4]; split <;> omega
  have eM := PZ_M hp
  have mem : ∀ i, 0 ≤ i → i < x4 → L.getD i.toNat (fun _ => 0) ∈ L := fun i i0 i1 => by
    have hi : i.toNat < L.length := by omega
    rw [List.getD_eq_getElem?_getD, List.getElem?_eq_getElem hi]
    exact List.getElem_mem hi
  intro n
  induction n with
  | zero => intro x5 _ _ _; omega
  | succ n ih =>
    intro x5 q0 q1 q2
    show wbL_law_167 sc (wL_law_167 sc n) x4 x5 I R
    unfold wbL_law_167
    refine ⟨fun _ => ?_, fun c f28 _ => ⟨5, ?_⟩⟩
    · refine k_digest h ?_
      have b4 := blw_b (a := sc 10) (b := 4) (by decide)
      refine k_hint h b4.1 (by omega) (fun z I' h' => ?_)
      refine c_count h' (fun _ _ => ?_) (fun q => absurd (show (0 : Int) ≤ 3 ∧ (3 : Int) ≤ 10 by omega) q)
      rw [cv3, hp.2.2.2.1]
      refine ⟨fun _ => z_379 h' hs hr (by omega), fun c1 => ?_⟩
      refine c_count h' (fun _ _ => ?_) (fun q => absurd (show (0 : Int) ≤ 3 ∧ (3 : Int) ≤ 10 by omega) q)
      rw [cv3, hp.2.2.2.1]
      have ba := blw_b (a := sc 10) (b := (rds.length : Int)) (by omega)
      exact ⟨by omega, k_isNeeded h' (by rw [hp.1]; decide) ba.1 (by rw [hp.2.2.2.1]; exact ba.2) (fun z I2 h2 => z_379 h2 hs hr (by omega))⟩
    · obtain ⟨x, ex⟩ : ∃ x, x = L.getD x5.toNat (fun _ => 0) := ⟨_, rfl⟩
      have hx : x ∈ L := by rw [ex]; exact mem x5 q0 (by omega)
      have sx := sl x hx
      have sv : ∀ c, 0 ≤ c → c < 4 → J 1029 (25 * x5 + c) = x c := fun c c0 c1 => by rw [sol x5 c q0 (by omega) c0 (by omega), ex]
      have k167 : wL_law_167 sc n x4 (x5 + 1) I R := ih _ (by omega) (by omega) (by omega)
      have L305 : ∀ (x7 : Int) (f : Int → Int), 0 < x5 → 0 ≤ x7 → x7 < 4 → (∀ c, 0 ≤ c → c < 4 → f c = x c) → L.getD (x5 - 1).toNat (fun _ => 0) x7 < x x7 → wL_law_305 sc (wL_law_167 sc n) x4 x5 x7 f I R := fun x7 f p5 p0 p1 hf hlt => by
        unfold wL_law_305
        refine ⟨by unfold inR; omega, k_solution h (by omega) (by omega) p0 (by omega) ?_⟩
        rw [sol (x5 - 1) x7 (by omega) (by omega) p0 (by omega), hf x7 p0 p1]
        exact ⟨⟨p0, p1⟩, fun _ => ⟨by unfold inR; omega, fun z ez => by subst ez; exact k167⟩, fun w => absurd hlt w⟩
      have L275 : ∀ (f : Int → Int), 0 < x5 → (∀ c, 0 ≤ c → c < 4 → f c = x c) → wL_law_275 sc (wL_law_167 sc n) 5 x4 x5 0 f I R := fun f p5 hf => by
        have hlx : lx (L.getD (x5 - 1).toNat (fun _ => 0)) x := by
          have i1 : (x5 - 1).toNat < L.length := by omega
          have i2 : x5.toNat < L.length := by omega
          have := (List.pairwise_iff_getElem.mp pw) (x5 - 1).toNat x5.toNat i1 i2 (by omega)
          rw [ex, List.getD_eq_getElem?_getD, List.getD_eq_getElem?_getD, List.getElem?_eq_getElem i1, List.getElem?_eq_getElem i2]
          exact this
        obtain ⟨d, d0, d1, de, dl⟩ := hlx
        have LL : ∀ (m : Nat) (x7 : Int), 0 ≤ x7 → x7 ≤ d → 4 - x7 < m → wL_law_275 sc (wL_law_167 sc n) m x4 x5 x7 f I R := by
          intro m
          induction m with
          | zero => intro x7 _ _ _; omega
          | succ m ihm =>
            intro x7 p0 p1 p2
            show wbL_law_275 sc (wL_law_167 sc n) (wL_law_275 sc (wL_law_167 sc n) m) x4 x5 x7 f I R
            unfold wbL_law_275
            refine ⟨fun c3 => ?_, fun c3 => ⟨by unfold inR; omega, k_solution h (by omega) (by omega) p0 (by omega) ?_⟩⟩
            · have : x7 = d := by omega
              subst this
              exact L305 _ f p5 p0 (by omega) hf dl
            · rw [sol (x5 - 1) x7 (by omega) (by omega) p0 (by omega), hf x7 p0 (by omega)]
              refine ⟨⟨p0, by omega⟩, fun w => ?_, fun w => ⟨by unfold inR; omega, fun z ez => ?_⟩⟩
              · have : x7 = d := by
                  by_cases q : x7 < d
                  · exact absurd (de x7 q) w
                  · omega
                subst this
                exact L305 _ f p5 p0 (by omega) hf dl
              · subst ez
                refine ihm _ (by omega) ?_ (by omega)
                by_cases q : x7 = d
                · subst q; omega
                · omega
        exact LL 5 0 (by decide) d0 (by decide)
      have L235 : ∀ (f : Int → Int), (∀ c, 0 ≤ c → c < 4 → f c = x c) → ∀ (m : Nat) (x7 : Int), 0 ≤ x7 → x7 ≤ rds.length → (rds.length : Int) - x7 < m → wL_law_235 sc (wL_law_167 sc n) m x4 x5 x7 f I R := fun f hf => by
        intro m
        induction m with
        | zero => intro x7 _ _ _; omega
        | succ m ihm =>
          intro x7 p0 p1 p2
          show wbL_law_235 sc (wL_law_167 sc n) (wL_law_235 sc (wL_law_167 sc n) m) x4 x5 x7 f I R
          unfold wbL_law_235
          refine c_count h (fun _ _ => ?_) (fun q => absurd (show (0 : Int) ≤ 3 ∧ (3 : Int) ≤ 10 by omega) q)
          rw [cv3, hp.2.2.2.1]
          refine ⟨fun _ => ⟨fun w => ⟨5, L275 f (by omega) hf⟩, fun _ => ⟨by unfold inR; omega, fun z ez => by subst ez; exact k167⟩⟩, fun c7 => ?_⟩
          have i1 : x7 < (rds.length : Int) := by omega
          have hbr := sx.2.2 x7 p0 i1 (by omega)
          have er := RU_e (rds := rds) (i := x7)
          have r5 : RU rds x7 3 ≤ 5 := by
            have l3 := (ST_3 _ (ST_in2 hr p0 i1)).2
            rw [e9_3 er]
            show (((rds.getD x7.toNat rd0).2.2.2.length : Nat) : Int) ≤ 5
            omega
          refine p_holds (r := rds.getD x7.toNat rd0) h p0 (by rw [hp.2.2.2.1]; exact i1) (ST_in2 hr p0 i1) (by rw [hp.2.2.2.2]; exact er) (fun c c0 c1 => by rw [hf c c0 c1]; exact ⟨(sx.2.1 c c0 c1).1, (sx.2.1 c c0 c1).2.1⟩) (fun b => hbr ?_) ⟨fun _ => ⟨by unfold inR; omega, fun z ez => ?_⟩, fun w => absurd w (by decide)⟩
          · have gg := h.2.1.2.2.2.1
            rw [eM, hp.2.2.2.1, hp.2.2.2.2] at gg
            have gi := gg x7 p0 i1
            refine (br_e9 r5 er).mpr ((br_cl (fun j j0 j1 => ?_)).mp b)
            have e3 := e9_3 er
            have ej := er (4 + j) (by omega) (by omega) (Or.inr (by omega))
            have hc := gi.2.2.2.2.2.2.2.2.2.2.2.1 j j0 (by omega)
            rw [ej] at hc
            exact hf _ hc.1 hc.2
          · subst ez; exact ihm _ (by omega) (by omega) (by omega)
      have L182 : ∀ (m : Nat) (x7 : Int) (f : Int → Int), 0 ≤ x7 → x7 ≤ 4 → 4 - x7 < m → (∀ c, 0 ≤ c → c < x7 → f c = x c) → wL_law_182 sc (wL_law_167 sc n) m x4 x5 x7 f I R := by
        intro m
        induction m with
        | zero => intro x7 f _ _ _; omega
        | succ m ihm =>
          intro x7 f p0 p1 p2 hf
          show wbL_law_182 sc (wL_law_167 sc n) (wL_law_182 sc (wL_law_167 sc n) m) x4 x5 x7 f I R
          unfold wbL_law_182
          refine ⟨fun c4 => ⟨11, Nat.le_refl _, L235 f (fun c c0 c1 => hf c c0 (by omega)) 11 0 (Int.le_refl 0) (by omega) (by omega)⟩, fun c4 => k_solution h q0 (by omega) p0 (by omega) ?_⟩
          rw [sv x7 p0 (by omega)]
          refine ⟨⟨p0, by omega⟩, fun f8 e8 => ?_⟩
          have nx : ∀ c, 0 ≤ c → c < x7 + 1 → f8 c = x c := fun c c0 c1 => by
            rw [e8]
            by_cases q : c = x7
            · subst q; rw [uFe]
            · rw [uFn q]; exact hf c c0 (by omega)
          have nxt : inR (x7 + 1) ∧ ∀ z, z = x7 + 1 → wL_law_182 sc (wL_law_167 sc n) m x4 x5 z f8 I R := ⟨by unfold inR; omega, fun z ez => by subst ez; exact ihm _ f8 (by omega) (by omega) (by omega) nx⟩
          refine k_value h p0 (by omega) ⟨fun _ => nxt, fun w => k_value h p0 (by omega) ⟨⟨p0, by omega⟩, fun _ => nxt, fun w2 => absurd ?_ w2⟩⟩
          have e := (sx.2.1 x7 p0 (by omega)).2.2
          have eg7 : g x7 = J 1020 x7 := by rw [← eg]; unfold gJ; rw [if_pos ⟨p0, by rw [eM]; omega⟩]
          rw [nx x7 p0 (by omega), e (by rw [eg7]; omega), eg7]
      exact L182 5 0 f28 (by decide) (by decide) (by decide) (fun c c0 c1 => by omega)
theorem z_95 (h : INV I R J) (hp : PZ J rds) (hr : ∀ r ∈ rds, r ∈ ST) (l10 : rds.length ≤ 10) :
    ∀ (n : Nat) (x : Int), 0 ≤ x → x ≤ 3 → 3 - x < n → wL_law_95 sc n x I R := by
  intro n
  induction n generalizing I J with
  | zero => intro x _ _ _; omega
  | succ n ih =>
    intro x q0 q1 q2
    have eM := PZ_M hp
    have b3 := blw_b (a := sc 7) (b := 3) (by decide)
    show wbL_law_95 sc (wL_law_95 sc n) x I R
    unfold wbL_law_95
    refine ⟨fun _ => ?_, fun c => ⟨by omega, by omega, ?_⟩⟩
    · obtain ⟨-, go, gg, d1, d2, d3⟩ := s_dfs (a := 30) h hp.1 hp.2.1 hp.2.2.1 (by decide) (by decide)
      refine k_search h (by rw [hp.1]; decide) (by decide) (by decide) (fun I' J' h' f' e28 sol => ?_)
      have hp' : PZ J' rds := ⟨by rw [f' _ _ (by decide) (by omega)]; exact hp.1, by rw [f' _ _ (by decide) (by omega)]; exact hp.2.1, by rw [f' _ _ (by decide) (by omega)]; exact hp.2.2.1, by rw [f' _ _ (by decide) (by omega)]; exact hp.2.2.2.1, by rw [mr_fr (fun b y z1 z2 => f' b y (by omega) (by omega))]; exact hp.2.2.2.2⟩
      have eg : gJ J' = gJ J := by
        funext c
        unfold gJ vM
        rw [f' 1000 11 (by decide) (by omega), f' 1000 12 (by decide) (by omega), f' 1020 c (by decide) (by omega)]
      have es : aS (sPr 30 4 (rds.length : Nat) (-1) (RU rds) (gJ J) (fun _ => 1)) 4 0 (fun _ => 0) = sJ 30 J := by unfold sJ; rw [hp.2.2.2.2, hp.2.2.2.1]
      have pw : (sJ 30 J).Pairwise lx := by unfold sJ; exact aS_pw go 4 0 _ (by decide) (by decide)
      have hs : SS J' rds (gJ J) (sJ 30 J) (rsl (dJ 30 J)) := ⟨hp', eg, es, d1, by rw [e28, d2, d1], fun i c i0 i1 c0 c1 => by
        have i2 : i < fnd (dJ 30 J) := by rw [d2, ← d1]; exact i1
        rw [sol i c i0 i2 c0 c1, d3 i i0 i2]⟩
      have rb : 0 ≤ rsl (dJ 30 J) ∧ rsl (dJ 30 J) ≤ 30 := by rw [d1]; split <;> omega
      exact ⟨fun _ => ⟨31, Nat.le_refl _, z_167 h' hs hr l10 pw 31 0 (Int.le_refl 0) rb.1 (by omega)⟩, fun w => absurd rb.1 w⟩
    · have b4 := blw_b (a := sc (8 + x)) (b := 4) (by decide)
      have b5 := blw_b (a := iShr (sc (8 + x)) 4) (b := 5) (by decide)
      refine k_put h b4.1 (by rw [eM]; exact b4.2) b5.1 (by rw [hp.2.2.1]; omega) (fun z I' h' => ⟨by unfold inR; omega, fun z14 e14 => ?_⟩)
      subst e14
      refine ih h' ⟨by rw [u2a (by decide)]; exact hp.1, by rw [u2a (by decide)]; exact hp.2.1, by rw [u2a (by decide)]; exact hp.2.2.1, by rw [u2a (by decide)]; exact hp.2.2.2.1, ?_⟩ _ (by omega) (by omega) (by omega)
      rw [mr_fr (fun b y z1 z2 => u2a (by omega))]
      exact hp.2.2.2.2
end LW
theorem getD_mem16 {j : Nat} (h : j < 16) : RT.getD j rd0 ∈ RT := by
  have hl : j < RT.length := h
  rw [List.getD_eq_getElem?_getD, List.getElem?_eq_getElem hl]
  exact List.getElem_mem hl
/-- the law holds of every script -/
theorem law_all (sc : Int → Int) : wL_law sc := by
  have b6 := blw_b (a := sc 0) (b := 6) (by decide)
  have LL : ∀ (n : Nat) (x : Int) (its : List rdT) (f : Int → Int), x = its.length → x ≤ blw (sc 0) 6 → blw (sc 0) 6 - x < n → (∀ r ∈ its, r ∈ RT) → atB f (byS (txt true its)) → wL_law_34 sc n (blw (sc 0) 6) x f I00 R00 := by
    intro n
    induction n with
    | zero => intro x its f _ _ _; omega
    | succ n ih =>
      intro x its f ex q1 q2 hr hf
      have hb := txt_by (b := true) (its := its) (fun r q => List.mem_append_left _ (hr r q))
      show wbL_law_34 sc (wL_law_34 sc n) (blw (sc 0) 6) x f I00 R00
      unfold wbL_law_34
      refine ⟨fun _ => ?_, fun c => ⟨by omega, ?_⟩⟩
      · refine p_lay INV_00 rfl hf (by omega) (by omega) hb.2 (fun I' J' h' f' e2 eb => ⟨fun w => absurd w (by decide), fun _ => ?_⟩)
        have l2 : ∀ l : List rdT, (∀ r ∈ l, r ∈ RT) → (l.flatMap rlI).length ≤ 2 * l.length := by
          intro l
          induction l with
          | nil => intro _; exact Nat.zero_le _
          | cons r l ih2 =>
            intro hl
            have a1 := RT_l r (hl r List.mem_cons_self)
            have a2 := ih2 (fun q hq => hl q (List.mem_cons_of_mem _ hq))
            rw [List.flatMap_cons, List.length_append, List.length_cons]
            omega
        have l10 := l2 its hr
        refine z_comp (b := true) (its := its) (rds := its.flatMap rlI) h' e2 eb (fun r q => RT_ok r (hr r q)) (by omega) rfl (by omega) (fun I2 R2 J2 h2 hp2 _ => ⟨fun _ => ⟨4, ?_⟩, fun w => absurd rfl w⟩)
        exact z_95 h2 hp2 (fun r q => by
          obtain ⟨a, ha, hq⟩ := List.mem_flatMap.mp q
          exact ST_in (hr a ha) hq) (by omega) 4 0 (by decide) (by decide) (by decide)
      · have b16 := blw_b (a := sc (1 + x)) (b := 16) (by decide)
        generalize blw (sc (1 + x)) 16 = j at *
        have hj : j.toNat < 16 := by omega
        have mj := getD_mem16 hj
        have rb := RT_b j.toNat hj
        have rl20 := (RT_by _ (List.mem_append_left _ mj)).1
        have tl := bysX_l (i := 15 + j.toNat)
        have el : (byS (itT (RT.getD j.toNat rd0))).length = (bysX (15 + j.toNat)).length + 1 := by rw [rb, List.length_append]; rfl
        refine ⟨by omega, p_put hf (by omega) (fun f1 h1 => p_put h1 ?_ (fun f2 h2 => ⟨by unfold inR; omega, fun z ez => ?_⟩))⟩
        · rw [List.length_append]
          show ((_ : Nat) : Int) + 1 < 890
          omega
        · subst ez
          refine ih _ (its ++ [RT.getD j.toNat rd0]) f2 (by rw [List.length_append, List.length_singleton]; omega) (by omega) (by omega) (fun r q => ?_) ?_
          · rcases List.mem_append.mp q with q | q
            · exact hr r q
            · rw [List.mem_singleton.mp q]; exact mj
          · have e : byS (txt true (its ++ [RT.getD j.toNat rd0])) = byS (txt true its) ++ bysX (15 + j.toNat) ++ bysX 32 := by
              unfold txt
              rw [byS_app, byS_app, byS_its, byS_its, List.flatMap_append, List.flatMap_singleton, rb, SM_b, List.append_assoc, List.append_assoc]
            rw [e]
            exact h2
  unfold wL_law
  intro f2 e2
  have h0 : atB f2 [] := by
    rw [e2]
    exact ⟨rfl, fun j hj => absurd hj (by show ¬ j < 0; omega)⟩
  refine p_put h0 (by decide +kernel) (fun f' h' z8 ez => ⟨6, ?_⟩)
  subst ez
  refine LL 6 0 [] f' rfl b6.1 (by omega) (fun r q => (List.not_mem_nil q).elim) ?_
  have e : byS (txt true []) = [] ++ bysX 31 := by
    rw [List.nil_append, ← HD_b]
    unfold txt
    rw [byS_app]
    show byS (hdT true) ++ [] = _
    rw [List.append_nil]
  rw [e]
  exact h'
