/-! ===== the law: what is made ===== -/
theorem PZ_M {J : cI} {rds : List rdT} (h : PZ J rds) : vM J = 4 := by unfold vM; rw [h.1, h.2.1]; rfl
theorem mk_eq {J Jo : cI} {rds : List rdT} {a : Int} (h : PZ J rds) (ho : PZ Jo rds) : mkF J = mkF Jo ∧ mkE J a = mkE Jo a ∧ mkS J a = mkS Jo a := by
  have e : mkF J = mkF Jo := by unfold mkF; rw [h.2.2.2.2, ho.2.2.2.2, h.2.2.2.1, ho.2.2.2.1]
  have e2 : mkE J a = mkE Jo a := by unfold mkE; rw [PZ_M h, PZ_M ho, h.2.2.1, ho.2.2.1, e]
  refine ⟨e, e2, ?_⟩
  unfold mkS
  rw [PZ_M h, PZ_M ho, h.2.2.1, ho.2.2.1, e, e2]
theorem ST_g3 {rds : List rdT} {n : Int} (hr : ∀ r ∈ rds, r ∈ ST) (hn : n = rds.length) : g3 n (RU rds) := fun i i0 i1 => by
  have e := e9_3 (RU_e (rds := rds) (i := i))
  rw [e]
  have hi : i.toNat < rds.length := by omega
  have m : rds.getD i.toNat rd0 ∈ rds := by
    rw [List.getD_eq_getElem?_getD, List.getElem?_eq_getElem hi]
    exact List.getElem_mem hi
  have := (ST_3 _ (hr _ m)).1
  show 1 ≤ (((rds.getD i.toNat rd0).2.2.2.length : Nat) : Int)
  omega
section MD
variable {I Io : cI} {R Ro : cR} {J Jo : cI} {rds : List rdT} {a : Int}
theorem mk_f (h : INV I R J) (hp : PZ J rds) (hr : ∀ r ∈ rds, r ∈ ST) (a0 : 0 ≤ a) (a1 : a < 65536) (hd : fnd (mkE J a) = 1) : (∃ x, g3 (mkS J a).1 (mkS J a).2 ∧ UQ (mkS J a).1 (mkS J a).2 x) ∧ 0 ≤ cF (fun i => (mkS J a).2 i 0 = 9) 0 (mkS J a).1 ∧ cF (fun i => (mkS J a).2 i 0 = 9) 0 (mkS J a).1 ≤ 4 := by
  have eM := PZ_M hp
  have e13 := hp.2.2.1
  have hn := h.2.1.2
  have g := hn.2.2.1
  rw [eM] at g
  have e14 := hp.2.2.2.1
  have en : ((J 1000 14).toNat : Int) = J 1000 14 := Int.toNat_of_nonneg hn.1
  have fb := fl_b (ρ := mr J 1015) (J 1000 14).toNat
  have fg := fl_gp g (J 1000 14).toNat (by omega)
  have f3 := fl_g3 (ρ := mr J 1015) (J 1000 14).toNat (by rw [hp.2.2.2.2]; exact ST_g3 hr (by omega))
  have h40 : (fl (mr J 1015) (J 1000 14).toNat).1 ≤ 40 := by
    rw [fl_c, Int.toNat_of_nonneg hn.1]; exact hn.2.2.2
  have eF : fl (mr J 1015) (J 1000 14).toNat = mkF J := rfl
  rw [eF] at fb fg f3 h40
  have go := mkD_go (M := 4) (s := a) (nf := (mkF J).1) (σ := (mkF J).2) (show (1 : Int) ≤ 4 by decide) (show (4 : Int) ≤ 5 by decide)
  have eE : mkE J a = mkD 4 4 a (mkF J).1 (mkF J).2 := by unfold mkE; rw [eM, e13]
  have eS : mkS J a = thn 4 4 (mkF J).1 4 (dw (dit a 4) / 16 % 4) ((mkF J).1 + 4, fam (mkF J).2 (mkF J).1 ((mkE J a).2.2.2.2 0)) := by unfold mkS; rw [eM, e13]; rfl
  rw [eE] at hd eS
  have d := dfs4 (L := aS (sPr 1 4 (mkF J).1 (-1) (mkF J).2 (fun _ => 0) (fiS 4 4 a)) 4 0 (fun _ => 0)) go rfl rfl
  have eD : dfs (sPr 1 4 (mkF J).1 (-1) (mkF J).2 (fun _ => 0) (fiS 4 4 a)) 4 0 st0 = mkD 4 4 a (mkF J).1 (mkF J).2 := rfl
  rw [eD] at d
  have e1 : (sPr 1 4 (mkF J).1 (-1) (mkF J).2 (fun _ => 0) (fiS 4 4 a)).1 = 1 := rfl
  rw [e1] at d
  have mem : (mkD 4 4 a (mkF J).1 (mkF J).2).2.2.2.2 0 ∈ aS (sPr 1 4 (mkF J).1 (-1) (mkF J).2 (fun _ => 0) (fiS 4 4 a)) 4 0 (fun _ => 0) := by
    have d2 := d.2.1
    rw [hd] at d2
    have d3 := d.2.2 0 (by decide) (by omega)
    rw [d3]
    generalize aS (sPr 1 4 (mkF J).1 (-1) (mkF J).2 (fun _ => 0) (fiS 4 4 a)) 4 0 (fun _ => 0) = L at *
    have hl : 0 < L.length := by
      by_cases q : (L.length : Int) < 1
      · rw [if_pos q] at d2; omega
      · omega
    show L.getD 0 (fun _ => 0) ∈ L
    rw [List.getD_eq_getElem?_getD, List.getElem?_eq_getElem hl]
    exact List.getElem_mem hl
  have m0 := Int.emod_nonneg (dw (dit a 4) / 16) (show (4 : Int) ≠ 0 by decide)
  have m1 := Int.emod_lt_of_pos (dw (dit a 4) / 16) (show (0 : Int) < 4 by decide)
  have T0 := mk_TI (M := 4) (k := 4) (s := a) (Or.inl rfl) (by decide) (by decide) fb.1 h40 fg hd m0 m1
  generalize hx : (mkD 4 4 a (mkF J).1 (mkF J).2).2.2.2.2 0 = x at *
  have T0' : TI 4 (mkF J).1 4 (dw (dit a 4) / 16 % 4) ((mkF J).1 + 4, fam (mkF J).2 (mkF J).1 x) := T0
  have sl := mem_SL go (fun i i0 i1 => (fg i i0 i1).1) f3 mem
  have q := thn_uq (x := x) 4 _ _ T0' (fam_g3 f3) (fam_uq fb.1 sl)
  obtain ⟨c', TT, le⟩ := TI_n (h := 4) (Or.inl rfl) 4 _ _ T0'
  rw [eS]
  refine ⟨⟨x, q⟩, ?_⟩
  generalize thn 4 4 (mkF J).1 4 (dw (dit a 4) / 16 % 4) ((mkF J).1 + 4, fam (mkF J).2 (mkF J).1 x) = S at *
  have le' : S.1 ≤ (mkF J).1 + 4 := le
  obtain ⟨t1, t2, t3, t4, t5, -⟩ := TT
  have z1 := (cF_b (p := fun i => S.2 i 0 = 9) (n := S.1) 0 (by omega)).1
  refine ⟨z1, ?_⟩
  unfold cF
  rw [sF_split (n := S.1) (r := (mkF J).1) t2 0 t1]
  have c1 := (cF_0 (p := fun i => S.2 i 0 = 9) (n := (mkF J).1) 0).mpr (fun ⟨i, i0, i1, q⟩ => t5 i i0 i1 q)
  have c2 := cF_b (p := fun i => S.2 i 0 = 9) (n := S.1) (mkF J).1 t2
  unfold cF at c1 c2
  omega
theorem cv3 {J : cI} : cv J 3 = J 1000 14 := by
  unfold cv
  rw [if_neg (by decide), if_neg (by decide), if_neg (by decide), if_pos rfl]
theorem cv4 {J : cI} : cv J 4 = cF (fun i => mr J 1015 i 0 = 9) 0 (J 1000 14) := by
  unfold cv
  rw [if_neg (by decide), if_neg (by decide), if_neg (by decide), if_neg (by decide), if_pos rfl]
theorem z_711 {sc : Int → Int} (h : INV I R J) (hp : PZ J rds) (ho : INV Io Ro Jo) (hpo : PZ Jo rds) (hr : ∀ r ∈ rds, r ∈ ST) :
    ∀ (n : Nat) (x13 : Int), 0 ≤ x13 → x13 ≤ rds.length → (rds.length : Int) - x13 < n → wL_law_711 sc n x13 I R Io Ro := by
  have e14 := hp.2.2.2.1
  have n65 := h.2.1.2.2.1
  have e14o := hpo.2.2.2.1
  intro n
  induction n with
  | zero => intro x13 _ _ _; omega
  | succ n ih =>
    intro x13 q0 q1 q2
    show wbL_law_711 sc (wL_law_711 sc n) x13 I R Io Ro
    unfold wbL_law_711
    refine c_count h (fun _ _ => ?_) (fun q => absurd (show (0 : Int) ≤ 3 ∧ (3 : Int) ≤ 10 by omega) q)
    rw [cv3, e14]
    refine ⟨fun c => ?_, fun c => ⟨10, ?_⟩⟩
    · have ba := blw_b (a := sc 12) (b := 65536) (by decide)
      have hmk : ∀ v, (∀ Q : Int → cI → cR → Prop, (fnd (mkE J (blw (sc 12) 65536)) = 1 → v = cF (fun i => (mkS J (blw (sc 12) 65536)).2 i 0 = 9) 0 (mkS J (blw (sc 12) 65536)).1) → fnd (mkE J (blw (sc 12) 65536)) = 1 → (∀ I' R', Q v I' R') → wX11_make (blw (sc 12) 65536) Io Ro Q (fun _ _ _ => False)) := fun v Q hv hd hQ => by
        have e := mk_eq (a := blw (sc 12) 65536) hp hpo
        rw [e.2.1] at hd hv
        rw [e.2.2] at hv
        refine k_make ho (by rw [hpo.1]; decide) ba.1 (by omega) (fun nd => absurd hd nd) (fun _ I' R' _ _ => ?_)
        rw [← hv hd]
        exact hQ _ _
      generalize ha : blw (sc 12) 65536 = a at *
      refine k_make h (by rw [hp.1]; decide) ba.1 (by omega) (fun nd I' R' h' => ⟨fun w => absurd w (by decide), fun _ => ?_⟩) (fun hd I' R' _ h' => ?_)
      · refine c_count h' (fun _ _ => c_count ho (fun _ _ => ?_) (fun q => absurd (show (0 : Int) ≤ 3 ∧ (3 : Int) ≤ 10 by omega) q)) (fun q => absurd (show (0 : Int) ≤ 3 ∧ (3 : Int) ≤ 10 by omega) q)
        rw [cv3, cv3, e14, e14o]
        exact ⟨fun w => absurd rfl w, fun _ => trivial⟩
      · obtain ⟨⟨x, x3, xu⟩, r0, r4⟩ := mk_f h hp hr ba.1 ba.2 hd
        have hmk' := fun Q hQ => hmk _ Q (fun _ => rfl) hd hQ
        rw [hp.1, hp.2.1, hp.2.2.1] at h'
        generalize mkS J a = S at *
        generalize hv : cF (fun i => S.2 i 0 = 9) 0 S.1 = r6 at *
        generalize hJ2 : jG J 2 2 4 S.1 S.2 (fun _ => 0) = J2 at h'
        have k11 : J2 1000 11 = 2 := by rw [← hJ2]; rfl
        have k12 : J2 1000 12 = 2 := by rw [← hJ2]; rfl
        have k13 : J2 1000 13 = 4 := by rw [← hJ2]; rfl
        have k14 : J2 1000 14 = S.1 := by rw [← hJ2]; rfl
        have k20 : J2 1020 = fun _ => 0 := by rw [← hJ2]; rfl
        have kr : ∀ i, 0 ≤ i → i < S.1 → e9 (S.2 i) (mr J2 1015 i) := fun i _ _ => by rw [← hJ2]; exact e9_s jG_e
        have j11 : jT J2 1000 11 = 2 := by rw [jT_o (by decide) (by decide)]; exact k11
        have j12 : jT J2 1000 12 = 2 := by rw [jT_o (by decide) (by decide)]; exact k12
        have j13 : jT J2 1000 13 = 4 := by rw [jT_o (by decide) (by decide)]; exact k13
        have j14 : jT J2 1000 14 = S.1 := by rw [jT_o (by decide) (by decide)]; exact k14
        have j20 : jT J2 1020 = fun _ => 0 := by
          rw [← k20]; funext c; exact jT_o (by decide) (by omega)
        have gg := h'.2.1.2.2.2.1
        have eMJ : vM (jT J2) = 4 := by unfold vM; rw [j11, j12]; rfl
        rw [eMJ, j14] at gg
        have gS : gp 4 S.1 S.2 := gp_e (fun i i0 i1 => by have := kr i i0 i1; rw [← jT_mr] at this; exact e9_s this) gg
        have u3' : g3 (jT J2 1000 14) (mr (jT J2) 1015) := by rw [j14, jT_mr]; exact g3_e9 kr x3
        have uu : UQ (jT J2 1000 14) (mr (jT J2) 1015) x := by rw [j14, jT_mr]; exact UQ_e9 gS kr xu
        have one := s_one (x := x) h' j11 j12 j13 (fun c => by rw [j20]) u3' uu
        refine ⟨fun _ => ?_, fun w => absurd r0 w⟩
        refine k_search h' (by rw [j11]; decide) (by decide) (by decide) (fun I3 J3 h3' f3 e3 s3 => ?_)
        rw [one.1]
        refine ⟨fun w => absurd rfl w, fun _ => ?_⟩
        rw [one.2.1] at e3 s3
        have f14 : J3 1000 14 = S.1 := by rw [f3 _ _ (by decide) (by omega)]; exact j14
        have fr : mr J3 1015 = mr J2 1015 := by rw [mr_fr (fun b y z1 z2 => f3 b y (by omega) (by omega)), jT_mr]
        refine c_count h3' (fun _ _ => ?_) (fun q => absurd (show (0 : Int) ≤ 4 ∧ (4 : Int) ≤ 10 by omega) q)
        have ec : cv J3 4 = r6 := by
          rw [cv4, f14, fr, ← hv]
          exact cF_cg (fun i i0 i1 => by rw [kr i i0 i1 0 (by decide) (by decide) (Or.inl (by decide))])
        rw [ec]
        refine ⟨fun w => absurd rfl w, fun _ => ⟨fun _ f22 e22 => ⟨5, ?_⟩, fun w => absurd r4 w⟩⟩
        refine z_842 (x := x) h3' (by rw [f3 _ _ (by decide) (by omega)]; exact j11) (by rw [f3 _ _ (by decide) (by omega)]; exact j12) (by rw [f3 _ _ (by decide) (by omega)]; exact j13) e3 (fun c c0 c1 => by rw [s3 0 c (by decide) (by decide) c0 (by omega), one.2.2]) (by rw [← j20]; funext c; exact f3 _ _ (by decide) (by omega)) (by rw [f14, fr, ← j14, ← jT_mr]; exact u3') (by rw [f14, fr, ← j14, ← jT_mr]; exact uu) (by rw [ha]; exact hmk') 5 0 f22 (by decide) (by decide) (by decide) (fun c c0 c1 => by omega)
    · have L : ∀ (m : Nat) (x14 : Int), 0 ≤ x14 → x14 ≤ 9 → 9 - x14 < m → wL_law_724 sc (wL_law_711 sc n) m x13 x14 I R Io Ro := by
        intro m
        induction m with
        | zero => intro x14 _ _ _; omega
        | succ m ihm =>
          intro x14 p0 p1 p2
          show wbL_law_724 sc (wL_law_711 sc n) (wL_law_724 sc (wL_law_711 sc n) m) x13 x14 I R Io Ro
          unfold wbL_law_724
          refine ⟨fun _ => ⟨by unfold inR; omega, fun z ez => by subst ez; exact ih _ (by omega) (by omega) (by omega)⟩, fun c9 => ?_⟩
          refine c_rule h (fun _ _ _ _ => c_rule ho (fun _ _ _ _ => ?_) (fun q => absurd ⟨⟨q0, by omega⟩, p0, by omega⟩ q)) (fun q => absurd ⟨⟨q0, by omega⟩, p0, by omega⟩ q)
          have e : rl J x13 x14 = rl Jo x13 x14 := by
            unfold rl
            rw [hp.2.2.2.2, hpo.2.2.2.2, if_pos (show x14 < 9 by omega), if_pos (show x14 < 9 by omega)]
          rw [e]
          exact ⟨fun _ => ⟨by unfold inR; omega, fun z ez => by subst ez; exact ihm _ (by omega) (by omega) (by omega)⟩, fun w => absurd rfl w⟩
      exact L 10 0 (by decide) (by decide) (by decide)
end MD
