/-! ===== walks: X12_search, X12_solution, X12_isNeeded, X12_look_, X12_possible, X12_canFill, X12_isPossible, X12_gradeOf, X12_findHint, X12_hint, X12_step, X12_pass, X12_reason, X12_withValues ===== -/
theorem ydX12_search : yX12_search.cls = RX12 ∧ yX12_search.cls ≠ "java/lang/invoke/MethodHandle" ∧ yX12_search.cls ≠ "java/lang/invoke/VarHandle" ∧ (parseMethodDescriptor yX12_search.desc).map (fun d => d.parameters.length) = some 1 := by decide +kernel
def vX12_search : List Cond := Cond.code yX12_search cX12_search 4 (some .int) :: bG
set_option maxHeartbeats 4000000 in
set_option maxRecDepth 100000 in
theorem bX12_search_65 {X : xC} {E : cE} (F : mF X E RX12 cX12_search bG) (hR : X.1.2.2.2 = rmK 6 (1) (25)) (hN : X.2.2.1.2.2.2 = 4) {Q : Int → cI → Prop} (hret : rIM X E cX12_search (1) (25) Q) {a1 : Int} (ha1 : inR a1) : ∀ n65 : Nat, ∀ (x2 : Int) (x3 : Int) (J : cI), inR x2 → inR x3 → mM J → wX12_search_65 Q a1 n65 x2 x3 J → cW X (1) (25) 65 [(0, .ref (E.1 1000)), (2, iV x2), (3, iV x3)] [] (gw E.1 mIds (mef E J) ++ []) := by
  intro n65
  induction n65 with
  | zero => intro x2 x3 J hx2 hx3 hm hw; exact hw.elim
  | succ n65 ih =>
    intro x2 x3 J hx2 hx3 hm hw
    change wbX12_search_65 Q a1 (wX12_search_65 Q a1 n65) x2 x3 J at hw
    unfold wbX12_search_65 at hw
    refine q_iload_n F 2 dX12_search_65 rfl rfl ?_
    refine q_aload_n F 0 dX12_search_66 rfl rfl ?_
    refine s_g_kept F ib12 wd901 dX12_search_67 ?_
    refine q_bipush F dX12_search_70 (by decide) ?_
    refine q_imul F dX12_search_72 ?_
    obtain ⟨k1, hw⟩ := hw
    refine q_icmp_ge F hx3 k1 94 dX12_search_73 (by decide) (fun hc => ?_) (fun hc => ?_)
    · have hw := hw.1 hc
      refine q_iload_n F 1 dX12_search_94 rfl rfl ?_
      exact hret _ _ _ _ _ dX12_search_95 hx2 hm hw
    · have hw := hw.2 hc
      refine q_aload_n F 0 dX12_search_76 rfl rfl ?_
      refine s_g_keptValues F ib12 wd902 dX12_search_77 ?_
      refine q_iload_n F 2 dX12_search_80 rfl rfl ?_
      refine q_aload_n F 0 dX12_search_81 rfl rfl ?_
      refine s_g_solutions F ib12 wd899 dX12_search_82 ?_
      refine q_iload_n F 2 dX12_search_85 rfl rfl ?_
      obtain ⟨k2, hw⟩ := hw
      refine s_ald F 750 kM_solutions k2 (by decide) dX12_search_86 ?_
      obtain ⟨k3, hw⟩ := hw
      obtain ⟨J4, e5⟩ := ex1 (up2 J 1029 x3 ((J 1026 x3)))
      have hw := hw J4 e5
      have m6 : mM J4 := mM_I hm e5 (hm _ _)
      refine s_ast F 750 kM_keptValues k3 (by decide) e5 dX12_search_87 ?_
      obtain ⟨k9, hw⟩ := hw
      obtain ⟨z7, e8⟩ := ex1 (x3 + 1)
      have hw := hw z7 e8
      have hz7 : inR z7 := by rw [e8]; exact k9
      refine q_iinc (lv' := [(0, .ref (E.1 1000)), (2, iV x2), (3, iV z7)]) F 2 [1, 2, 0] dX12_search_88 rfl (q_n hN (by decide)) e8.symm rfl ?_
      refine q_goto F 65 dX12_search_91 (by decide) ?_
      exact ih x2 z7 J4 hx2 hz7 m6 hw
set_option maxHeartbeats 4000000 in
set_option maxRecDepth 100000 in
theorem kcX12_search {l : Launch} {D : va_G} {E : cE} {a1 : Int} {J : cI} (hm : mM J) (ha1 : inR a1) {Q : Int → cI → Prop} (hw : wX12_search a1 J Q) : gM l D E mIds yX12_search vX12_search (rmK 6 (1) (25)) [.ref (E.1 1000), iV a1] (mef E J) (mef E) (oI Q) (1) (25) := by
  unfold wX12_search at hw
  refine k_ofW (own := RX12) (cc := cX12_search) (maxL := 4) (ret := (some .int)) (lv := [(0, .ref (E.1 1000)), (1, iV a1)]) (by decide) rfl rfl (Nat.le_of_ble_eq_true rfl) rfl ?_
  intro X hl hR hN hD F K
  subst hl; subst hD
  have hret := mk_rIM (Q := Q) F K
  refine q_aload_n F 0 dX12_search_0 rfl rfl ?_
  refine q_iconst F dX12_search_1 ?_
  obtain ⟨J1, e2⟩ := ex1 (up2 J 1000 0 0)
  have hw := hw J1 e2
  have m3 : mM J1 := mM_I hm e2 (⟨by decide, by decide⟩ : inR (0))
  refine s_p_thrown F ib12 wd873 e2 dX12_search_2 ?_
  refine q_iload_n F 1 dX12_search_5 rfl rfl ?_
  refine q_iconst F dX12_search_6 ?_
  refine q_bipush F dX12_search_7 (by decide) ?_
  refine q_SiM F (kcX12_isIn m3 ha1 (⟨by decide, by decide⟩ : inR (1)) (⟨by decide, by decide⟩ : inR (30)) hw) (bS wd932 wd933 wd13 wd934) rfl ⟨rfl, rfl⟩ ydX12_isIn (rmK_le hR (by omega) (by decide)) (av := [iV a1, iV 1, iV 30]) rfl rfl (Nat.le_of_ble_eq_true rfl) dX12_search_9 (rmK_cs hR (by omega) (by omega)) (fun r4 J5 h6 m7 hw => ?_)
  refine q_if_ne F h6 21 dX12_search_12 (by decide) (fun hc => ?_) (fun hc => ?_)
  · have hw := hw.1 hc
    refine q_aload_n F 0 dX12_search_21 rfl rfl ?_
    refine s_g_w F ib12 wd884 dX12_search_22 ?_
    refine q_if_ne F (m7 _ _) 34 dX12_search_25 (by decide) (fun hc => ?_) (fun hc => ?_)
    · have hw := hw.1 hc
      refine q_aload_n F 0 dX12_search_34 rfl rfl ?_
      refine q_iconst F dX12_search_35 ?_
      refine q_VvM F (kcX12_prepare m7 (⟨by decide, by decide⟩ : inR (1)) hw) (by decide) meObj (ci := 10) rfl (bV wd1102 wd1103 wd1323 wd13 wd1104) rfl ⟨rfl, rfl⟩ ydX12_prepare (rmK_le hR (by omega) (by decide)) (av := [iV 1]) rfl rfl (Nat.le_of_ble_eq_true rfl) dX12_search_36 (rmK_cs hR (by omega) (by omega)) (fun J9 m11 hw => ?_)
      refine q_aload_n F 0 dX12_search_39 rfl rfl ?_
      refine q_iload_n F 1 dX12_search_40 rfl rfl ?_
      refine q_iconst F dX12_search_41 ?_
      refine q_ViM F (kcX12_look m11 ha1 (⟨by decide, by decide⟩ : inR (-1)) hw) (by decide) meObj (ci := 10) rfl (bV wd1105 wd1106 wd1324 wd13 wd1107) rfl ⟨rfl, rfl⟩ ydX12_look (rmK_le hR (by omega) (by decide)) (av := [iV a1, iV (-1)]) rfl rfl (Nat.le_of_ble_eq_true rfl) dX12_search_42 (rmK_cs hR (by omega) (by omega)) (fun r12 J13 h14 m15 hw => ?_)
      refine q_istore_n (lv' := [(0, .ref (E.1 1000)), (1, iV a1), (2, iV r12)]) F [1, 2, 0] dX12_search_45 rfl (q_n hN (by decide)) rfl ?_
      refine q_aload_n F 0 dX12_search_46 rfl rfl ?_
      refine q_aload_n F 0 dX12_search_47 rfl rfl ?_
      refine s_g_tries F ib12 wd897 dX12_search_48 ?_
      obtain ⟨J16, e17⟩ := ex1 (up2 J13 1000 27 ((J13 1000 24)))
      have hw := hw J16 e17
      have m18 : mM J16 := mM_I m15 e17 (m15 _ _)
      refine s_p_searched F ib12 wd900 e17 dX12_search_51 ?_
      refine q_aload_n F 0 dX12_search_54 rfl rfl ?_
      refine q_iconst F dX12_search_55 ?_
      refine q_iload_n F 2 dX12_search_56 rfl rfl ?_
      refine q_max F hR (by omega) (⟨by decide, by decide⟩ : inR (0)) h14 wd1033 dX12_search_57 (Nat.le_of_ble_eq_true rfl) ?_
      obtain ⟨J19, e20⟩ := ex1 (up2 J16 1000 28 ((imax 0 r12)))
      have hw := hw J19 e20
      have m21 : mM J19 := mM_I m18 e20 (imax_in (⟨by decide, by decide⟩ : inR (0)) h14)
      refine s_p_kept F ib12 wd901 e20 dX12_search_60 ?_
      refine q_iconst F dX12_search_63 ?_
      refine q_istore_n (lv' := [(0, .ref (E.1 1000)), (1, iV a1), (2, iV r12), (3, iV 0)]) F [1, 2, 3, 0] dX12_search_64 rfl (q_n hN (by decide)) rfl ?_
      refine q_lv [0, 2, 3] rfl ?_
      obtain ⟨n22, hw⟩ := hw
      exact bX12_search_65 F hR hN hret ha1 n22 r12 0 J19 h14 (⟨by decide, by decide⟩ : inR (0)) m21 hw
    · have hw := hw.2 hc
      refine q_aload_n F 0 dX12_search_28 rfl rfl ?_
      refine q_iconst F dX12_search_29 ?_
      refine q_ViM F (kcX12_no m7 (⟨by decide, by decide⟩ : inR (2)) hw) (by decide) meObj (ci := 10) rfl (bV wd925 wd926 wd1285 wd13 wd927) rfl ⟨rfl, rfl⟩ ydX12_no (rmK_le hR (by omega) (by decide)) (av := [iV 2]) rfl rfl (Nat.le_of_ble_eq_true rfl) dX12_search_30 (rmK_cs hR (by omega) (by omega)) (fun r23 J24 h25 m26 hw => ?_)
      refine q_wide (nc' := 1) (ns' := 25) (by omega) (by omega) ?_
      exact hret _ _ _ _ _ dX12_search_33 h25 m26 hw
  · have hw := hw.2 hc
    refine q_aload_n F 0 dX12_search_15 rfl rfl ?_
    refine q_iconst F dX12_search_16 ?_
    refine q_ViM F (kcX12_no m7 (⟨by decide, by decide⟩ : inR (1)) hw) (by decide) meObj (ci := 10) rfl (bV wd925 wd926 wd1285 wd13 wd927) rfl ⟨rfl, rfl⟩ ydX12_no (rmK_le hR (by omega) (by decide)) (av := [iV 1]) rfl rfl (Nat.le_of_ble_eq_true rfl) dX12_search_17 (rmK_cs hR (by omega) (by omega)) (fun r27 J28 h29 m30 hw => ?_)
    refine q_wide (nc' := 1) (ns' := 25) (by omega) (by omega) ?_
    exact hret _ _ _ _ _ dX12_search_20 h29 m30 hw
theorem ydX12_solution : yX12_solution.cls = RX12 ∧ yX12_solution.cls ≠ "java/lang/invoke/MethodHandle" ∧ yX12_solution.cls ≠ "java/lang/invoke/VarHandle" ∧ (parseMethodDescriptor yX12_solution.desc).map (fun d => d.parameters.length) = some 2 := by decide +kernel
def vX12_solution : List Cond := Cond.code yX12_solution cX12_solution 3 (some .int) :: bG
set_option maxHeartbeats 4000000 in
set_option maxRecDepth 100000 in
theorem bX12_solution_41 {X : xC} {E : cE} (F : mF X E RX12 cX12_solution bG) (hR : X.1.2.2.2 = rmK 3 (0) (0)) (hN : X.2.2.1.2.2.2 = 3) {Q : Int → cI → Prop} (hret : rIM X E cX12_solution (0) (0) Q) {a1 : Int} {a2 : Int} (ha1 : inR a1) (ha2 : inR a2) : ∀ (J : cI), mM J → wX12_solution_41 Q a1 a2 J → cW X (0) (0) 41 [(0, .ref (E.1 1000))] [] (gw E.1 mIds (mef E J) ++ []) := by
  intro J hm hw
  unfold wX12_solution_41 at hw
  refine q_aload_n F 0 dX12_solution_41 rfl rfl ?_
  refine q_iconst F dX12_solution_42 ?_
  refine q_ViM F (kcX12_no hm (⟨by decide, by decide⟩ : inR (1)) hw) (by decide) meObj (ci := 10) rfl (bV wd925 wd926 wd1285 wd13 wd927) rfl ⟨rfl, rfl⟩ ydX12_no (rmK_le hR (by omega) (by decide)) (av := [iV 1]) rfl rfl (Nat.le_of_ble_eq_true rfl) dX12_solution_43 (rmK_cs hR (by omega) (by omega)) (fun r1 J2 h3 m4 hw => ?_)
  exact hret _ _ _ _ _ dX12_solution_46 h3 m4 hw
set_option maxHeartbeats 4000000 in
set_option maxRecDepth 100000 in
theorem kcX12_solution {l : Launch} {D : va_G} {E : cE} {a1 : Int} {a2 : Int} {J : cI} (hm : mM J) (ha1 : inR a1) (ha2 : inR a2) {Q : Int → cI → Prop} (hw : wX12_solution a1 a2 J Q) : gM l D E mIds yX12_solution vX12_solution (rmK 3 (0) (0)) [.ref (E.1 1000), iV a1, iV a2] (mef E J) (mef E) (oI Q) (0) (0) := by
  unfold wX12_solution at hw
  refine k_ofW (own := RX12) (cc := cX12_solution) (maxL := 3) (ret := (some .int)) (lv := [(0, .ref (E.1 1000)), (1, iV a1), (2, iV a2)]) (by decide) rfl rfl (Nat.le_of_ble_eq_true rfl) rfl ?_
  intro X hl hR hN hD F K
  subst hl; subst hD
  have hret := mk_rIM (Q := Q) F K
  refine q_aload_n F 0 dX12_solution_0 rfl rfl ?_
  refine q_iconst F dX12_solution_1 ?_
  obtain ⟨J1, e2⟩ := ex1 (up2 J 1000 0 0)
  have hw := hw J1 e2
  have m3 : mM J1 := mM_I hm e2 (⟨by decide, by decide⟩ : inR (0))
  refine s_p_thrown F ib12 wd873 e2 dX12_solution_2 ?_
  refine q_iload_n F 1 dX12_solution_5 rfl rfl ?_
  refine q_iconst F dX12_solution_6 ?_
  refine q_aload_n F 0 dX12_solution_7 rfl rfl ?_
  refine s_g_kept F ib12 wd901 dX12_solution_8 ?_
  refine q_iconst F dX12_solution_11 ?_
  refine q_isub F dX12_solution_12 ?_
  obtain ⟨k4, hw⟩ := hw
  refine q_SiM F (kcX12_isIn m3 ha1 (⟨by decide, by decide⟩ : inR (0)) k4 hw) (bS wd932 wd933 wd13 wd934) rfl ⟨rfl, rfl⟩ ydX12_isIn (rmK_le hR (by omega) (by decide)) (av := [iV a1, iV 0, iV (((J1 1000 28) - 1))]) rfl rfl (Nat.le_of_ble_eq_true rfl) dX12_solution_13 (rmK_cs hR (by omega) (by omega)) (fun r5 J6 h7 m8 hw => ?_)
  refine q_if_eq F h7 41 dX12_solution_16 (by decide) (fun hc => ?_) (fun hc => ?_)
  · have hw := hw.1 hc
    refine q_lv [0] rfl ?_
    exact bX12_solution_41 F hR hN hret ha1 ha2 J6 m8 hw
  · have hw := hw.2 hc
    refine q_aload_n F 0 dX12_solution_19 rfl rfl ?_
    refine q_iload_n F 2 dX12_solution_20 rfl rfl ?_
    refine q_ViM F (kcX12_isCell m8 ha2 hw) (by decide) meObj (ci := 10) rfl (bV wd1087 wd1088 wd1322 wd13 wd1089) rfl ⟨rfl, rfl⟩ ydX12_isCell (rmK_le hR (by omega) (by decide)) (av := [iV a2]) rfl rfl (Nat.le_of_ble_eq_true rfl) dX12_solution_21 (rmK_cs hR (by omega) (by omega)) (fun r9 J10 h11 m12 hw => ?_)
    refine q_if_eq F h11 41 dX12_solution_24 (by decide) (fun hc => ?_) (fun hc => ?_)
    · have hw := hw.1 hc
      refine q_lv [0] rfl ?_
      exact bX12_solution_41 F hR hN hret ha1 ha2 J10 m12 hw
    · have hw := hw.2 hc
      refine q_aload_n F 0 dX12_solution_27 rfl rfl ?_
      refine s_g_keptValues F ib12 wd902 dX12_solution_28 ?_
      refine q_bipush F dX12_solution_31 (by decide) ?_
      refine q_iload_n F 1 dX12_solution_33 rfl rfl ?_
      refine q_imul F dX12_solution_34 ?_
      refine q_iload_n F 2 dX12_solution_35 rfl rfl ?_
      refine q_iadd F dX12_solution_36 ?_
      obtain ⟨k13, hw⟩ := hw
      refine s_ald F 750 kM_keptValues k13 (by decide) dX12_solution_37 ?_
      refine q_goto F 46 dX12_solution_38 (by decide) ?_
      exact hret _ _ _ _ _ dX12_solution_46 (m12 _ _) m12 hw
theorem ydX12_isNeeded : yX12_isNeeded.cls = RX12 ∧ yX12_isNeeded.cls ≠ "java/lang/invoke/MethodHandle" ∧ yX12_isNeeded.cls ≠ "java/lang/invoke/VarHandle" ∧ (parseMethodDescriptor yX12_isNeeded.desc).map (fun d => d.parameters.length) = some 1 := by decide +kernel
def vX12_isNeeded : List Cond := Cond.code yX12_isNeeded cX12_isNeeded 2 (some .boolean) :: bG
set_option maxHeartbeats 4000000 in
set_option maxRecDepth 100000 in
theorem bX12_isNeeded_14 {X : xC} {E : cE} (F : mF X E RX12 cX12_isNeeded bG) (hR : X.1.2.2.2 = rmK 6 (2) (50)) (hN : X.2.2.1.2.2.2 = 2) {Q : Int → cI → Prop} (hret : rZM X E cX12_isNeeded (2) (50) Q) {a1 : Int} (ha1 : inR a1) : ∀ (y1 : Int) (J : cI), inR y1 → mM J → wX12_isNeeded_14 Q a1 y1 J → cW X (0) (0) 14 [(0, .ref (E.1 1000)), (1, iV a1)] [iV y1, .ref (E.1 1000)] (gw E.1 mIds (mef E J) ++ []) := by
  intro y1 J hy1 hm hw
  unfold wX12_isNeeded_14 at hw
  obtain ⟨J1, e2⟩ := ex1 (up2 J 1000 0 y1)
  have hw := hw J1 e2
  have m3 : mM J1 := mM_I hm e2 hy1
  refine s_p_thrown F ib12 wd873 e2 dX12_isNeeded_14 ?_
  refine q_aload_n F 0 dX12_isNeeded_17 rfl rfl ?_
  refine s_g_thrown F ib12 wd873 dX12_isNeeded_18 ?_
  refine q_if_eq F (m3 _ _) 26 dX12_isNeeded_21 (by decide) (fun hc => ?_) (fun hc => ?_)
  · have hw := hw.1 hc
    refine q_aload_n F 0 dX12_isNeeded_26 rfl rfl ?_
    refine q_iconst F dX12_isNeeded_27 ?_
    refine q_VvM F (kcX12_prepare m3 (⟨by decide, by decide⟩ : inR (0)) hw) (by decide) meObj (ci := 10) rfl (bV wd1102 wd1103 wd1323 wd13 wd1104) rfl ⟨rfl, rfl⟩ ydX12_prepare (rmK_le hR (by omega) (by decide)) (av := [iV 0]) rfl rfl (Nat.le_of_ble_eq_true rfl) dX12_isNeeded_28 (rmK_cs hR (by omega) (by omega)) (fun J5 m7 hw => ?_)
    refine q_aload_n F 0 dX12_isNeeded_31 rfl rfl ?_
    refine q_iconst F dX12_isNeeded_32 ?_
    refine q_iconst F dX12_isNeeded_33 ?_
    refine q_ViM F (kcX12_look m7 (⟨by decide, by decide⟩ : inR (2)) (⟨by decide, by decide⟩ : inR (-1)) hw) (by decide) meObj (ci := 10) rfl (bV wd1105 wd1106 wd1324 wd13 wd1107) rfl ⟨rfl, rfl⟩ ydX12_look (rmK_le hR (by omega) (by decide)) (av := [iV 2, iV (-1)]) rfl rfl (Nat.le_of_ble_eq_true rfl) dX12_isNeeded_34 (rmK_cs hR (by omega) (by omega)) (fun r8 J9 h10 m11 hw => ?_)
    refine q_iconst F dX12_isNeeded_37 ?_
    refine q_icmp_ne F h10 (⟨by decide, by decide⟩ : inR (1)) 51 dX12_isNeeded_38 (by decide) (fun hc => ?_) (fun hc => ?_)
    · have hw := hw.1 hc
      refine q_iconst F dX12_isNeeded_51 ?_
      refine q_goto F 56 dX12_isNeeded_52 (by decide) ?_
      refine q_wide (nc' := 2) (ns' := 50) (by omega) (by omega) ?_
      exact hret _ _ _ _ _ dX12_isNeeded_56 (Or.inr rfl) (⟨by decide, by decide⟩ : inR (1)) m11 hw
    · have hw := hw.2 hc
      refine q_aload_n F 0 dX12_isNeeded_41 rfl rfl ?_
      refine q_iconst F dX12_isNeeded_42 ?_
      refine q_iload_n F 1 dX12_isNeeded_43 rfl rfl ?_
      refine q_ViM F (kcX12_look m11 (⟨by decide, by decide⟩ : inR (2)) ha1 hw) (by decide) meObj (ci := 10) rfl (bV wd1105 wd1106 wd1324 wd13 wd1107) rfl ⟨rfl, rfl⟩ ydX12_look (rmK_le hR (by omega) (by decide)) (av := [iV 2, iV a1]) rfl rfl (Nat.le_of_ble_eq_true rfl) dX12_isNeeded_44 (rmK_cs hR (by omega) (by omega)) (fun r12 J13 h14 m15 hw => ?_)
      refine q_iconst F dX12_isNeeded_47 ?_
      refine q_icmp_eq F h14 (⟨by decide, by decide⟩ : inR (1)) 55 dX12_isNeeded_48 (by decide) (fun hc => ?_) (fun hc => ?_)
      · have hw := hw.1 hc
        refine q_iconst F dX12_isNeeded_55 ?_
        exact hret _ _ _ _ _ dX12_isNeeded_56 (Or.inl rfl) (⟨by decide, by decide⟩ : inR (0)) m15 hw
      · have hw := hw.2 hc
        refine q_iconst F dX12_isNeeded_51 ?_
        refine q_goto F 56 dX12_isNeeded_52 (by decide) ?_
        exact hret _ _ _ _ _ dX12_isNeeded_56 (Or.inr rfl) (⟨by decide, by decide⟩ : inR (1)) m15 hw
  · have hw := hw.2 hc
    refine q_iconst F dX12_isNeeded_24 ?_
    refine q_wide (nc' := 2) (ns' := 50) (by omega) (by omega) ?_
    exact hret _ _ _ _ _ dX12_isNeeded_25 (Or.inl rfl) (⟨by decide, by decide⟩ : inR (0)) m3 hw
set_option maxHeartbeats 4000000 in
set_option maxRecDepth 100000 in
theorem kcX12_isNeeded {l : Launch} {D : va_G} {E : cE} {a1 : Int} {J : cI} (hm : mM J) (ha1 : inR a1) {Q : Int → cI → Prop} (hw : wX12_isNeeded a1 J Q) : gM l D E mIds yX12_isNeeded vX12_isNeeded (rmK 6 (2) (50)) [.ref (E.1 1000), iV a1] (mef E J) (mef E) (oI Q) (2) (50) := by
  unfold wX12_isNeeded at hw
  refine k_ofW (own := RX12) (cc := cX12_isNeeded) (maxL := 2) (ret := (some .boolean)) (lv := [(0, .ref (E.1 1000)), (1, iV a1)]) (by decide) rfl rfl (Nat.le_of_ble_eq_true rfl) rfl ?_
  intro X hl hR hN hD F K
  subst hl; subst hD
  have hret := mk_rZM (Q := Q) F K
  refine q_aload_n F 0 dX12_isNeeded_0 rfl rfl ?_
  refine q_aload_n F 0 dX12_isNeeded_1 rfl rfl ?_
  refine q_iload_n F 1 dX12_isNeeded_2 rfl rfl ?_
  refine q_ViM F (kcX12_isRule hm ha1 hw) (by decide) meObj (ci := 10) rfl (bV wd1047 wd1048 wd1314 wd13 wd1049) rfl ⟨rfl, rfl⟩ ydX12_isRule (rmK_le hR (by omega) (by decide)) (av := [iV a1]) rfl rfl (Nat.le_of_ble_eq_true rfl) dX12_isNeeded_3 (rmK_cs hR (by omega) (by omega)) (fun r1 J2 h3 m4 hw => ?_)
  refine q_if_eq F h3 13 dX12_isNeeded_6 (by decide) (fun hc => ?_) (fun hc => ?_)
  · have hw := hw.1 hc
    refine q_iconst F dX12_isNeeded_13 ?_
    exact bX12_isNeeded_14 F hR hN hret ha1 1 J2 (⟨by decide, by decide⟩ : inR (1)) m4 hw
  · have hw := hw.2 hc
    refine q_iconst F dX12_isNeeded_9 ?_
    refine q_goto F 14 dX12_isNeeded_10 (by decide) ?_
    exact bX12_isNeeded_14 F hR hN hret ha1 0 J2 (⟨by decide, by decide⟩ : inR (0)) m4 hw
theorem ydX12_look_ : yX12_look_.cls = RX12 ∧ yX12_look_.cls ≠ "java/lang/invoke/MethodHandle" ∧ yX12_look_.cls ≠ "java/lang/invoke/VarHandle" ∧ (parseMethodDescriptor yX12_look_.desc).map (fun d => d.parameters.length) = some 0 := by decide +kernel
def vX12_look_ : List Cond := Cond.code yX12_look_ cX12_look_ 1 (some .int) :: bG
set_option maxHeartbeats 4000000 in
set_option maxRecDepth 100000 in
theorem kcX12_look_ {l : Launch} {D : va_G} {E : cE} {J : cI} (hm : mM J)  {Q : Int → cI → Prop} (hw : wX12_look_  J Q) : gM l D E mIds yX12_look_ vX12_look_ (rmK 3 (0) (0)) [.ref (E.1 1000)] (mef E J) (mef E) (oI Q) (0) (0) := by
  unfold wX12_look_ at hw
  refine k_ofW (own := RX12) (cc := cX12_look_) (maxL := 1) (ret := (some .int)) (lv := [(0, .ref (E.1 1000))]) (by decide) rfl rfl (Nat.le_of_ble_eq_true rfl) rfl ?_
  intro X hl hR hN hD F K
  subst hl; subst hD
  have hret := mk_rIM (Q := Q) F K
  refine q_aload_n F 0 dX12_look__0 rfl rfl ?_
  refine q_iconst F dX12_look__1 ?_
  obtain ⟨J1, e2⟩ := ex1 (up2 J 1000 0 0)
  have hw := hw J1 e2
  have m3 : mM J1 := mM_I hm e2 (⟨by decide, by decide⟩ : inR (0))
  refine s_p_thrown F ib12 wd873 e2 dX12_look__2 ?_
  refine q_aload_n F 0 dX12_look__5 rfl rfl ?_
  refine q_ViM F (kcX12_lookAnew m3 hw) (by decide) meObj (ci := 10) rfl (bV wd1000 wd1001 wd1304 wd13 wd1002) rfl ⟨rfl, rfl⟩ ydX12_lookAnew (rmK_le hR (by omega) (by decide)) (av := []) rfl rfl (Nat.le_of_ble_eq_true rfl) dX12_look__6 (rmK_cs hR (by omega) (by omega)) (fun r4 J5 h6 m7 hw => ?_)
  exact hret _ _ _ _ _ dX12_look__9 h6 m7 hw
theorem ydX12_possible : yX12_possible.cls = RX12 ∧ yX12_possible.cls ≠ "java/lang/invoke/MethodHandle" ∧ yX12_possible.cls ≠ "java/lang/invoke/VarHandle" ∧ (parseMethodDescriptor yX12_possible.desc).map (fun d => d.parameters.length) = some 1 := by decide +kernel
def vX12_possible : List Cond := Cond.code yX12_possible cX12_possible 2 (some .int) :: bG
set_option maxHeartbeats 4000000 in
set_option maxRecDepth 100000 in
theorem kcX12_possible {l : Launch} {D : va_G} {E : cE} {a1 : Int} {J : cI} (hm : mM J) (ha1 : inR a1) {Q : Int → cI → Prop} (hw : wX12_possible a1 J Q) : gM l D E mIds yX12_possible vX12_possible (rmK 3 (0) (0)) [.ref (E.1 1000), iV a1] (mef E J) (mef E) (oI Q) (0) (0) := by
  unfold wX12_possible at hw
  refine k_ofW (own := RX12) (cc := cX12_possible) (maxL := 2) (ret := (some .int)) (lv := [(0, .ref (E.1 1000)), (1, iV a1)]) (by decide) rfl rfl (Nat.le_of_ble_eq_true rfl) rfl ?_
  intro X hl hR hN hD F K
  subst hl; subst hD
  have hret := mk_rIM (Q := Q) F K
  refine q_aload_n F 0 dX12_possible_0 rfl rfl ?_
  refine q_iconst F dX12_possible_1 ?_
  obtain ⟨J1, e2⟩ := ex1 (up2 J 1000 0 0)
  have hw := hw J1 e2
  have m3 : mM J1 := mM_I hm e2 (⟨by decide, by decide⟩ : inR (0))
  refine s_p_thrown F ib12 wd873 e2 dX12_possible_2 ?_
  refine q_aload_n F 0 dX12_possible_5 rfl rfl ?_
  refine q_iload_n F 1 dX12_possible_6 rfl rfl ?_
  refine q_ViM F (kcX12_isCell m3 ha1 hw) (by decide) meObj (ci := 10) rfl (bV wd1087 wd1088 wd1322 wd13 wd1089) rfl ⟨rfl, rfl⟩ ydX12_isCell (rmK_le hR (by omega) (by decide)) (av := [iV a1]) rfl rfl (Nat.le_of_ble_eq_true rfl) dX12_possible_7 (rmK_cs hR (by omega) (by omega)) (fun r4 J5 h6 m7 hw => ?_)
  refine q_if_eq F h6 22 dX12_possible_10 (by decide) (fun hc => ?_) (fun hc => ?_)
  · have hw := hw.1 hc
    refine q_aload_n F 0 dX12_possible_22 rfl rfl ?_
    refine q_iconst F dX12_possible_23 ?_
    refine q_ViM F (kcX12_no m7 (⟨by decide, by decide⟩ : inR (1)) hw) (by decide) meObj (ci := 10) rfl (bV wd925 wd926 wd1285 wd13 wd927) rfl ⟨rfl, rfl⟩ ydX12_no (rmK_le hR (by omega) (by decide)) (av := [iV 1]) rfl rfl (Nat.le_of_ble_eq_true rfl) dX12_possible_24 (rmK_cs hR (by omega) (by omega)) (fun r8 J9 h10 m11 hw => ?_)
    exact hret _ _ _ _ _ dX12_possible_27 h10 m11 hw
  · have hw := hw.2 hc
    refine q_aload_n F 0 dX12_possible_13 rfl rfl ?_
    refine s_g_sets F ib12 wd903 dX12_possible_14 ?_
    refine q_iload_n F 1 dX12_possible_17 rfl rfl ?_
    obtain ⟨k12, hw⟩ := hw
    refine s_ald F 25 kM_sets k12 (by decide) dX12_possible_18 ?_
    refine q_goto F 27 dX12_possible_19 (by decide) ?_
    exact hret _ _ _ _ _ dX12_possible_27 (m7 _ _) m7 hw
theorem ydX12_canFill : yX12_canFill.cls = RX12 ∧ yX12_canFill.cls ≠ "java/lang/invoke/MethodHandle" ∧ yX12_canFill.cls ≠ "java/lang/invoke/VarHandle" ∧ (parseMethodDescriptor yX12_canFill.desc).map (fun d => d.parameters.length) = some 3 := by decide +kernel
def vX12_canFill : List Cond := Cond.code yX12_canFill cX12_canFill 7 (some .boolean) :: bG
set_option maxHeartbeats 4000000 in
set_option maxRecDepth 100000 in
theorem bX12_canFill_115 {d : Nat} {X : xC} {E : cE} (F : mF X E RX12 cX12_canFill bG) (hR : X.1.2.2.2 = rmK (3 + d + 1) 0 0) (hN : X.2.2.1.2.2.2 = 7) {Q : Int → cI → Prop} (hret : rZM X E cX12_canFill (0) (0) Q) {rc : Int → Int → Int → cI → (Int → cI → Prop) → Prop} (hrec : ∀ (a1 : Int) (a2 : Int) (a3 : Int) (J : cI) (Q' : Int → cI → Prop), inR a1 → inR a2 → inR a3 → mM J → rc a1 a2 a3 J Q' → gM X.1.2.1 X.2.2.2.2 E mIds yX12_canFill vX12_canFill (rmK (3 + d) 0 0) [.ref (E.1 1000), iV a1, iV a2, iV a3] (mef E J) (mef E) (oI Q') 0 0) {a1 : Int} {a2 : Int} {a3 : Int} (ha1 : inR a1) (ha2 : inR a2) (ha3 : inR a3) : ∀ (x4 : Int) (x5 : Int) (J : cI), inR x4 → inR x5 → mM J → wX12_canFill_115 rc Q a1 a2 a3 x4 x5 J → cW X (0) (0) 115 [(0, .ref (E.1 1000)), (4, iV x4), (5, iV x5)] [] (gw E.1 mIds (mef E J) ++ []) := by
  intro x4 x5 J hx4 hx5 hm hw
  unfold wX12_canFill_115 at hw
  refine q_aload_n F 0 dX12_canFill_115 rfl rfl ?_
  refine s_g_fill F ib12 wd894 dX12_canFill_116 ?_
  refine q_iload F 1 dX12_canFill_119 rfl ?_
  refine q_iconst F dX12_canFill_121 ?_
  obtain ⟨k1, hw⟩ := hw
  obtain ⟨J2, e3⟩ := ex1 (up2 J 1021 x4 0)
  have hw := hw J2 e3
  have m4 : mM J2 := mM_I hm e3 (⟨by decide, by decide⟩ : inR (0))
  refine s_ast F 25 kM_fill k1 (by decide) e3 dX12_canFill_122 ?_
  refine q_iload F 2 dX12_canFill_123 rfl ?_
  obtain ⟨k5, hw⟩ := hw
  exact hret _ _ _ _ _ dX12_canFill_125 k5 hx5 m4 hw
set_option maxHeartbeats 4000000 in
set_option maxRecDepth 100000 in
theorem bX12_canFill_55 {d : Nat} {X : xC} {E : cE} (F : mF X E RX12 cX12_canFill bG) (hR : X.1.2.2.2 = rmK (3 + d + 1) 0 0) (hN : X.2.2.1.2.2.2 = 7) {Q : Int → cI → Prop} (hret : rZM X E cX12_canFill (0) (0) Q) {rc : Int → Int → Int → cI → (Int → cI → Prop) → Prop} (hrec : ∀ (a1 : Int) (a2 : Int) (a3 : Int) (J : cI) (Q' : Int → cI → Prop), inR a1 → inR a2 → inR a3 → mM J → rc a1 a2 a3 J Q' → gM X.1.2.1 X.2.2.2.2 E mIds yX12_canFill vX12_canFill (rmK (3 + d) 0 0) [.ref (E.1 1000), iV a1, iV a2, iV a3] (mef E J) (mef E) (oI Q') 0 0) {a1 : Int} {a2 : Int} {a3 : Int} (ha1 : inR a1) (ha2 : inR a2) (ha3 : inR a3) : ∀ n55 : Nat, ∀ (x4 : Int) (x5 : Int) (x6 : Int) (J : cI), inR x4 → inR x5 → inR x6 → mM J → wX12_canFill_55 rc Q a1 a2 a3 n55 x4 x5 x6 J → cW X (0) (0) 55 [(0, .ref (E.1 1000)), (1, iV a1), (2, iV a2), (3, iV a3), (4, iV x4), (5, iV x5), (6, iV x6)] [] (gw E.1 mIds (mef E J) ++ []) := by
  intro n55
  induction n55 with
  | zero => intro x4 x5 x6 J hx4 hx5 hx6 hm hw; exact hw.elim
  | succ n55 ih =>
    intro x4 x5 x6 J hx4 hx5 hx6 hm hw
    change wbX12_canFill_55 rc Q a1 a2 a3 (wX12_canFill_55 rc Q a1 a2 a3 n55) x4 x5 x6 J at hw
    unfold wbX12_canFill_55 at hw
    refine q_iload F 6 dX12_canFill_55 rfl ?_
    refine q_aload_n F 0 dX12_canFill_57 rfl rfl ?_
    refine s_g_k F ib12 wd886 dX12_canFill_58 ?_
    refine q_icmp_gt F hx6 (hm _ _) 115 dX12_canFill_61 (by decide) (fun hc => ?_) (fun hc => ?_)
    · have hw := hw.1 hc
      refine q_lv [0, 4, 5] rfl ?_
      exact bX12_canFill_115 F hR hN hret hrec ha1 ha2 ha3 x4 x5 J hx4 hx5 hm hw
    · have hw := hw.2 hc
      refine q_iload F 5 dX12_canFill_64 rfl ?_
      refine q_if_ne F hx5 115 dX12_canFill_66 (by decide) (fun hc => ?_) (fun hc => ?_)
      · have hw := hw.1 hc
        refine q_lv [0, 4, 5] rfl ?_
        exact bX12_canFill_115 F hR hN hret hrec ha1 ha2 ha3 x4 x5 J hx4 hx5 hm hw
      · have hw := hw.2 hc
        refine q_aload_n F 0 dX12_canFill_69 rfl rfl ?_
        refine s_g_sets F ib12 wd903 dX12_canFill_70 ?_
        refine q_iload F 4 dX12_canFill_73 rfl ?_
        obtain ⟨k1, hw⟩ := hw
        refine s_ald F 25 kM_sets k1 (by decide) dX12_canFill_75 ?_
        refine q_iload F 6 dX12_canFill_76 rfl ?_
        refine q_iconst F dX12_canFill_78 ?_
        refine q_isub F dX12_canFill_79 ?_
        refine q_ishr F dX12_canFill_80 ?_
        refine q_iconst F dX12_canFill_81 ?_
        refine q_iand F dX12_canFill_82 ?_
        refine q_if_ne F (ti_rng _) 89 dX12_canFill_83 (by decide) (fun hc => ?_) (fun hc => ?_)
        · have hw := hw.1 hc
          refine q_aload_n F 0 dX12_canFill_89 rfl rfl ?_
          refine s_g_fill F ib12 wd894 dX12_canFill_90 ?_
          refine q_iload F 4 dX12_canFill_93 rfl ?_
          refine q_iload F 6 dX12_canFill_95 rfl ?_
          obtain ⟨k2, hw⟩ := hw
          obtain ⟨J3, e4⟩ := ex1 (up2 J 1021 x4 x6)
          have hw := hw J3 e4
          have m5 : mM J3 := mM_I hm e4 hx6
          refine s_ast F 25 kM_fill k2 (by decide) e4 dX12_canFill_97 ?_
          refine q_aload_n F 0 dX12_canFill_98 rfl rfl ?_
          refine q_iload_n F 1 dX12_canFill_99 rfl rfl ?_
          refine q_iload_n F 2 dX12_canFill_100 rfl rfl ?_
          refine q_iconst F dX12_canFill_101 ?_
          refine q_iadd F dX12_canFill_102 ?_
          refine q_iload_n F 3 dX12_canFill_103 rfl rfl ?_
          obtain ⟨k6, hw⟩ := hw
          refine q_ViM F (hrec a1 ((a2 + 1)) a3 J3 _ ha1 k6 ha3 m5 hw) (by decide) meObj (ci := 10) rfl (bV wd1140 wd1141 wd1329 wd13 wd1142) rfl ⟨rfl, rfl⟩ ydX12_canFill (rmK_le hR (by omega) (by decide)) (av := [iV a1, iV ((a2 + 1)), iV a3]) rfl rfl (Nat.le_of_ble_eq_true rfl) dX12_canFill_104 (rmK_cs hR (by omega) (by omega)) (fun r7 J8 h9 m10 hw => ?_)
          refine q_istore (lv' := [(0, .ref (E.1 1000)), (1, iV a1), (2, iV a2), (3, iV a3), (4, iV x4), (5, iV r7), (6, iV x6)]) F [1, 2, 3, 4, 5, 0, 6] dX12_canFill_107 (q_n hN (by decide)) rfl ?_
          obtain ⟨k13, hw⟩ := hw
          obtain ⟨z11, e12⟩ := ex1 (x6 + 1)
          have hw := hw z11 e12
          have hz11 : inR z11 := by rw [e12]; exact k13
          refine q_iinc (lv' := [(0, .ref (E.1 1000)), (1, iV a1), (2, iV a2), (3, iV a3), (4, iV x4), (5, iV r7), (6, iV z11)]) F 6 [1, 2, 3, 4, 5, 6, 0] dX12_canFill_109 rfl (q_n hN (by decide)) e12.symm rfl ?_
          refine q_goto F 55 dX12_canFill_112 (by decide) ?_
          exact ih x4 r7 z11 J8 hx4 h9 hz11 m10 hw
        · have hw := hw.2 hc
          refine q_goto F 109 dX12_canFill_86 (by decide) ?_
          obtain ⟨k16, hw⟩ := hw
          obtain ⟨z14, e15⟩ := ex1 (x6 + 1)
          have hw := hw z14 e15
          have hz14 : inR z14 := by rw [e15]; exact k16
          refine q_iinc (lv' := [(0, .ref (E.1 1000)), (1, iV a1), (2, iV a2), (3, iV a3), (4, iV x4), (5, iV x5), (6, iV z14)]) F 6 [1, 2, 3, 4, 5, 6, 0] dX12_canFill_109 rfl (q_n hN (by decide)) e15.symm rfl ?_
          refine q_goto F 55 dX12_canFill_112 (by decide) ?_
          exact ih x4 x5 z14 J hx4 hx5 hz14 hm hw
set_option maxHeartbeats 4000000 in
set_option maxRecDepth 100000 in
theorem crX12_canFill {l : Launch} {D : va_G} {E : cE} : ∀ (d : Nat) (a1 : Int) (a2 : Int) (a3 : Int) (J : cI) (Q : Int → cI → Prop), inR a1 → inR a2 → inR a3 → mM J → wX12_canFill d a1 a2 a3 J Q → gM l D E mIds yX12_canFill vX12_canFill (rmK (3 + d) 0 0) [.ref (E.1 1000), iV a1, iV a2, iV a3] (mef E J) (mef E) (oI Q) 0 0 := by
  intro d
  induction d with
  | zero => intro a1 a2 a3 J Q ha1 ha2 ha3 hm hw; exact hw.elim
  | succ d ihd =>
    intro a1 a2 a3 J Q ha1 ha2 ha3 hm hw
    change wbX12_canFill (wX12_canFill d) a1 a2 a3 J Q at hw
    unfold wbX12_canFill at hw
    refine k_ofW (own := RX12) (cc := cX12_canFill) (maxL := 7) (ret := (some .boolean)) (lv := [(0, .ref (E.1 1000)), (1, iV a1), (2, iV a2), (3, iV a3)]) (by decide) rfl rfl (Nat.le_of_ble_eq_true rfl) rfl ?_
    intro X hl hR hN hD F K
    subst hl; subst hD
    have hrec := ihd
    have hret := mk_rZM (Q := Q) F K
    refine q_aload_n F 0 dX12_canFill_0 rfl rfl ?_
    refine q_iload_n F 1 dX12_canFill_1 rfl rfl ?_
    refine q_aload_n F 0 dX12_canFill_2 rfl rfl ?_
    refine s_g_fill F ib12 wd894 dX12_canFill_3 ?_
    refine q_ViM F (kcX12_isBroken hm ha1 kM_fill hw) (by decide) meObj (ci := 10) rfl (bV wd1027 wd1028 wd1310 wd13 wd1029) rfl ⟨rfl, rfl⟩ ydX12_isBroken (rmK_le hR (by omega) (by decide)) (av := [iV a1, .ref (E.1 1021)]) rfl rfl (Nat.le_of_ble_eq_true rfl) dX12_canFill_6 (rmK_cs hR (by omega) (by omega)) (fun r1 J2 h3 m4 hw => ?_)
    refine q_if_eq F h3 14 dX12_canFill_9 (by decide) (fun hc => ?_) (fun hc => ?_)
    · have hw := hw.1 hc
      refine q_iload_n F 2 dX12_canFill_14 rfl rfl ?_
      refine q_aload_n F 0 dX12_canFill_15 rfl rfl ?_
      refine s_g_ruleSize F ib12 wd891 dX12_canFill_16 ?_
      refine q_iload_n F 1 dX12_canFill_19 rfl rfl ?_
      obtain ⟨k5, hw⟩ := hw
      refine s_ald F 70 kM_ruleSize k5 (by decide) dX12_canFill_20 ?_
      refine q_icmp_ne F ha2 (m4 _ _) 26 dX12_canFill_21 (by decide) (fun hc => ?_) (fun hc => ?_)
      · have hw := hw.1 hc
        refine q_iload_n F 2 dX12_canFill_26 rfl rfl ?_
        refine q_iload_n F 3 dX12_canFill_27 rfl rfl ?_
        refine q_icmp_ne F ha2 ha3 41 dX12_canFill_28 (by decide) (fun hc => ?_) (fun hc => ?_)
        · have hw := hw.1 hc
          refine q_aload_n F 0 dX12_canFill_41 rfl rfl ?_
          refine q_iload_n F 1 dX12_canFill_42 rfl rfl ?_
          refine q_iload_n F 2 dX12_canFill_43 rfl rfl ?_
          refine q_ViM F (kcX12_cellOf m4 ha1 ha2 hw) (by decide) meObj (ci := 10) rfl (bV wd1030 wd1031 wd1311 wd13 wd1032) rfl ⟨rfl, rfl⟩ ydX12_cellOf (rmK_le hR (by omega) (by decide)) (av := [iV a1, iV a2]) rfl rfl (Nat.le_of_ble_eq_true rfl) dX12_canFill_44 (rmK_cs hR (by omega) (by omega)) (fun r6 J7 h8 m9 hw => ?_)
          refine q_istore (lv' := [(0, .ref (E.1 1000)), (1, iV a1), (2, iV a2), (3, iV a3), (4, iV r6)]) F [1, 2, 3, 4, 0] dX12_canFill_47 (q_n hN (by decide)) rfl ?_
          refine q_iconst F dX12_canFill_49 ?_
          refine q_istore (lv' := [(0, .ref (E.1 1000)), (1, iV a1), (2, iV a2), (3, iV a3), (4, iV r6), (5, iV 0)]) F [1, 2, 3, 4, 5, 0] dX12_canFill_50 (q_n hN (by decide)) rfl ?_
          refine q_iconst F dX12_canFill_52 ?_
          refine q_istore (lv' := [(0, .ref (E.1 1000)), (1, iV a1), (2, iV a2), (3, iV a3), (4, iV r6), (5, iV 0), (6, iV 1)]) F [1, 2, 3, 4, 5, 6, 0] dX12_canFill_53 (q_n hN (by decide)) rfl ?_
          obtain ⟨n10, hw⟩ := hw
          exact bX12_canFill_55 F hR hN hret hrec ha1 ha2 ha3 n10 r6 0 1 J7 h8 (⟨by decide, by decide⟩ : inR (0)) (⟨by decide, by decide⟩ : inR (1)) m9 hw
        · have hw := hw.2 hc
          refine q_aload_n F 0 dX12_canFill_31 rfl rfl ?_
          refine q_iload_n F 1 dX12_canFill_32 rfl rfl ?_
          refine q_iload_n F 2 dX12_canFill_33 rfl rfl ?_
          refine q_iconst F dX12_canFill_34 ?_
          refine q_iadd F dX12_canFill_35 ?_
          refine q_iload_n F 3 dX12_canFill_36 rfl rfl ?_
          obtain ⟨k11, hw⟩ := hw
          refine q_ViM F (hrec a1 ((a2 + 1)) a3 J2 _ ha1 k11 ha3 m4 hw) (by decide) meObj (ci := 10) rfl (bV wd1140 wd1141 wd1329 wd13 wd1142) rfl ⟨rfl, rfl⟩ ydX12_canFill (rmK_le hR (by omega) (by decide)) (av := [iV a1, iV ((a2 + 1)), iV a3]) rfl rfl (Nat.le_of_ble_eq_true rfl) dX12_canFill_37 (rmK_cs hR (by omega) (by omega)) (fun r12 J13 h14 m15 hw => ?_)
          obtain ⟨k16, hw⟩ := hw
          exact hret _ _ _ _ _ dX12_canFill_40 k16 h14 m15 hw
      · have hw := hw.2 hc
        refine q_iconst F dX12_canFill_24 ?_
        exact hret _ _ _ _ _ dX12_canFill_25 (Or.inr rfl) (⟨by decide, by decide⟩ : inR (1)) m4 hw
    · have hw := hw.2 hc
      refine q_iconst F dX12_canFill_12 ?_
      exact hret _ _ _ _ _ dX12_canFill_13 (Or.inl rfl) (⟨by decide, by decide⟩ : inR (0)) m4 hw
theorem kcX12_canFill {l : Launch} {D : va_G} {E : cE} (d : Nat) {a1 : Int} {a2 : Int} {a3 : Int} {J : cI} (hm : mM J) (ha1 : inR a1) (ha2 : inR a2) (ha3 : inR a3) {Q : Int → cI → Prop} (hw : wX12_canFill d a1 a2 a3 J Q) : gM l D E mIds yX12_canFill vX12_canFill (rmK (3 + d) 0 0) [.ref (E.1 1000), iV a1, iV a2, iV a3] (mef E J) (mef E) (oI Q) 0 0 := crX12_canFill d a1 a2 a3 J Q ha1 ha2 ha3 hm hw
theorem ydX12_isPossible : yX12_isPossible.cls = RX12 ∧ yX12_isPossible.cls ≠ "java/lang/invoke/MethodHandle" ∧ yX12_isPossible.cls ≠ "java/lang/invoke/VarHandle" ∧ (parseMethodDescriptor yX12_isPossible.desc).map (fun d => d.parameters.length) = some 3 := by decide +kernel
def vX12_isPossible : List Cond := Cond.code yX12_isPossible cX12_isPossible 5 (some .boolean) :: bG
set_option maxHeartbeats 4000000 in
set_option maxRecDepth 100000 in
theorem bX12_isPossible_3 {X : xC} {E : cE} (F : mF X E RX12 cX12_isPossible bG) (hR : X.1.2.2.2 = rmK 11 (0) (0)) (hN : X.2.2.1.2.2.2 = 5) {Q : Int → cI → Prop} (hret : rZM X E cX12_isPossible (0) (0) Q) {a1 : Int} {a2 : Int} {a3 : Int} (ha1 : inR a1) (ha2 : inR a2) (ha3 : inR a3) : ∀ n3 : Nat, ∀ (x4 : Int) (J : cI), inR x4 → mM J → wX12_isPossible_3 Q a1 a2 a3 n3 x4 J → cW X (0) (0) 3 [(0, .ref (E.1 1000)), (1, iV a1), (2, iV a2), (3, iV a3), (4, iV x4)] [] (gw E.1 mIds (mef E J) ++ []) := by
  intro n3
  induction n3 with
  | zero => intro x4 J hx4 hm hw; exact hw.elim
  | succ n3 ih =>
    intro x4 J hx4 hm hw
    change wbX12_isPossible_3 Q a1 a2 a3 (wX12_isPossible_3 Q a1 a2 a3 n3) x4 J at hw
    unfold wbX12_isPossible_3 at hw
    refine q_iload F 4 dX12_isPossible_3 rfl ?_
    refine q_bipush F dX12_isPossible_5 (by decide) ?_
    refine q_icmp_ge F hx4 (⟨by decide, by decide⟩ : inR (25)) 24 dX12_isPossible_7 (by decide) (fun hc => ?_) (fun hc => ?_)
    · have hw := hw.1 hc
      refine q_aload_n F 0 dX12_isPossible_24 rfl rfl ?_
      refine s_g_fill F ib12 wd894 dX12_isPossible_25 ?_
      refine q_aload_n F 0 dX12_isPossible_28 rfl rfl ?_
      refine q_iload_n F 1 dX12_isPossible_29 rfl rfl ?_
      refine q_iload_n F 2 dX12_isPossible_30 rfl rfl ?_
      refine q_ViM F (kcX12_cellOf hm ha1 ha2 hw) (by decide) meObj (ci := 10) rfl (bV wd1030 wd1031 wd1311 wd13 wd1032) rfl ⟨rfl, rfl⟩ ydX12_cellOf (rmK_le hR (by omega) (by decide)) (av := [iV a1, iV a2]) rfl rfl (Nat.le_of_ble_eq_true rfl) dX12_isPossible_31 (rmK_cs hR (by omega) (by omega)) (fun r1 J2 h3 m4 hw => ?_)
      refine q_iload_n F 3 dX12_isPossible_34 rfl rfl ?_
      obtain ⟨k5, hw⟩ := hw
      obtain ⟨J6, e7⟩ := ex1 (up2 J2 1021 r1 a3)
      have hw := hw J6 e7
      have m8 : mM J6 := mM_I m4 e7 ha3
      refine s_ast F 25 kM_fill k5 (by decide) e7 dX12_isPossible_35 ?_
      refine q_aload_n F 0 dX12_isPossible_36 rfl rfl ?_
      refine q_iload_n F 1 dX12_isPossible_37 rfl rfl ?_
      refine q_iconst F dX12_isPossible_38 ?_
      refine q_iload_n F 2 dX12_isPossible_39 rfl rfl ?_
      refine q_ViM F (kcX12_canFill 7 m8 ha1 (⟨by decide, by decide⟩ : inR (0)) ha2 hw) (by decide) meObj (ci := 10) rfl (bV wd1140 wd1141 wd1329 wd13 wd1142) rfl ⟨rfl, rfl⟩ ydX12_canFill (rmK_le hR (by omega) (by decide)) (av := [iV a1, iV 0, iV a2]) rfl rfl (Nat.le_of_ble_eq_true rfl) dX12_isPossible_40 (rmK_cs hR (by omega) (by omega)) (fun r9 J10 h11 m12 hw => ?_)
      obtain ⟨k13, hw⟩ := hw
      exact hret _ _ _ _ _ dX12_isPossible_43 k13 h11 m12 hw
    · have hw := hw.2 hc
      refine q_aload_n F 0 dX12_isPossible_10 rfl rfl ?_
      refine s_g_fill F ib12 wd894 dX12_isPossible_11 ?_
      refine q_iload F 4 dX12_isPossible_14 rfl ?_
      refine q_iconst F dX12_isPossible_16 ?_
      obtain ⟨k14, hw⟩ := hw
      obtain ⟨J15, e16⟩ := ex1 (up2 J 1021 x4 0)
      have hw := hw J15 e16
      have m17 : mM J15 := mM_I hm e16 (⟨by decide, by decide⟩ : inR (0))
      refine s_ast F 25 kM_fill k14 (by decide) e16 dX12_isPossible_17 ?_
      obtain ⟨k20, hw⟩ := hw
      obtain ⟨z18, e19⟩ := ex1 (x4 + 1)
      have hw := hw z18 e19
      have hz18 : inR z18 := by rw [e19]; exact k20
      refine q_iinc (lv' := [(0, .ref (E.1 1000)), (1, iV a1), (2, iV a2), (3, iV a3), (4, iV z18)]) F 4 [1, 2, 3, 4, 0] dX12_isPossible_18 rfl (q_n hN (by decide)) e19.symm rfl ?_
      refine q_goto F 3 dX12_isPossible_21 (by decide) ?_
      exact ih z18 J15 hz18 m17 hw
set_option maxHeartbeats 4000000 in
set_option maxRecDepth 100000 in
theorem kcX12_isPossible {l : Launch} {D : va_G} {E : cE} {a1 : Int} {a2 : Int} {a3 : Int} {J : cI} (hm : mM J) (ha1 : inR a1) (ha2 : inR a2) (ha3 : inR a3) {Q : Int → cI → Prop} (hw : wX12_isPossible a1 a2 a3 J Q) : gM l D E mIds yX12_isPossible vX12_isPossible (rmK 11 (0) (0)) [.ref (E.1 1000), iV a1, iV a2, iV a3] (mef E J) (mef E) (oI Q) (0) (0) := by
  unfold wX12_isPossible at hw
  refine k_ofW (own := RX12) (cc := cX12_isPossible) (maxL := 5) (ret := (some .boolean)) (lv := [(0, .ref (E.1 1000)), (1, iV a1), (2, iV a2), (3, iV a3)]) (by decide) rfl rfl (Nat.le_of_ble_eq_true rfl) rfl ?_
  intro X hl hR hN hD F K
  subst hl; subst hD
  have hret := mk_rZM (Q := Q) F K
  refine q_iconst F dX12_isPossible_0 ?_
  refine q_istore (lv' := [(0, .ref (E.1 1000)), (1, iV a1), (2, iV a2), (3, iV a3), (4, iV 0)]) F [1, 2, 3, 4, 0] dX12_isPossible_1 (q_n hN (by decide)) rfl ?_
  obtain ⟨n1, hw⟩ := hw
  exact bX12_isPossible_3 F hR hN hret ha1 ha2 ha3 n1 0 J (⟨by decide, by decide⟩ : inR (0)) hm hw
theorem ydX12_gradeOf : yX12_gradeOf.cls = RX12 ∧ yX12_gradeOf.cls ≠ "java/lang/invoke/MethodHandle" ∧ yX12_gradeOf.cls ≠ "java/lang/invoke/VarHandle" ∧ (parseMethodDescriptor yX12_gradeOf.desc).map (fun d => d.parameters.length) = some 1 := by decide +kernel
def vX12_gradeOf : List Cond := Cond.code yX12_gradeOf cX12_gradeOf 4 (some .int) :: bG
set_option maxHeartbeats 4000000 in
set_option maxRecDepth 100000 in
theorem bX12_gradeOf_4 {X : xC} {E : cE} (F : mF X E RX12 cX12_gradeOf bG) (hR : X.1.2.2.2 = rmK 2 (0) (0)) (hN : X.2.2.1.2.2.2 = 4) {Q : Int → cI → Prop} (hret : rIM X E cX12_gradeOf (0) (0) Q) {a1 : Int} (ha1 : inR a1) : ∀ n4 : Nat, ∀ (x2 : Int) (x3 : Int) (J : cI), inR x2 → inR x3 → mM J → wX12_gradeOf_4 Q a1 n4 x2 x3 J → cW X (0) (0) 4 [(0, .ref (E.1 1000)), (1, iV a1), (2, iV x2), (3, iV x3)] [] (gw E.1 mIds (mef E J) ++ []) := by
  intro n4
  induction n4 with
  | zero => intro x2 x3 J hx2 hx3 hm hw; exact hw.elim
  | succ n4 ih =>
    intro x2 x3 J hx2 hx3 hm hw
    change wbX12_gradeOf_4 Q a1 (wX12_gradeOf_4 Q a1 n4) x2 x3 J at hw
    unfold wbX12_gradeOf_4 at hw
    refine q_iload_n F 3 dX12_gradeOf_4 rfl rfl ?_
    refine q_aload_n F 0 dX12_gradeOf_5 rfl rfl ?_
    refine s_g_ruleSize F ib12 wd891 dX12_gradeOf_6 ?_
    refine q_iload_n F 1 dX12_gradeOf_9 rfl rfl ?_
    obtain ⟨k1, hw⟩ := hw
    refine s_ald F 70 kM_ruleSize k1 (by decide) dX12_gradeOf_10 ?_
    refine q_icmp_ge F hx3 (hm _ _) 46 dX12_gradeOf_11 (by decide) (fun hc => ?_) (fun hc => ?_)
    · have hw := hw.1 hc
      refine q_iload_n F 2 dX12_gradeOf_46 rfl rfl ?_
      exact hret _ _ _ _ _ dX12_gradeOf_47 hx2 hm hw
    · have hw := hw.2 hc
      refine q_iload_n F 2 dX12_gradeOf_14 rfl rfl ?_
      refine q_aload_n F 0 dX12_gradeOf_15 rfl rfl ?_
      refine s_g_sets F ib12 wd903 dX12_gradeOf_16 ?_
      refine q_aload_n F 0 dX12_gradeOf_19 rfl rfl ?_
      refine q_iload_n F 1 dX12_gradeOf_20 rfl rfl ?_
      refine q_iload_n F 3 dX12_gradeOf_21 rfl rfl ?_
      refine q_ViM F (kcX12_cellOf hm ha1 hx3 hw) (by decide) meObj (ci := 10) rfl (bV wd1030 wd1031 wd1311 wd13 wd1032) rfl ⟨rfl, rfl⟩ ydX12_cellOf (rmK_le hR (by omega) (by decide)) (av := [iV a1, iV x3]) rfl rfl (Nat.le_of_ble_eq_true rfl) dX12_gradeOf_22 (rmK_cs hR (by omega) (by omega)) (fun r2 J3 h4 m5 hw => ?_)
      obtain ⟨k6, hw⟩ := hw
      refine s_ald F 25 kM_sets k6 (by decide) dX12_gradeOf_25 ?_
      refine q_bc F hR (by omega) (m5 _ _) wd1006 dX12_gradeOf_26 (Nat.le_of_ble_eq_true rfl) ?_
      refine q_iconst F dX12_gradeOf_29 ?_
      refine q_icmp_le F (bc_in _) (⟨by decide, by decide⟩ : inR (1)) 37 dX12_gradeOf_30 (by decide) (fun hc => ?_) (fun hc => ?_)
      · have hw := hw.1 hc
        refine q_iconst F dX12_gradeOf_37 ?_
        refine q_iadd F dX12_gradeOf_38 ?_
        obtain ⟨k7, hw⟩ := hw
        obtain ⟨z8, e9⟩ := ex1 ((x2 + 0))
        have hw := hw z8 e9
        have hz8 : inR z8 := by rw [e9]; exact k7
        refine q_top e9 ?_
        refine q_istore_n (lv' := [(0, .ref (E.1 1000)), (1, iV a1), (2, iV z8), (3, iV x3)]) F [1, 2, 0, 3] dX12_gradeOf_39 rfl (q_n hN (by decide)) rfl ?_
        obtain ⟨k12, hw⟩ := hw
        obtain ⟨z10, e11⟩ := ex1 (x3 + 1)
        have hw := hw z10 e11
        have hz10 : inR z10 := by rw [e11]; exact k12
        refine q_iinc (lv' := [(0, .ref (E.1 1000)), (1, iV a1), (2, iV z8), (3, iV z10)]) F 3 [1, 2, 3, 0] dX12_gradeOf_40 rfl (q_n hN (by decide)) e11.symm rfl ?_
        refine q_goto F 4 dX12_gradeOf_43 (by decide) ?_
        exact ih z8 z10 J3 hz8 hz10 m5 hw
      · have hw := hw.2 hc
        refine q_iconst F dX12_gradeOf_33 ?_
        refine q_goto F 38 dX12_gradeOf_34 (by decide) ?_
        refine q_iadd F dX12_gradeOf_38 ?_
        obtain ⟨k13, hw⟩ := hw
        obtain ⟨z14, e15⟩ := ex1 ((x2 + 1))
        have hw := hw z14 e15
        have hz14 : inR z14 := by rw [e15]; exact k13
        refine q_top e15 ?_
        refine q_istore_n (lv' := [(0, .ref (E.1 1000)), (1, iV a1), (2, iV z14), (3, iV x3)]) F [1, 2, 0, 3] dX12_gradeOf_39 rfl (q_n hN (by decide)) rfl ?_
        obtain ⟨k18, hw⟩ := hw
        obtain ⟨z16, e17⟩ := ex1 (x3 + 1)
        have hw := hw z16 e17
        have hz16 : inR z16 := by rw [e17]; exact k18
        refine q_iinc (lv' := [(0, .ref (E.1 1000)), (1, iV a1), (2, iV z14), (3, iV z16)]) F 3 [1, 2, 3, 0] dX12_gradeOf_40 rfl (q_n hN (by decide)) e17.symm rfl ?_
        refine q_goto F 4 dX12_gradeOf_43 (by decide) ?_
        exact ih z14 z16 J3 hz14 hz16 m5 hw
set_option maxHeartbeats 4000000 in
set_option maxRecDepth 100000 in
theorem kcX12_gradeOf {l : Launch} {D : va_G} {E : cE} {a1 : Int} {J : cI} (hm : mM J) (ha1 : inR a1) {Q : Int → cI → Prop} (hw : wX12_gradeOf a1 J Q) : gM l D E mIds yX12_gradeOf vX12_gradeOf (rmK 2 (0) (0)) [.ref (E.1 1000), iV a1] (mef E J) (mef E) (oI Q) (0) (0) := by
  unfold wX12_gradeOf at hw
  refine k_ofW (own := RX12) (cc := cX12_gradeOf) (maxL := 4) (ret := (some .int)) (lv := [(0, .ref (E.1 1000)), (1, iV a1)]) (by decide) rfl rfl (Nat.le_of_ble_eq_true rfl) rfl ?_
  intro X hl hR hN hD F K
  subst hl; subst hD
  have hret := mk_rIM (Q := Q) F K
  refine q_iconst F dX12_gradeOf_0 ?_
  refine q_istore_n (lv' := [(0, .ref (E.1 1000)), (1, iV a1), (2, iV 0)]) F [1, 2, 0] dX12_gradeOf_1 rfl (q_n hN (by decide)) rfl ?_
  refine q_iconst F dX12_gradeOf_2 ?_
  refine q_istore_n (lv' := [(0, .ref (E.1 1000)), (1, iV a1), (2, iV 0), (3, iV 0)]) F [1, 2, 3, 0] dX12_gradeOf_3 rfl (q_n hN (by decide)) rfl ?_
  obtain ⟨n1, hw⟩ := hw
  exact bX12_gradeOf_4 F hR hN hret ha1 n1 0 0 J (⟨by decide, by decide⟩ : inR (0)) (⟨by decide, by decide⟩ : inR (0)) hm hw
theorem ydX12_findHint : yX12_findHint.cls = RX12 ∧ yX12_findHint.cls ≠ "java/lang/invoke/MethodHandle" ∧ yX12_findHint.cls ≠ "java/lang/invoke/VarHandle" ∧ (parseMethodDescriptor yX12_findHint.desc).map (fun d => d.parameters.length) = some 0 := by decide +kernel
def vX12_findHint : List Cond := Cond.code yX12_findHint cX12_findHint 4 (some .boolean) :: bG
set_option maxHeartbeats 4000000 in
set_option maxRecDepth 100000 in
theorem bX12_findHint_24 {X : xC} {E : cE} (F : mF X E RX12 cX12_findHint bG) (hR : X.1.2.2.2 = rmK 12 (0) (0)) (hN : X.2.2.1.2.2.2 = 4) {Q : Int → cI → Prop} (hret : rZM X E cX12_findHint (0) (0) Q)   {K2 : Int → cI → Prop} {K12 : Int → Int → cI → Prop} (hK2 : ∀ (x1 : Int) (J : cI), inR x1 → mM J → K2 x1 J → cW X (0) (0) 2 [(0, .ref (E.1 1000)), (1, iV x1)] [] (gw E.1 mIds (mef E J) ++ [])) (hK12 : ∀ (x1 : Int) (x2 : Int) (J : cI), inR x1 → inR x2 → mM J → K12 x1 x2 J → cW X (0) (0) 12 [(0, .ref (E.1 1000)), (1, iV x1), (2, iV x2)] [] (gw E.1 mIds (mef E J) ++ [])) : ∀ n24 : Nat, ∀ (x1 : Int) (x2 : Int) (x3 : Int) (J : cI), inR x1 → inR x2 → inR x3 → mM J → wX12_findHint_24 Q K2 K12 n24 x1 x2 x3 J → cW X (0) (0) 24 [(0, .ref (E.1 1000)), (1, iV x1), (2, iV x2), (3, iV x3)] [] (gw E.1 mIds (mef E J) ++ []) := by
  intro n24
  induction n24 with
  | zero => intro x1 x2 x3 J hx1 hx2 hx3 hm hw; exact hw.elim
  | succ n24 ih =>
    intro x1 x2 x3 J hx1 hx2 hx3 hm hw
    change wbX12_findHint_24 Q K2 K12 (wX12_findHint_24 Q K2 K12 n24) x1 x2 x3 J at hw
    unfold wbX12_findHint_24 at hw
    refine q_iload_n F 3 dX12_findHint_24 rfl rfl ?_
    refine q_aload_n F 0 dX12_findHint_25 rfl rfl ?_
    refine s_g_k F ib12 wd886 dX12_findHint_26 ?_
    refine q_icmp_gt F hx3 (hm _ _) 110 dX12_findHint_29 (by decide) (fun hc => ?_) (fun hc => ?_)
    · have hw := hw.1 hc
      obtain ⟨k3, hw⟩ := hw
      obtain ⟨z1, e2⟩ := ex1 (x2 + 1)
      have hw := hw z1 e2
      have hz1 : inR z1 := by rw [e2]; exact k3
      refine q_iinc (lv' := [(0, .ref (E.1 1000)), (1, iV x1), (2, iV z1), (3, iV x3)]) F 2 [1, 2, 0, 3] dX12_findHint_110 rfl (q_n hN (by decide)) e2.symm rfl ?_
      refine q_goto F 12 dX12_findHint_113 (by decide) ?_
      refine q_lv [0, 1, 2] rfl ?_
      exact hK12 x1 z1 J hx1 hz1 hm hw
    · have hw := hw.2 hc
      refine q_aload_n F 0 dX12_findHint_32 rfl rfl ?_
      refine s_g_sets F ib12 wd903 dX12_findHint_33 ?_
      refine q_aload_n F 0 dX12_findHint_36 rfl rfl ?_
      refine q_iload_n F 1 dX12_findHint_37 rfl rfl ?_
      refine q_iload_n F 2 dX12_findHint_38 rfl rfl ?_
      refine q_ViM F (kcX12_cellOf hm hx1 hx2 hw) (by decide) meObj (ci := 10) rfl (bV wd1030 wd1031 wd1311 wd13 wd1032) rfl ⟨rfl, rfl⟩ ydX12_cellOf (rmK_le hR (by omega) (by decide)) (av := [iV x1, iV x2]) rfl rfl (Nat.le_of_ble_eq_true rfl) dX12_findHint_39 (rmK_cs hR (by omega) (by omega)) (fun r4 J5 h6 m7 hw => ?_)
      obtain ⟨k8, hw⟩ := hw
      refine s_ald F 25 kM_sets k8 (by decide) dX12_findHint_42 ?_
      refine q_iload_n F 3 dX12_findHint_43 rfl rfl ?_
      refine q_iconst F dX12_findHint_44 ?_
      refine q_isub F dX12_findHint_45 ?_
      refine q_ishr F dX12_findHint_46 ?_
      refine q_iconst F dX12_findHint_47 ?_
      refine q_iand F dX12_findHint_48 ?_
      refine q_if_eq F (ti_rng _) 104 dX12_findHint_49 (by decide) (fun hc => ?_) (fun hc => ?_)
      · have hw := hw.1 hc
        obtain ⟨k11, hw⟩ := hw
        obtain ⟨z9, e10⟩ := ex1 (x3 + 1)
        have hw := hw z9 e10
        have hz9 : inR z9 := by rw [e10]; exact k11
        refine q_iinc (lv' := [(0, .ref (E.1 1000)), (1, iV x1), (2, iV x2), (3, iV z9)]) F 3 [1, 2, 3, 0] dX12_findHint_104 rfl (q_n hN (by decide)) e10.symm rfl ?_
        refine q_goto F 24 dX12_findHint_107 (by decide) ?_
        exact ih x1 x2 z9 J5 hx1 hx2 hz9 m7 hw
      · have hw := hw.2 hc
        refine q_aload_n F 0 dX12_findHint_52 rfl rfl ?_
        refine q_iload_n F 1 dX12_findHint_53 rfl rfl ?_
        refine q_iload_n F 2 dX12_findHint_54 rfl rfl ?_
        refine q_iload_n F 3 dX12_findHint_55 rfl rfl ?_
        refine q_ViM F (kcX12_isPossible m7 hx1 hx2 hx3 hw) (by decide) meObj (ci := 10) rfl (bV wd1137 wd1138 wd1328 wd13 wd1139) rfl ⟨rfl, rfl⟩ ydX12_isPossible (rmK_le hR (by omega) (by decide)) (av := [iV x1, iV x2, iV x3]) rfl rfl (Nat.le_of_ble_eq_true rfl) dX12_findHint_56 (rmK_cs hR (by omega) (by omega)) (fun r12 J13 h14 m15 hw => ?_)
        refine q_if_eq F h14 65 dX12_findHint_59 (by decide) (fun hc => ?_) (fun hc => ?_)
        · have hw := hw.1 hc
          refine q_aload_n F 0 dX12_findHint_65 rfl rfl ?_
          refine s_g_hinted F ib12 wd915 dX12_findHint_66 ?_
          refine q_iconst F dX12_findHint_69 ?_
          refine q_iload_n F 1 dX12_findHint_70 rfl rfl ?_
          obtain ⟨J16, e17⟩ := ex1 (up2 J13 1042 0 x1)
          have hw := hw J16 e17
          have m18 : mM J16 := mM_I m15 e17 hx1
          refine s_ast F 4 kM_hinted (⟨by decide, by decide⟩ : 0 ≤ (0 : Int) ∧ (0 : Int) < 4) (by decide) e17 dX12_findHint_71 ?_
          refine q_aload_n F 0 dX12_findHint_72 rfl rfl ?_
          refine s_g_hinted F ib12 wd915 dX12_findHint_73 ?_
          refine q_iconst F dX12_findHint_76 ?_
          refine q_aload_n F 0 dX12_findHint_77 rfl rfl ?_
          refine q_iload_n F 1 dX12_findHint_78 rfl rfl ?_
          refine q_iload_n F 2 dX12_findHint_79 rfl rfl ?_
          refine q_ViM F (kcX12_cellOf m18 hx1 hx2 hw) (by decide) meObj (ci := 10) rfl (bV wd1030 wd1031 wd1311 wd13 wd1032) rfl ⟨rfl, rfl⟩ ydX12_cellOf (rmK_le hR (by omega) (by decide)) (av := [iV x1, iV x2]) rfl rfl (Nat.le_of_ble_eq_true rfl) dX12_findHint_80 (rmK_cs hR (by omega) (by omega)) (fun r19 J20 h21 m22 hw => ?_)
          obtain ⟨J23, e24⟩ := ex1 (up2 J20 1042 1 r19)
          have hw := hw J23 e24
          have m25 : mM J23 := mM_I m22 e24 h21
          refine s_ast F 4 kM_hinted (⟨by decide, by decide⟩ : 0 ≤ (1 : Int) ∧ (1 : Int) < 4) (by decide) e24 dX12_findHint_83 ?_
          refine q_aload_n F 0 dX12_findHint_84 rfl rfl ?_
          refine s_g_hinted F ib12 wd915 dX12_findHint_85 ?_
          refine q_iconst F dX12_findHint_88 ?_
          refine q_iload_n F 3 dX12_findHint_89 rfl rfl ?_
          obtain ⟨J26, e27⟩ := ex1 (up2 J23 1042 2 x3)
          have hw := hw J26 e27
          have m28 : mM J26 := mM_I m25 e27 hx3
          refine s_ast F 4 kM_hinted (⟨by decide, by decide⟩ : 0 ≤ (2 : Int) ∧ (2 : Int) < 4) (by decide) e27 dX12_findHint_90 ?_
          refine q_aload_n F 0 dX12_findHint_91 rfl rfl ?_
          refine s_g_hinted F ib12 wd915 dX12_findHint_92 ?_
          refine q_iconst F dX12_findHint_95 ?_
          refine q_aload_n F 0 dX12_findHint_96 rfl rfl ?_
          refine q_iload_n F 1 dX12_findHint_97 rfl rfl ?_
          refine q_ViM F (kcX12_gradeOf m28 hx1 hw) (by decide) meObj (ci := 10) rfl (bV wd1143 wd1144 wd1330 wd13 wd1145) rfl ⟨rfl, rfl⟩ ydX12_gradeOf (rmK_le hR (by omega) (by decide)) (av := [iV x1]) rfl rfl (Nat.le_of_ble_eq_true rfl) dX12_findHint_98 (rmK_cs hR (by omega) (by omega)) (fun r29 J30 h31 m32 hw => ?_)
          obtain ⟨J33, e34⟩ := ex1 (up2 J30 1042 3 r29)
          have hw := hw J33 e34
          have m35 : mM J33 := mM_I m32 e34 h31
          refine s_ast F 4 kM_hinted (⟨by decide, by decide⟩ : 0 ≤ (3 : Int) ∧ (3 : Int) < 4) (by decide) e34 dX12_findHint_101 ?_
          refine q_iconst F dX12_findHint_102 ?_
          exact hret _ _ _ _ _ dX12_findHint_103 (Or.inr rfl) (⟨by decide, by decide⟩ : inR (1)) m35 hw
        · have hw := hw.2 hc
          refine q_goto F 104 dX12_findHint_62 (by decide) ?_
          obtain ⟨k38, hw⟩ := hw
          obtain ⟨z36, e37⟩ := ex1 (x3 + 1)
          have hw := hw z36 e37
          have hz36 : inR z36 := by rw [e37]; exact k38
          refine q_iinc (lv' := [(0, .ref (E.1 1000)), (1, iV x1), (2, iV x2), (3, iV z36)]) F 3 [1, 2, 3, 0] dX12_findHint_104 rfl (q_n hN (by decide)) e37.symm rfl ?_
          refine q_goto F 24 dX12_findHint_107 (by decide) ?_
          exact ih x1 x2 z36 J13 hx1 hx2 hz36 m15 hw
set_option maxHeartbeats 4000000 in
set_option maxRecDepth 100000 in
theorem bX12_findHint_12 {X : xC} {E : cE} (F : mF X E RX12 cX12_findHint bG) (hR : X.1.2.2.2 = rmK 12 (0) (0)) (hN : X.2.2.1.2.2.2 = 4) {Q : Int → cI → Prop} (hret : rZM X E cX12_findHint (0) (0) Q)   {K2 : Int → cI → Prop} (hK2 : ∀ (x1 : Int) (J : cI), inR x1 → mM J → K2 x1 J → cW X (0) (0) 2 [(0, .ref (E.1 1000)), (1, iV x1)] [] (gw E.1 mIds (mef E J) ++ [])) : ∀ n12 : Nat, ∀ (x1 : Int) (x2 : Int) (J : cI), inR x1 → inR x2 → mM J → wX12_findHint_12 Q K2 n12 x1 x2 J → cW X (0) (0) 12 [(0, .ref (E.1 1000)), (1, iV x1), (2, iV x2)] [] (gw E.1 mIds (mef E J) ++ []) := by
  intro n12
  induction n12 with
  | zero => intro x1 x2 J hx1 hx2 hm hw; exact hw.elim
  | succ n12 ih =>
    intro x1 x2 J hx1 hx2 hm hw
    change wbX12_findHint_12 Q K2 (wX12_findHint_12 Q K2 n12) x1 x2 J at hw
    unfold wbX12_findHint_12 at hw
    refine q_iload_n F 2 dX12_findHint_12 rfl rfl ?_
    refine q_aload_n F 0 dX12_findHint_13 rfl rfl ?_
    refine s_g_ruleSize F ib12 wd891 dX12_findHint_14 ?_
    refine q_iload_n F 1 dX12_findHint_17 rfl rfl ?_
    obtain ⟨k1, hw⟩ := hw
    refine s_ald F 70 kM_ruleSize k1 (by decide) dX12_findHint_18 ?_
    refine q_icmp_ge F hx2 (hm _ _) 116 dX12_findHint_19 (by decide) (fun hc => ?_) (fun hc => ?_)
    · have hw := hw.1 hc
      obtain ⟨k4, hw⟩ := hw
      obtain ⟨z2, e3⟩ := ex1 (x1 + 1)
      have hw := hw z2 e3
      have hz2 : inR z2 := by rw [e3]; exact k4
      refine q_iinc (lv' := [(0, .ref (E.1 1000)), (1, iV z2), (2, iV x2)]) F 1 [1, 0, 2] dX12_findHint_116 rfl (q_n hN (by decide)) e3.symm rfl ?_
      refine q_goto F 2 dX12_findHint_119 (by decide) ?_
      refine q_lv [0, 1] rfl ?_
      exact hK2 z2 J hz2 hm hw
    · have hw := hw.2 hc
      refine q_iconst F dX12_findHint_22 ?_
      refine q_istore_n (lv' := [(0, .ref (E.1 1000)), (1, iV x1), (2, iV x2), (3, iV 1)]) F [1, 2, 3, 0] dX12_findHint_23 rfl (q_n hN (by decide)) rfl ?_
      obtain ⟨n5, hw⟩ := hw
      exact bX12_findHint_24 F hR hN hret hK2 ih n5 x1 x2 1 J hx1 hx2 (⟨by decide, by decide⟩ : inR (1)) hm hw
set_option maxHeartbeats 4000000 in
set_option maxRecDepth 100000 in
theorem bX12_findHint_2 {X : xC} {E : cE} (F : mF X E RX12 cX12_findHint bG) (hR : X.1.2.2.2 = rmK 12 (0) (0)) (hN : X.2.2.1.2.2.2 = 4) {Q : Int → cI → Prop} (hret : rZM X E cX12_findHint (0) (0) Q)   : ∀ n2 : Nat, ∀ (x1 : Int) (J : cI), inR x1 → mM J → wX12_findHint_2 Q n2 x1 J → cW X (0) (0) 2 [(0, .ref (E.1 1000)), (1, iV x1)] [] (gw E.1 mIds (mef E J) ++ []) := by
  intro n2
  induction n2 with
  | zero => intro x1 J hx1 hm hw; exact hw.elim
  | succ n2 ih =>
    intro x1 J hx1 hm hw
    change wbX12_findHint_2 Q (wX12_findHint_2 Q n2) x1 J at hw
    unfold wbX12_findHint_2 at hw
    refine q_iload_n F 1 dX12_findHint_2 rfl rfl ?_
    refine q_aload_n F 0 dX12_findHint_3 rfl rfl ?_
    refine s_g_rules F ib12 wd887 dX12_findHint_4 ?_
    refine q_icmp_ge F hx1 (hm _ _) 122 dX12_findHint_7 (by decide) (fun hc => ?_) (fun hc => ?_)
    · have hw := hw.1 hc
      refine q_iconst F dX12_findHint_122 ?_
      exact hret _ _ _ _ _ dX12_findHint_123 (Or.inl rfl) (⟨by decide, by decide⟩ : inR (0)) hm hw
    · have hw := hw.2 hc
      refine q_iconst F dX12_findHint_10 ?_
      refine q_istore_n (lv' := [(0, .ref (E.1 1000)), (1, iV x1), (2, iV 0)]) F [1, 2, 0] dX12_findHint_11 rfl (q_n hN (by decide)) rfl ?_
      obtain ⟨n1, hw⟩ := hw
      exact bX12_findHint_12 F hR hN hret ih n1 x1 0 J hx1 (⟨by decide, by decide⟩ : inR (0)) hm hw
set_option maxHeartbeats 4000000 in
set_option maxRecDepth 100000 in
theorem kcX12_findHint {l : Launch} {D : va_G} {E : cE} {J : cI} (hm : mM J)  {Q : Int → cI → Prop} (hw : wX12_findHint  J Q) : gM l D E mIds yX12_findHint vX12_findHint (rmK 12 (0) (0)) [.ref (E.1 1000)] (mef E J) (mef E) (oI Q) (0) (0) := by
  unfold wX12_findHint at hw
  refine k_ofW (own := RX12) (cc := cX12_findHint) (maxL := 4) (ret := (some .boolean)) (lv := [(0, .ref (E.1 1000))]) (by decide) rfl rfl (Nat.le_of_ble_eq_true rfl) rfl ?_
  intro X hl hR hN hD F K
  subst hl; subst hD
  have hret := mk_rZM (Q := Q) F K
  refine q_iconst F dX12_findHint_0 ?_
  refine q_istore_n (lv' := [(0, .ref (E.1 1000)), (1, iV 0)]) F [1, 0] dX12_findHint_1 rfl (q_n hN (by decide)) rfl ?_
  obtain ⟨n1, hw⟩ := hw
  exact bX12_findHint_2 F hR hN hret n1 0 J (⟨by decide, by decide⟩ : inR (0)) hm hw
theorem ydX12_hint : yX12_hint.cls = RX12 ∧ yX12_hint.cls ≠ "java/lang/invoke/MethodHandle" ∧ yX12_hint.cls ≠ "java/lang/invoke/VarHandle" ∧ (parseMethodDescriptor yX12_hint.desc).map (fun d => d.parameters.length) = some 1 := by decide +kernel
def vX12_hint : List Cond := Cond.code yX12_hint cX12_hint 2 (some .int) :: bG
set_option maxHeartbeats 4000000 in
set_option maxRecDepth 100000 in
theorem kcX12_hint {l : Launch} {D : va_G} {E : cE} {a1 : Int} {J : cI} (hm : mM J) (ha1 : inR a1) {Q : Int → cI → Prop} (hw : wX12_hint a1 J Q) : gM l D E mIds yX12_hint vX12_hint (rmK 13 (0) (0)) [.ref (E.1 1000), iV a1] (mef E J) (mef E) (oI Q) (0) (0) := by
  unfold wX12_hint at hw
  refine k_ofW (own := RX12) (cc := cX12_hint) (maxL := 2) (ret := (some .int)) (lv := [(0, .ref (E.1 1000)), (1, iV a1)]) (by decide) rfl rfl (Nat.le_of_ble_eq_true rfl) rfl ?_
  intro X hl hR hN hD F K
  subst hl; subst hD
  have hret := mk_rIM (Q := Q) F K
  refine q_aload_n F 0 dX12_hint_0 rfl rfl ?_
  refine q_iconst F dX12_hint_1 ?_
  obtain ⟨J1, e2⟩ := ex1 (up2 J 1000 0 0)
  have hw := hw J1 e2
  have m3 : mM J1 := mM_I hm e2 (⟨by decide, by decide⟩ : inR (0))
  refine s_p_thrown F ib12 wd873 e2 dX12_hint_2 ?_
  refine q_iload_n F 1 dX12_hint_5 rfl rfl ?_
  refine q_iconst F dX12_hint_6 ?_
  refine q_iconst F dX12_hint_7 ?_
  refine q_SiM F (kcX12_isIn m3 ha1 (⟨by decide, by decide⟩ : inR (0)) (⟨by decide, by decide⟩ : inR (3)) hw) (bS wd932 wd933 wd13 wd934) rfl ⟨rfl, rfl⟩ ydX12_isIn (rmK_le hR (by omega) (by decide)) (av := [iV a1, iV 0, iV 3]) rfl rfl (Nat.le_of_ble_eq_true rfl) dX12_hint_8 (rmK_cs hR (by omega) (by omega)) (fun r4 J5 h6 m7 hw => ?_)
  refine q_if_ne F h6 20 dX12_hint_11 (by decide) (fun hc => ?_) (fun hc => ?_)
  · have hw := hw.1 hc
    refine q_aload_n F 0 dX12_hint_20 rfl rfl ?_
    refine q_ViM F (kcX12_findHint m7 hw) (by decide) meObj (ci := 10) rfl (bV wd1134 wd1135 wd1327 wd13 wd1136) rfl ⟨rfl, rfl⟩ ydX12_findHint (rmK_le hR (by omega) (by decide)) (av := []) rfl rfl (Nat.le_of_ble_eq_true rfl) dX12_hint_21 (rmK_cs hR (by omega) (by omega)) (fun r8 J9 h10 m11 hw => ?_)
    refine q_if_eq F h10 36 dX12_hint_24 (by decide) (fun hc => ?_) (fun hc => ?_)
    · have hw := hw.1 hc
      refine q_iconst F dX12_hint_36 ?_
      exact hret _ _ _ _ _ dX12_hint_37 (⟨by decide, by decide⟩ : inR (-1)) m11 hw
    · have hw := hw.2 hc
      refine q_aload_n F 0 dX12_hint_27 rfl rfl ?_
      refine s_g_hinted F ib12 wd915 dX12_hint_28 ?_
      refine q_iload_n F 1 dX12_hint_31 rfl rfl ?_
      obtain ⟨k12, hw⟩ := hw
      refine s_ald F 4 kM_hinted k12 (by decide) dX12_hint_32 ?_
      refine q_goto F 37 dX12_hint_33 (by decide) ?_
      exact hret _ _ _ _ _ dX12_hint_37 (m11 _ _) m11 hw
  · have hw := hw.2 hc
    refine q_aload_n F 0 dX12_hint_14 rfl rfl ?_
    refine q_iconst F dX12_hint_15 ?_
    refine q_ViM F (kcX12_no m7 (⟨by decide, by decide⟩ : inR (1)) hw) (by decide) meObj (ci := 10) rfl (bV wd925 wd926 wd1285 wd13 wd927) rfl ⟨rfl, rfl⟩ ydX12_no (rmK_le hR (by omega) (by decide)) (av := [iV 1]) rfl rfl (Nat.le_of_ble_eq_true rfl) dX12_hint_16 (rmK_cs hR (by omega) (by omega)) (fun r13 J14 h15 m16 hw => ?_)
    exact hret _ _ _ _ _ dX12_hint_19 h15 m16 hw
theorem ydX12_step : yX12_step.cls = RX12 ∧ yX12_step.cls ≠ "java/lang/invoke/MethodHandle" ∧ yX12_step.cls ≠ "java/lang/invoke/VarHandle" ∧ (parseMethodDescriptor yX12_step.desc).map (fun d => d.parameters.length) = some 0 := by decide +kernel
def vX12_step : List Cond := Cond.code yX12_step cX12_step 1 (some .boolean) :: bG
set_option maxHeartbeats 4000000 in
set_option maxRecDepth 100000 in
theorem kcX12_step {l : Launch} {D : va_G} {E : cE} {J : cI} (hm : mM J)  {Q : Int → cI → Prop} (hw : wX12_step  J Q) : gM l D E mIds yX12_step vX12_step (rmK 13 (0) (0)) [.ref (E.1 1000)] (mef E J) (mef E) (oI Q) (0) (0) := by
  unfold wX12_step at hw
  refine k_ofW (own := RX12) (cc := cX12_step) (maxL := 1) (ret := (some .boolean)) (lv := [(0, .ref (E.1 1000))]) (by decide) rfl rfl (Nat.le_of_ble_eq_true rfl) rfl ?_
  intro X hl hR hN hD F K
  subst hl; subst hD
  have hret := mk_rZM (Q := Q) F K
  refine q_aload_n F 0 dX12_step_0 rfl rfl ?_
  refine q_iconst F dX12_step_1 ?_
  obtain ⟨J1, e2⟩ := ex1 (up2 J 1000 0 0)
  have hw := hw J1 e2
  have m3 : mM J1 := mM_I hm e2 (⟨by decide, by decide⟩ : inR (0))
  refine s_p_thrown F ib12 wd873 e2 dX12_step_2 ?_
  refine q_aload_n F 0 dX12_step_5 rfl rfl ?_
  refine q_ViM F (kcX12_findHint m3 hw) (by decide) meObj (ci := 10) rfl (bV wd1134 wd1135 wd1327 wd13 wd1136) rfl ⟨rfl, rfl⟩ ydX12_findHint (rmK_le hR (by omega) (by decide)) (av := []) rfl rfl (Nat.le_of_ble_eq_true rfl) dX12_step_6 (rmK_cs hR (by omega) (by omega)) (fun r4 J5 h6 m7 hw => ?_)
  refine q_if_ne F h6 14 dX12_step_9 (by decide) (fun hc => ?_) (fun hc => ?_)
  · have hw := hw.1 hc
    refine q_aload_n F 0 dX12_step_14 rfl rfl ?_
    refine s_g_sets F ib12 wd903 dX12_step_15 ?_
    refine q_aload_n F 0 dX12_step_18 rfl rfl ?_
    refine s_g_hinted F ib12 wd915 dX12_step_19 ?_
    refine q_iconst F dX12_step_22 ?_
    refine s_ald F 4 kM_hinted (⟨by decide, by decide⟩ : 0 ≤ (1 : Int) ∧ (1 : Int) < 4) (by decide) dX12_step_23 ?_
    refine q_dup2 F dX12_step_24 rfl rfl ?_
    obtain ⟨k8, hw⟩ := hw
    refine s_ald F 25 kM_sets k8 (by decide) dX12_step_25 ?_
    refine q_iconst F dX12_step_26 ?_
    refine q_aload_n F 0 dX12_step_27 rfl rfl ?_
    refine s_g_hinted F ib12 wd915 dX12_step_28 ?_
    refine q_iconst F dX12_step_31 ?_
    refine s_ald F 4 kM_hinted (⟨by decide, by decide⟩ : 0 ≤ (2 : Int) ∧ (2 : Int) < 4) (by decide) dX12_step_32 ?_
    refine q_iconst F dX12_step_33 ?_
    refine q_isub F dX12_step_34 ?_
    refine q_ishl F dX12_step_35 ?_
    refine q_iconst F dX12_step_36 ?_
    refine q_ixor F dX12_step_37 ?_
    refine q_iand F dX12_step_38 ?_
    obtain ⟨k9, hw⟩ := hw
    obtain ⟨J10, e11⟩ := ex1 (up2 J5 1030 ((J5 1042 1)) ((iAnd ((J5 1030 ((J5 1042 1)))) ((iXor ((iShl 1 (((J5 1042 2) - 1)))) (-1))))))
    have hw := hw J10 e11
    have m12 : mM J10 := mM_I m7 e11 (ti_rng _)
    refine s_ast F 25 kM_sets k9 (by decide) e11 dX12_step_39 ?_
    refine q_iconst F dX12_step_40 ?_
    exact hret _ _ _ _ _ dX12_step_41 (Or.inr rfl) (⟨by decide, by decide⟩ : inR (1)) m12 hw
  · have hw := hw.2 hc
    refine q_iconst F dX12_step_12 ?_
    exact hret _ _ _ _ _ dX12_step_13 (Or.inl rfl) (⟨by decide, by decide⟩ : inR (0)) m7 hw
theorem ydX12_pass : yX12_pass.cls = RX12 ∧ yX12_pass.cls ≠ "java/lang/invoke/MethodHandle" ∧ yX12_pass.cls ≠ "java/lang/invoke/VarHandle" ∧ (parseMethodDescriptor yX12_pass.desc).map (fun d => d.parameters.length) = some 0 := by decide +kernel
def vX12_pass : List Cond := Cond.code yX12_pass cX12_pass 6 (some .int) :: bG
set_option maxHeartbeats 4000000 in
set_option maxRecDepth 100000 in
theorem bX12_pass_27 {X : xC} {E : cE} (F : mF X E RX12 cX12_pass bG) (hR : X.1.2.2.2 = rmK 12 (0) (0)) (hN : X.2.2.1.2.2.2 = 6) {Q : Int → cI → Prop} (hret : rIM X E cX12_pass (0) (0) Q)   {K4 : Int → Int → cI → Prop} {K14 : Int → Int → Int → cI → Prop} (hK4 : ∀ (x1 : Int) (x2 : Int) (J : cI), inR x1 → inR x2 → mM J → K4 x1 x2 J → cW X (0) (0) 4 [(0, .ref (E.1 1000)), (1, iV x1), (2, iV x2)] [] (gw E.1 mIds (mef E J) ++ [])) (hK14 : ∀ (x1 : Int) (x2 : Int) (x3 : Int) (J : cI), inR x1 → inR x2 → inR x3 → mM J → K14 x1 x2 x3 J → cW X (0) (0) 14 [(0, .ref (E.1 1000)), (1, iV x1), (2, iV x2), (3, iV x3)] [] (gw E.1 mIds (mef E J) ++ [])) : ∀ n27 : Nat, ∀ (x1 : Int) (x2 : Int) (x3 : Int) (x4 : Int) (J : cI), inR x1 → inR x2 → inR x3 → inR x4 → mM J → wX12_pass_27 Q K4 K14 n27 x1 x2 x3 x4 J → cW X (0) (0) 27 [(0, .ref (E.1 1000)), (1, iV x1), (2, iV x2), (3, iV x3), (4, iV x4)] [] (gw E.1 mIds (mef E J) ++ []) := by
  intro n27
  induction n27 with
  | zero => intro x1 x2 x3 x4 J hx1 hx2 hx3 hx4 hm hw; exact hw.elim
  | succ n27 ih =>
    intro x1 x2 x3 x4 J hx1 hx2 hx3 hx4 hm hw
    change wbX12_pass_27 Q K4 K14 (wX12_pass_27 Q K4 K14 n27) x1 x2 x3 x4 J at hw
    unfold wbX12_pass_27 at hw
    refine q_iload F 4 dX12_pass_27 rfl ?_
    refine q_aload_n F 0 dX12_pass_29 rfl rfl ?_
    refine s_g_k F ib12 wd886 dX12_pass_30 ?_
    refine q_icmp_gt F hx4 (hm _ _) 118 dX12_pass_33 (by decide) (fun hc => ?_) (fun hc => ?_)
    · have hw := hw.1 hc
      obtain ⟨k3, hw⟩ := hw
      obtain ⟨z1, e2⟩ := ex1 (x3 + 1)
      have hw := hw z1 e2
      have hz1 : inR z1 := by rw [e2]; exact k3
      refine q_iinc (lv' := [(0, .ref (E.1 1000)), (1, iV x1), (2, iV x2), (3, iV z1), (4, iV x4)]) F 3 [1, 2, 3, 0, 4] dX12_pass_118 rfl (q_n hN (by decide)) e2.symm rfl ?_
      refine q_goto F 14 dX12_pass_121 (by decide) ?_
      refine q_lv [0, 1, 2, 3] rfl ?_
      exact hK14 x1 x2 z1 J hx1 hx2 hz1 hm hw
    · have hw := hw.2 hc
      refine q_aload_n F 0 dX12_pass_36 rfl rfl ?_
      refine q_iload_n F 2 dX12_pass_37 rfl rfl ?_
      refine q_iload_n F 3 dX12_pass_38 rfl rfl ?_
      refine q_ViM F (kcX12_cellOf hm hx2 hx3 hw) (by decide) meObj (ci := 10) rfl (bV wd1030 wd1031 wd1311 wd13 wd1032) rfl ⟨rfl, rfl⟩ ydX12_cellOf (rmK_le hR (by omega) (by decide)) (av := [iV x2, iV x3]) rfl rfl (Nat.le_of_ble_eq_true rfl) dX12_pass_39 (rmK_cs hR (by omega) (by omega)) (fun r4 J5 h6 m7 hw => ?_)
      refine q_istore (lv' := [(0, .ref (E.1 1000)), (1, iV x1), (2, iV x2), (3, iV x3), (4, iV x4), (5, iV r4)]) F [1, 2, 3, 4, 5, 0] dX12_pass_42 (q_n hN (by decide)) rfl ?_
      refine q_aload_n F 0 dX12_pass_44 rfl rfl ?_
      refine s_g_sets F ib12 wd903 dX12_pass_45 ?_
      refine q_iload F 5 dX12_pass_48 rfl ?_
      obtain ⟨k8, hw⟩ := hw
      refine s_ald F 25 kM_sets k8 (by decide) dX12_pass_50 ?_
      refine q_iload F 4 dX12_pass_51 rfl ?_
      refine q_iconst F dX12_pass_53 ?_
      refine q_isub F dX12_pass_54 ?_
      refine q_ishr F dX12_pass_55 ?_
      refine q_iconst F dX12_pass_56 ?_
      refine q_iand F dX12_pass_57 ?_
      refine q_if_eq F (ti_rng _) 112 dX12_pass_58 (by decide) (fun hc => ?_) (fun hc => ?_)
      · have hw := hw.1 hc
        obtain ⟨k11, hw⟩ := hw
        obtain ⟨z9, e10⟩ := ex1 (x4 + 1)
        have hw := hw z9 e10
        have hz9 : inR z9 := by rw [e10]; exact k11
        refine q_iinc (lv' := [(0, .ref (E.1 1000)), (1, iV x1), (2, iV x2), (3, iV x3), (4, iV z9), (5, iV r4)]) F 4 [1, 2, 3, 4, 0, 5] dX12_pass_112 rfl (q_n hN (by decide)) e10.symm rfl ?_
        refine q_goto F 27 dX12_pass_115 (by decide) ?_
        refine q_lv [0, 1, 2, 3, 4] rfl ?_
        exact ih x1 x2 x3 z9 J5 hx1 hx2 hx3 hz9 m7 hw
      · have hw := hw.2 hc
        refine q_aload_n F 0 dX12_pass_61 rfl rfl ?_
        refine q_iload_n F 2 dX12_pass_62 rfl rfl ?_
        refine q_iload_n F 3 dX12_pass_63 rfl rfl ?_
        refine q_iload F 4 dX12_pass_64 rfl ?_
        refine q_ViM F (kcX12_isPossible m7 hx2 hx3 hx4 hw) (by decide) meObj (ci := 10) rfl (bV wd1137 wd1138 wd1328 wd13 wd1139) rfl ⟨rfl, rfl⟩ ydX12_isPossible (rmK_le hR (by omega) (by decide)) (av := [iV x2, iV x3, iV x4]) rfl rfl (Nat.le_of_ble_eq_true rfl) dX12_pass_66 (rmK_cs hR (by omega) (by omega)) (fun r12 J13 h14 m15 hw => ?_)
        refine q_if_eq F h14 75 dX12_pass_69 (by decide) (fun hc => ?_) (fun hc => ?_)
        · have hw := hw.1 hc
          refine q_aload_n F 0 dX12_pass_75 rfl rfl ?_
          refine q_aload_n F 0 dX12_pass_76 rfl rfl ?_
          refine s_g_grade F ib12 wd905 dX12_pass_77 ?_
          refine q_aload_n F 0 dX12_pass_80 rfl rfl ?_
          refine q_iload_n F 2 dX12_pass_81 rfl rfl ?_
          refine q_ViM F (kcX12_gradeOf m15 hx2 hw) (by decide) meObj (ci := 10) rfl (bV wd1143 wd1144 wd1330 wd13 wd1145) rfl ⟨rfl, rfl⟩ ydX12_gradeOf (rmK_le hR (by omega) (by decide)) (av := [iV x2]) rfl rfl (Nat.le_of_ble_eq_true rfl) dX12_pass_82 (rmK_cs hR (by omega) (by omega)) (fun r16 J17 h18 m19 hw => ?_)
          refine q_max F hR (by omega) (m15 _ _) h18 wd1033 dX12_pass_85 (Nat.le_of_ble_eq_true rfl) ?_
          obtain ⟨J20, e21⟩ := ex1 (up2 J17 1000 32 ((imax ((J13 1000 32)) r16)))
          have hw := hw J20 e21
          have m22 : mM J20 := mM_I m19 e21 (imax_in (m15 _ _) h18)
          refine s_p_grade F ib12 wd905 e21 dX12_pass_88 ?_
          refine q_aload_n F 0 dX12_pass_91 rfl rfl ?_
          refine s_g_sets F ib12 wd903 dX12_pass_92 ?_
          refine q_iload F 5 dX12_pass_95 rfl ?_
          refine q_dup2 F dX12_pass_97 rfl rfl ?_
          obtain ⟨k23, hw⟩ := hw
          refine s_ald F 25 kM_sets k23 (by decide) dX12_pass_98 ?_
          refine q_iconst F dX12_pass_99 ?_
          refine q_iload F 4 dX12_pass_100 rfl ?_
          refine q_iconst F dX12_pass_102 ?_
          refine q_isub F dX12_pass_103 ?_
          refine q_ishl F dX12_pass_104 ?_
          refine q_iconst F dX12_pass_105 ?_
          refine q_ixor F dX12_pass_106 ?_
          refine q_iand F dX12_pass_107 ?_
          obtain ⟨k24, hw⟩ := hw
          obtain ⟨J25, e26⟩ := ex1 (up2 J20 1030 r4 ((iAnd ((J20 1030 r4)) ((iXor ((iShl 1 ((x4 - 1)))) (-1))))))
          have hw := hw J25 e26
          have m27 : mM J25 := mM_I m22 e26 (ti_rng _)
          refine s_ast F 25 kM_sets k24 (by decide) e26 dX12_pass_108 ?_
          obtain ⟨k30, hw⟩ := hw
          obtain ⟨z28, e29⟩ := ex1 (x1 + 1)
          have hw := hw z28 e29
          have hz28 : inR z28 := by rw [e29]; exact k30
          refine q_iinc (lv' := [(0, .ref (E.1 1000)), (1, iV z28), (2, iV x2), (3, iV x3), (4, iV x4), (5, iV r4)]) F 1 [1, 0, 2, 3, 4, 5] dX12_pass_109 rfl (q_n hN (by decide)) e29.symm rfl ?_
          obtain ⟨k33, hw⟩ := hw
          obtain ⟨z31, e32⟩ := ex1 (x4 + 1)
          have hw := hw z31 e32
          have hz31 : inR z31 := by rw [e32]; exact k33
          refine q_iinc (lv' := [(0, .ref (E.1 1000)), (1, iV z28), (2, iV x2), (3, iV x3), (4, iV z31), (5, iV r4)]) F 4 [1, 2, 3, 4, 0, 5] dX12_pass_112 rfl (q_n hN (by decide)) e32.symm rfl ?_
          refine q_goto F 27 dX12_pass_115 (by decide) ?_
          refine q_lv [0, 1, 2, 3, 4] rfl ?_
          exact ih z28 x2 x3 z31 J25 hz28 hx2 hx3 hz31 m27 hw
        · have hw := hw.2 hc
          refine q_goto F 112 dX12_pass_72 (by decide) ?_
          obtain ⟨k36, hw⟩ := hw
          obtain ⟨z34, e35⟩ := ex1 (x4 + 1)
          have hw := hw z34 e35
          have hz34 : inR z34 := by rw [e35]; exact k36
          refine q_iinc (lv' := [(0, .ref (E.1 1000)), (1, iV x1), (2, iV x2), (3, iV x3), (4, iV z34), (5, iV r4)]) F 4 [1, 2, 3, 4, 0, 5] dX12_pass_112 rfl (q_n hN (by decide)) e35.symm rfl ?_
          refine q_goto F 27 dX12_pass_115 (by decide) ?_
          refine q_lv [0, 1, 2, 3, 4] rfl ?_
          exact ih x1 x2 x3 z34 J13 hx1 hx2 hx3 hz34 m15 hw
set_option maxHeartbeats 4000000 in
set_option maxRecDepth 100000 in
theorem bX12_pass_14 {X : xC} {E : cE} (F : mF X E RX12 cX12_pass bG) (hR : X.1.2.2.2 = rmK 12 (0) (0)) (hN : X.2.2.1.2.2.2 = 6) {Q : Int → cI → Prop} (hret : rIM X E cX12_pass (0) (0) Q)   {K4 : Int → Int → cI → Prop} (hK4 : ∀ (x1 : Int) (x2 : Int) (J : cI), inR x1 → inR x2 → mM J → K4 x1 x2 J → cW X (0) (0) 4 [(0, .ref (E.1 1000)), (1, iV x1), (2, iV x2)] [] (gw E.1 mIds (mef E J) ++ [])) : ∀ n14 : Nat, ∀ (x1 : Int) (x2 : Int) (x3 : Int) (J : cI), inR x1 → inR x2 → inR x3 → mM J → wX12_pass_14 Q K4 n14 x1 x2 x3 J → cW X (0) (0) 14 [(0, .ref (E.1 1000)), (1, iV x1), (2, iV x2), (3, iV x3)] [] (gw E.1 mIds (mef E J) ++ []) := by
  intro n14
  induction n14 with
  | zero => intro x1 x2 x3 J hx1 hx2 hx3 hm hw; exact hw.elim
  | succ n14 ih =>
    intro x1 x2 x3 J hx1 hx2 hx3 hm hw
    change wbX12_pass_14 Q K4 (wX12_pass_14 Q K4 n14) x1 x2 x3 J at hw
    unfold wbX12_pass_14 at hw
    refine q_iload_n F 3 dX12_pass_14 rfl rfl ?_
    refine q_aload_n F 0 dX12_pass_15 rfl rfl ?_
    refine s_g_ruleSize F ib12 wd891 dX12_pass_16 ?_
    refine q_iload_n F 2 dX12_pass_19 rfl rfl ?_
    obtain ⟨k1, hw⟩ := hw
    refine s_ald F 70 kM_ruleSize k1 (by decide) dX12_pass_20 ?_
    refine q_icmp_ge F hx3 (hm _ _) 124 dX12_pass_21 (by decide) (fun hc => ?_) (fun hc => ?_)
    · have hw := hw.1 hc
      obtain ⟨k4, hw⟩ := hw
      obtain ⟨z2, e3⟩ := ex1 (x2 + 1)
      have hw := hw z2 e3
      have hz2 : inR z2 := by rw [e3]; exact k4
      refine q_iinc (lv' := [(0, .ref (E.1 1000)), (1, iV x1), (2, iV z2), (3, iV x3)]) F 2 [1, 2, 0, 3] dX12_pass_124 rfl (q_n hN (by decide)) e3.symm rfl ?_
      refine q_goto F 4 dX12_pass_127 (by decide) ?_
      refine q_lv [0, 1, 2] rfl ?_
      exact hK4 x1 z2 J hx1 hz2 hm hw
    · have hw := hw.2 hc
      refine q_iconst F dX12_pass_24 ?_
      refine q_istore (lv' := [(0, .ref (E.1 1000)), (1, iV x1), (2, iV x2), (3, iV x3), (4, iV 1)]) F [1, 2, 3, 4, 0] dX12_pass_25 (q_n hN (by decide)) rfl ?_
      obtain ⟨n5, hw⟩ := hw
      exact bX12_pass_27 F hR hN hret hK4 ih n5 x1 x2 x3 1 J hx1 hx2 hx3 (⟨by decide, by decide⟩ : inR (1)) hm hw
set_option maxHeartbeats 4000000 in
set_option maxRecDepth 100000 in
theorem bX12_pass_4 {X : xC} {E : cE} (F : mF X E RX12 cX12_pass bG) (hR : X.1.2.2.2 = rmK 12 (0) (0)) (hN : X.2.2.1.2.2.2 = 6) {Q : Int → cI → Prop} (hret : rIM X E cX12_pass (0) (0) Q)   : ∀ n4 : Nat, ∀ (x1 : Int) (x2 : Int) (J : cI), inR x1 → inR x2 → mM J → wX12_pass_4 Q n4 x1 x2 J → cW X (0) (0) 4 [(0, .ref (E.1 1000)), (1, iV x1), (2, iV x2)] [] (gw E.1 mIds (mef E J) ++ []) := by
  intro n4
  induction n4 with
  | zero => intro x1 x2 J hx1 hx2 hm hw; exact hw.elim
  | succ n4 ih =>
    intro x1 x2 J hx1 hx2 hm hw
    change wbX12_pass_4 Q (wX12_pass_4 Q n4) x1 x2 J at hw
    unfold wbX12_pass_4 at hw
    refine q_iload_n F 2 dX12_pass_4 rfl rfl ?_
    refine q_aload_n F 0 dX12_pass_5 rfl rfl ?_
    refine s_g_rules F ib12 wd887 dX12_pass_6 ?_
    refine q_icmp_ge F hx2 (hm _ _) 130 dX12_pass_9 (by decide) (fun hc => ?_) (fun hc => ?_)
    · have hw := hw.1 hc
      refine q_iload_n F 1 dX12_pass_130 rfl rfl ?_
      exact hret _ _ _ _ _ dX12_pass_131 hx1 hm hw
    · have hw := hw.2 hc
      refine q_iconst F dX12_pass_12 ?_
      refine q_istore_n (lv' := [(0, .ref (E.1 1000)), (1, iV x1), (2, iV x2), (3, iV 0)]) F [1, 2, 3, 0] dX12_pass_13 rfl (q_n hN (by decide)) rfl ?_
      obtain ⟨n1, hw⟩ := hw
      exact bX12_pass_14 F hR hN hret ih n1 x1 x2 0 J hx1 hx2 (⟨by decide, by decide⟩ : inR (0)) hm hw
set_option maxHeartbeats 4000000 in
set_option maxRecDepth 100000 in
theorem kcX12_pass {l : Launch} {D : va_G} {E : cE} {J : cI} (hm : mM J)  {Q : Int → cI → Prop} (hw : wX12_pass  J Q) : gM l D E mIds yX12_pass vX12_pass (rmK 12 (0) (0)) [.ref (E.1 1000)] (mef E J) (mef E) (oI Q) (0) (0) := by
  unfold wX12_pass at hw
  refine k_ofW (own := RX12) (cc := cX12_pass) (maxL := 6) (ret := (some .int)) (lv := [(0, .ref (E.1 1000))]) (by decide) rfl rfl (Nat.le_of_ble_eq_true rfl) rfl ?_
  intro X hl hR hN hD F K
  subst hl; subst hD
  have hret := mk_rIM (Q := Q) F K
  refine q_iconst F dX12_pass_0 ?_
  refine q_istore_n (lv' := [(0, .ref (E.1 1000)), (1, iV 0)]) F [1, 0] dX12_pass_1 rfl (q_n hN (by decide)) rfl ?_
  refine q_iconst F dX12_pass_2 ?_
  refine q_istore_n (lv' := [(0, .ref (E.1 1000)), (1, iV 0), (2, iV 0)]) F [1, 2, 0] dX12_pass_3 rfl (q_n hN (by decide)) rfl ?_
  obtain ⟨n1, hw⟩ := hw
  exact bX12_pass_4 F hR hN hret n1 0 0 J (⟨by decide, by decide⟩ : inR (0)) (⟨by decide, by decide⟩ : inR (0)) hm hw
theorem ydX12_reason : yX12_reason.cls = RX12 ∧ yX12_reason.cls ≠ "java/lang/invoke/MethodHandle" ∧ yX12_reason.cls ≠ "java/lang/invoke/VarHandle" ∧ (parseMethodDescriptor yX12_reason.desc).map (fun d => d.parameters.length) = some 0 := by decide +kernel
def vX12_reason : List Cond := Cond.code yX12_reason cX12_reason 3 (some .int) :: bG
set_option maxHeartbeats 4000000 in
set_option maxRecDepth 100000 in
theorem bX12_reason_19 {X : xC} {E : cE} (F : mF X E RX12 cX12_reason bG) (hR : X.1.2.2.2 = rmK 13 (0) (0)) (hN : X.2.2.1.2.2.2 = 3) {Q : Int → cI → Prop} (hret : rIM X E cX12_reason (0) (0) Q)   : ∀ n19 : Nat, ∀ (x1 : Int) (x2 : Int) (J : cI), inR x1 → inR x2 → mM J → wX12_reason_19 Q n19 x1 x2 J → cW X (0) (0) 19 [(0, .ref (E.1 1000)), (1, iV x1), (2, iV x2)] [] (gw E.1 mIds (mef E J) ++ []) := by
  intro n19
  induction n19 with
  | zero => intro x1 x2 J hx1 hx2 hm hw; exact hw.elim
  | succ n19 ih =>
    intro x1 x2 J hx1 hx2 hm hw
    change wbX12_reason_19 Q (wX12_reason_19 Q n19) x1 x2 J at hw
    unfold wbX12_reason_19 at hw
    refine q_iload_n F 2 dX12_reason_19 rfl rfl ?_
    refine q_if_le F hx2 45 dX12_reason_20 (by decide) (fun hc => ?_) (fun hc => ?_)
    · have hw := hw.1 hc
      refine q_iload_n F 1 dX12_reason_45 rfl rfl ?_
      exact hret _ _ _ _ _ dX12_reason_46 hx1 hm hw
    · have hw := hw.2 hc
      refine q_aload_n F 0 dX12_reason_23 rfl rfl ?_
      refine q_ViM F (kcX12_pass hm hw) (by decide) meObj (ci := 10) rfl (bV wd1154 wd1155 wd1331 wd13 wd1156) rfl ⟨rfl, rfl⟩ ydX12_pass (rmK_le hR (by omega) (by decide)) (av := []) rfl rfl (Nat.le_of_ble_eq_true rfl) dX12_reason_24 (rmK_cs hR (by omega) (by omega)) (fun r1 J2 h3 m4 hw => ?_)
      refine q_istore_n (lv' := [(0, .ref (E.1 1000)), (1, iV x1), (2, iV r1)]) F [1, 2, 0] dX12_reason_27 rfl (q_n hN (by decide)) rfl ?_
      refine q_aload_n F 0 dX12_reason_28 rfl rfl ?_
      refine q_dup F dX12_reason_29 rfl ?_
      refine s_g_passes F ib12 wd904 dX12_reason_30 ?_
      refine q_iconst F dX12_reason_33 ?_
      refine q_iadd F dX12_reason_34 ?_
      obtain ⟨k5, hw⟩ := hw
      obtain ⟨J6, e7⟩ := ex1 (up2 J2 1000 31 (((J2 1000 31) + 1)))
      have hw := hw J6 e7
      have m8 : mM J6 := mM_I m4 e7 k5
      refine s_p_passes F ib12 wd904 e7 dX12_reason_35 ?_
      refine q_iload_n F 1 dX12_reason_38 rfl rfl ?_
      refine q_iload_n F 2 dX12_reason_39 rfl rfl ?_
      refine q_iadd F dX12_reason_40 ?_
      obtain ⟨k9, hw⟩ := hw
      obtain ⟨z10, e11⟩ := ex1 ((x1 + r1))
      have hw := hw z10 e11
      have hz10 : inR z10 := by rw [e11]; exact k9
      refine q_top e11 ?_
      refine q_istore_n (lv' := [(0, .ref (E.1 1000)), (1, iV z10), (2, iV r1)]) F [1, 0, 2] dX12_reason_41 rfl (q_n hN (by decide)) rfl ?_
      refine q_goto F 19 dX12_reason_42 (by decide) ?_
      exact ih z10 r1 J6 hz10 h3 m8 hw
set_option maxHeartbeats 4000000 in
set_option maxRecDepth 100000 in
theorem kcX12_reason {l : Launch} {D : va_G} {E : cE} {J : cI} (hm : mM J)  {Q : Int → cI → Prop} (hw : wX12_reason  J Q) : gM l D E mIds yX12_reason vX12_reason (rmK 13 (0) (0)) [.ref (E.1 1000)] (mef E J) (mef E) (oI Q) (0) (0) := by
  unfold wX12_reason at hw
  refine k_ofW (own := RX12) (cc := cX12_reason) (maxL := 3) (ret := (some .int)) (lv := [(0, .ref (E.1 1000))]) (by decide) rfl rfl (Nat.le_of_ble_eq_true rfl) rfl ?_
  intro X hl hR hN hD F K
  subst hl; subst hD
  have hret := mk_rIM (Q := Q) F K
  refine q_aload_n F 0 dX12_reason_0 rfl rfl ?_
  refine q_iconst F dX12_reason_1 ?_
  obtain ⟨J1, e2⟩ := ex1 (up2 J 1000 0 0)
  have hw := hw J1 e2
  have m3 : mM J1 := mM_I hm e2 (⟨by decide, by decide⟩ : inR (0))
  refine s_p_thrown F ib12 wd873 e2 dX12_reason_2 ?_
  refine q_aload_n F 0 dX12_reason_5 rfl rfl ?_
  refine q_iconst F dX12_reason_6 ?_
  obtain ⟨J4, e5⟩ := ex1 (up2 J1 1000 31 0)
  have hw := hw J4 e5
  have m6 : mM J4 := mM_I m3 e5 (⟨by decide, by decide⟩ : inR (0))
  refine s_p_passes F ib12 wd904 e5 dX12_reason_7 ?_
  refine q_aload_n F 0 dX12_reason_10 rfl rfl ?_
  refine q_iconst F dX12_reason_11 ?_
  obtain ⟨J7, e8⟩ := ex1 (up2 J4 1000 32 0)
  have hw := hw J7 e8
  have m9 : mM J7 := mM_I m6 e8 (⟨by decide, by decide⟩ : inR (0))
  refine s_p_grade F ib12 wd905 e8 dX12_reason_12 ?_
  refine q_iconst F dX12_reason_15 ?_
  refine q_istore_n (lv' := [(0, .ref (E.1 1000)), (1, iV 0)]) F [1, 0] dX12_reason_16 rfl (q_n hN (by decide)) rfl ?_
  refine q_iconst F dX12_reason_17 ?_
  refine q_istore_n (lv' := [(0, .ref (E.1 1000)), (1, iV 0), (2, iV 1)]) F [1, 2, 0] dX12_reason_18 rfl (q_n hN (by decide)) rfl ?_
  obtain ⟨n10, hw⟩ := hw
  exact bX12_reason_19 F hR hN hret n10 0 1 J7 (⟨by decide, by decide⟩ : inR (0)) (⟨by decide, by decide⟩ : inR (1)) m9 hw
theorem ydX12_withValues : yX12_withValues.cls = RX12 ∧ yX12_withValues.cls ≠ "java/lang/invoke/MethodHandle" ∧ yX12_withValues.cls ≠ "java/lang/invoke/VarHandle" ∧ (parseMethodDescriptor yX12_withValues.desc).map (fun d => d.parameters.length) = some 1 := by decide +kernel
def vX12_withValues : List Cond := Cond.code yX12_withValues cX12_withValues 4 (some .int) :: bG
set_option maxHeartbeats 4000000 in
set_option maxRecDepth 100000 in
theorem bX12_withValues_31 {X : xC} {E : cE} (F : mF X E RX12 cX12_withValues bG) (hR : X.1.2.2.2 = rmK 2 (0) (0)) (hN : X.2.2.1.2.2.2 = 4) {Q : Int → cI → Prop} (hret : rIM X E cX12_withValues (0) (0) Q) {a1 : Int} (ha1 : inR a1) {K4 : Int → Int → cI → Prop} (hK4 : ∀ (x2 : Int) (x3 : Int) (J : cI), inR x2 → inR x3 → mM J → K4 x2 x3 J → cW X (0) (0) 4 [(0, .ref (E.1 1000)), (1, iV a1), (2, iV x2), (3, iV x3)] [] (gw E.1 mIds (mef E J) ++ [])) : ∀ (x3 : Int) (y0 : Int) (y1 : Int) (y2 : Int) (J : cI), inR x3 → inR y0 → inR y1 → inR y2 → mM J → wX12_withValues_31 Q a1 K4 x3 y0 y1 y2 J → cW X (0) (0) 31 [(0, .ref (E.1 1000)), (1, iV a1), (3, iV x3)] [iV y2, iV y1, iV y0] (gw E.1 mIds (mef E J) ++ []) := by
  intro x3 y0 y1 y2 J hx3 hy0 hy1 hy2 hm hw
  unfold wX12_withValues_31 at hw
  refine q_icmp_ne F hy1 hy2 38 dX12_withValues_31 (by decide) (fun hc => ?_) (fun hc => ?_)
  · have hw := hw.1 hc
    refine q_iconst F dX12_withValues_38 ?_
    refine q_iadd F dX12_withValues_39 ?_
    obtain ⟨k1, hw⟩ := hw
    obtain ⟨z2, e3⟩ := ex1 ((y0 + 0))
    have hw := hw z2 e3
    have hz2 : inR z2 := by rw [e3]; exact k1
    refine q_top e3 ?_
    refine q_istore_n (lv' := [(0, .ref (E.1 1000)), (1, iV a1), (2, iV z2), (3, iV x3)]) F [1, 2, 0, 3] dX12_withValues_40 rfl (q_n hN (by decide)) rfl ?_
    obtain ⟨k6, hw⟩ := hw
    obtain ⟨z4, e5⟩ := ex1 (x3 + 1)
    have hw := hw z4 e5
    have hz4 : inR z4 := by rw [e5]; exact k6
    refine q_iinc (lv' := [(0, .ref (E.1 1000)), (1, iV a1), (2, iV z2), (3, iV z4)]) F 3 [1, 2, 3, 0] dX12_withValues_41 rfl (q_n hN (by decide)) e5.symm rfl ?_
    refine q_goto F 4 dX12_withValues_44 (by decide) ?_
    exact hK4 z2 z4 J hz2 hz4 hm hw
  · have hw := hw.2 hc
    refine q_iconst F dX12_withValues_34 ?_
    refine q_goto F 39 dX12_withValues_35 (by decide) ?_
    refine q_iadd F dX12_withValues_39 ?_
    obtain ⟨k7, hw⟩ := hw
    obtain ⟨z8, e9⟩ := ex1 ((y0 + 1))
    have hw := hw z8 e9
    have hz8 : inR z8 := by rw [e9]; exact k7
    refine q_top e9 ?_
    refine q_istore_n (lv' := [(0, .ref (E.1 1000)), (1, iV a1), (2, iV z8), (3, iV x3)]) F [1, 2, 0, 3] dX12_withValues_40 rfl (q_n hN (by decide)) rfl ?_
    obtain ⟨k12, hw⟩ := hw
    obtain ⟨z10, e11⟩ := ex1 (x3 + 1)
    have hw := hw z10 e11
    have hz10 : inR z10 := by rw [e11]; exact k12
    refine q_iinc (lv' := [(0, .ref (E.1 1000)), (1, iV a1), (2, iV z8), (3, iV z10)]) F 3 [1, 2, 3, 0] dX12_withValues_41 rfl (q_n hN (by decide)) e11.symm rfl ?_
    refine q_goto F 4 dX12_withValues_44 (by decide) ?_
    exact hK4 z8 z10 J hz8 hz10 hm hw
set_option maxHeartbeats 4000000 in
set_option maxRecDepth 100000 in
theorem bX12_withValues_4 {X : xC} {E : cE} (F : mF X E RX12 cX12_withValues bG) (hR : X.1.2.2.2 = rmK 2 (0) (0)) (hN : X.2.2.1.2.2.2 = 4) {Q : Int → cI → Prop} (hret : rIM X E cX12_withValues (0) (0) Q) {a1 : Int} (ha1 : inR a1) : ∀ n4 : Nat, ∀ (x2 : Int) (x3 : Int) (J : cI), inR x2 → inR x3 → mM J → wX12_withValues_4 Q a1 n4 x2 x3 J → cW X (0) (0) 4 [(0, .ref (E.1 1000)), (1, iV a1), (2, iV x2), (3, iV x3)] [] (gw E.1 mIds (mef E J) ++ []) := by
  intro n4
  induction n4 with
  | zero => intro x2 x3 J hx2 hx3 hm hw; exact hw.elim
  | succ n4 ih =>
    intro x2 x3 J hx2 hx3 hm hw
    change wbX12_withValues_4 Q a1 (wX12_withValues_4 Q a1 n4) x2 x3 J at hw
    unfold wbX12_withValues_4 at hw
    refine q_iload_n F 3 dX12_withValues_4 rfl rfl ?_
    refine q_aload_n F 0 dX12_withValues_5 rfl rfl ?_
    refine q_ViM F (kcX12_cells hm hw) (by decide) meObj (ci := 10) rfl (bV wd1003 wd1004 wd1305 wd13 wd1005) rfl ⟨rfl, rfl⟩ ydX12_cells (rmK_le hR (by omega) (by decide)) (av := []) rfl rfl (Nat.le_of_ble_eq_true rfl) dX12_withValues_6 (rmK_cs hR (by omega) (by omega)) (fun r1 J2 h3 m4 hw => ?_)
    refine q_icmp_ge F hx3 h3 47 dX12_withValues_9 (by decide) (fun hc => ?_) (fun hc => ?_)
    · have hw := hw.1 hc
      refine q_iload_n F 2 dX12_withValues_47 rfl rfl ?_
      exact hret _ _ _ _ _ dX12_withValues_48 hx2 m4 hw
    · have hw := hw.2 hc
      refine q_iload_n F 2 dX12_withValues_12 rfl rfl ?_
      refine q_aload_n F 0 dX12_withValues_13 rfl rfl ?_
      refine s_g_sets F ib12 wd903 dX12_withValues_14 ?_
      refine q_iload_n F 3 dX12_withValues_17 rfl rfl ?_
      obtain ⟨k5, hw⟩ := hw
      refine s_ald F 25 kM_sets k5 (by decide) dX12_withValues_18 ?_
      refine q_bc F hR (by omega) (m4 _ _) wd1006 dX12_withValues_19 (Nat.le_of_ble_eq_true rfl) ?_
      refine q_iload_n F 1 dX12_withValues_22 rfl rfl ?_
      refine q_if_eq F ha1 30 dX12_withValues_23 (by decide) (fun hc => ?_) (fun hc => ?_)
      · have hw := hw.1 hc
        refine q_iconst F dX12_withValues_30 ?_
        refine q_lv [0, 1, 3] rfl ?_
        exact bX12_withValues_31 F hR hN hret ha1 ih x3 x2 ((bc ((J2 1030 x3)))) 1 J2 hx3 hx2 (bc_in _) (⟨by decide, by decide⟩ : inR (1)) m4 hw
      · have hw := hw.2 hc
        refine q_iconst F dX12_withValues_26 ?_
        refine q_goto F 31 dX12_withValues_27 (by decide) ?_
        refine q_lv [0, 1, 3] rfl ?_
        exact bX12_withValues_31 F hR hN hret ha1 ih x3 x2 ((bc ((J2 1030 x3)))) 0 J2 hx3 hx2 (bc_in _) (⟨by decide, by decide⟩ : inR (0)) m4 hw
set_option maxHeartbeats 4000000 in
set_option maxRecDepth 100000 in
theorem kcX12_withValues {l : Launch} {D : va_G} {E : cE} {a1 : Int} {J : cI} (hm : mM J) (ha1 : inR a1) {Q : Int → cI → Prop} (hw : wX12_withValues a1 J Q) : gM l D E mIds yX12_withValues vX12_withValues (rmK 2 (0) (0)) [.ref (E.1 1000), iV a1] (mef E J) (mef E) (oI Q) (0) (0) := by
  unfold wX12_withValues at hw
  refine k_ofW (own := RX12) (cc := cX12_withValues) (maxL := 4) (ret := (some .int)) (lv := [(0, .ref (E.1 1000)), (1, iV a1)]) (by decide) rfl rfl (Nat.le_of_ble_eq_true rfl) rfl ?_
  intro X hl hR hN hD F K
  subst hl; subst hD
  have hret := mk_rIM (Q := Q) F K
  refine q_iconst F dX12_withValues_0 ?_
  refine q_istore_n (lv' := [(0, .ref (E.1 1000)), (1, iV a1), (2, iV 0)]) F [1, 2, 0] dX12_withValues_1 rfl (q_n hN (by decide)) rfl ?_
  refine q_iconst F dX12_withValues_2 ?_
  refine q_istore_n (lv' := [(0, .ref (E.1 1000)), (1, iV a1), (2, iV 0), (3, iV 0)]) F [1, 2, 3, 0] dX12_withValues_3 rfl (q_n hN (by decide)) rfl ?_
  obtain ⟨n1, hw⟩ := hw
  exact bX12_withValues_4 F hR hN hret ha1 n1 0 0 J (⟨by decide, by decide⟩ : inR (0)) (⟨by decide, by decide⟩ : inR (0)) hm hw
