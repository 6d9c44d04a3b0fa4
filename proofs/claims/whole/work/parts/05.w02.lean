/-! ===== walks: X12_begin, X12_compile, X12_moveRule, X12_errorAt, X12_cellOf, X12_seen, X12_isPairBroken ===== -/
theorem ydX12_begin : yX12_begin.cls = RX12 ∧ yX12_begin.cls ≠ "java/lang/invoke/MethodHandle" ∧ yX12_begin.cls ≠ "java/lang/invoke/VarHandle" ∧ (parseMethodDescriptor yX12_begin.desc).map (fun d => d.parameters.length) = some 0 := by decide +kernel
def vX12_begin : List Cond := Cond.code yX12_begin cX12_begin 2 none :: bG
set_option maxHeartbeats 4000000 in
set_option maxRecDepth 100000 in
theorem bX12_begin_76 {X : xC} {E : cE} (F : mF X E RX12 cX12_begin bG) (hR : X.1.2.2.2 = rmK 3 (0) (0)) (hN : X.2.2.1.2.2.2 = 2) {Q : cI → Prop} (hret : rVM X E cX12_begin (0) (0) Q)   : ∀ n76 : Nat, ∀ (x1 : Int) (J : cI), inR x1 → mM J → wX12_begin_76 Q n76 x1 J → cW X (0) (0) 76 [(0, .ref (E.1 1000)), (1, iV x1)] [] (gw E.1 mIds (mef E J) ++ []) := by
  intro n76
  induction n76 with
  | zero => intro x1 J hx1 hm hw; exact hw.elim
  | succ n76 ih =>
    intro x1 J hx1 hm hw
    change wbX12_begin_76 Q (wX12_begin_76 Q n76) x1 J at hw
    unfold wbX12_begin_76 at hw
    refine q_iload_n F 1 dX12_begin_76 rfl rfl ?_
    refine q_bipush F dX12_begin_77 (by decide) ?_
    refine q_icmp_ge F hx1 (⟨by decide, by decide⟩ : inR (25)) 95 dX12_begin_79 (by decide) (fun hc => ?_) (fun hc => ?_)
    · have hw := hw.1 hc
      refine q_aload_n F 0 dX12_begin_95 rfl rfl ?_
      refine q_iconst F dX12_begin_96 ?_
      obtain ⟨J1, e2⟩ := ex1 (up2 J 1000 28 0)
      have hw := hw J1 e2
      have m3 : mM J1 := mM_I hm e2 (⟨by decide, by decide⟩ : inR (0))
      refine s_p_kept F ib12 wd901 e2 dX12_begin_97 ?_
      refine q_aload_n F 0 dX12_begin_100 rfl rfl ?_
      refine q_ViM F (kcX12_lookAnew m3 hw) (by decide) meObj (ci := 10) rfl (bV wd1000 wd1001 wd1304 wd13 wd1002) rfl ⟨rfl, rfl⟩ ydX12_lookAnew (rmK_le hR (by omega) (by decide)) (av := []) rfl rfl (Nat.le_of_ble_eq_true rfl) dX12_begin_101 (rmK_cs hR (by omega) (by omega)) (fun r4 J5 h6 m7 hw => ?_)
      refine q_pop F dX12_begin_104 rfl ?_
      exact hret _ _ _ _ dX12_begin_105 m7 hw
    · have hw := hw.2 hc
      refine q_aload_n F 0 dX12_begin_82 rfl rfl ?_
      refine s_g_grid F ib12 wd893 dX12_begin_83 ?_
      refine q_iload_n F 1 dX12_begin_86 rfl rfl ?_
      refine q_iconst F dX12_begin_87 ?_
      obtain ⟨k8, hw⟩ := hw
      obtain ⟨J9, e10⟩ := ex1 (up2 J 1020 x1 0)
      have hw := hw J9 e10
      have m11 : mM J9 := mM_I hm e10 (⟨by decide, by decide⟩ : inR (0))
      refine s_ast F 25 kM_grid k8 (by decide) e10 dX12_begin_88 ?_
      obtain ⟨k14, hw⟩ := hw
      obtain ⟨z12, e13⟩ := ex1 (x1 + 1)
      have hw := hw z12 e13
      have hz12 : inR z12 := by rw [e13]; exact k14
      refine q_iinc (lv' := [(0, .ref (E.1 1000)), (1, iV z12)]) F 1 [1, 0] dX12_begin_89 rfl (q_n hN (by decide)) e13.symm rfl ?_
      refine q_goto F 76 dX12_begin_92 (by decide) ?_
      exact ih z12 J9 hz12 m11 hw
set_option maxHeartbeats 4000000 in
set_option maxRecDepth 100000 in
theorem bX12_begin_34 {X : xC} {E : cE} (F : mF X E RX12 cX12_begin bG) (hR : X.1.2.2.2 = rmK 3 (0) (0)) (hN : X.2.2.1.2.2.2 = 2) {Q : cI → Prop} (hret : rVM X E cX12_begin (0) (0) Q)   : ∀ n34 : Nat, ∀ (x1 : Int) (J : cI), inR x1 → mM J → wX12_begin_34 Q n34 x1 J → cW X (0) (0) 34 [(0, .ref (E.1 1000)), (1, iV x1)] [] (gw E.1 mIds (mef E J) ++ []) := by
  intro n34
  induction n34 with
  | zero => intro x1 J hx1 hm hw; exact hw.elim
  | succ n34 ih =>
    intro x1 J hx1 hm hw
    change wbX12_begin_34 Q (wX12_begin_34 Q n34) x1 J at hw
    unfold wbX12_begin_34 at hw
    refine q_iload_n F 1 dX12_begin_34 rfl rfl ?_
    refine q_aload_n F 0 dX12_begin_35 rfl rfl ?_
    refine s_g_many F ib12 wd909 dX12_begin_36 ?_
    refine q_icmp_ge F hx1 (hm _ _) 74 dX12_begin_39 (by decide) (fun hc => ?_) (fun hc => ?_)
    · have hw := hw.1 hc
      refine q_iconst F dX12_begin_74 ?_
      refine q_istore_n (lv' := [(0, .ref (E.1 1000)), (1, iV 0)]) F [1, 0] dX12_begin_75 rfl (q_n hN (by decide)) rfl ?_
      obtain ⟨n1, hw⟩ := hw
      exact bX12_begin_76 F hR hN hret n1 0 J (⟨by decide, by decide⟩ : inR (0)) hm hw
    · have hw := hw.2 hc
      refine q_aload_n F 0 dX12_begin_42 rfl rfl ?_
      refine q_aload_n F 0 dX12_begin_43 rfl rfl ?_
      refine s_g_newKind F ib12 wd910 dX12_begin_44 ?_
      refine q_aload_n F 0 dX12_begin_47 rfl rfl ?_
      refine s_g_newNumber F ib12 wd911 dX12_begin_48 ?_
      refine q_aload_n F 0 dX12_begin_51 rfl rfl ?_
      refine s_g_newOften F ib12 wd912 dX12_begin_52 ?_
      refine q_aload_n F 0 dX12_begin_55 rfl rfl ?_
      refine s_g_newSize F ib12 wd913 dX12_begin_56 ?_
      refine q_aload_n F 0 dX12_begin_59 rfl rfl ?_
      refine s_g_newCells F ib12 wd914 dX12_begin_60 ?_
      refine q_iload_n F 1 dX12_begin_63 rfl rfl ?_
      refine q_iload_n F 1 dX12_begin_64 rfl rfl ?_
      refine q_VvM F (kcX12_copyRule hm kM_newKind kM_newNumber kM_newOften kM_newSize kM_newCells hx1 hx1 hw) (by decide) meObj (ci := 10) rfl (bV wd997 wd998 wd1303 wd13 wd999) rfl ⟨rfl, rfl⟩ ydX12_copyRule (rmK_le hR (by omega) (by decide)) (av := [.ref (E.1 1037), .ref (E.1 1038), .ref (E.1 1039), .ref (E.1 1040), .ref (E.1 1041), iV x1, iV x1]) rfl rfl (Nat.le_of_ble_eq_true rfl) dX12_begin_65 (rmK_cs hR (by omega) (by omega)) (fun J3 m5 hw => ?_)
      obtain ⟨k8, hw⟩ := hw
      obtain ⟨z6, e7⟩ := ex1 (x1 + 1)
      have hw := hw z6 e7
      have hz6 : inR z6 := by rw [e7]; exact k8
      refine q_iinc (lv' := [(0, .ref (E.1 1000)), (1, iV z6)]) F 1 [1, 0] dX12_begin_68 rfl (q_n hN (by decide)) e7.symm rfl ?_
      refine q_goto F 34 dX12_begin_71 (by decide) ?_
      exact ih z6 J3 hz6 m5 hw
set_option maxHeartbeats 4000000 in
set_option maxRecDepth 100000 in
theorem kcX12_begin {l : Launch} {D : va_G} {E : cE} {J : cI} (hm : mM J)  {Q : cI → Prop} (hw : wX12_begin  J Q) : gM l D E mIds yX12_begin vX12_begin (rmK 3 (0) (0)) [.ref (E.1 1000)] (mef E J) (mef E) (oV Q) (0) (0) := by
  unfold wX12_begin at hw
  refine k_ofW (own := RX12) (cc := cX12_begin) (maxL := 2) (ret := none) (lv := [(0, .ref (E.1 1000))]) (by decide) rfl rfl (Nat.le_of_ble_eq_true rfl) rfl ?_
  intro X hl hR hN hD F K
  subst hl; subst hD
  have hret := mk_rVM (Q := Q) F K
  refine q_aload_n F 0 dX12_begin_0 rfl rfl ?_
  refine q_aload_n F 0 dX12_begin_1 rfl rfl ?_
  refine s_g_newW F ib12 wd906 dX12_begin_2 ?_
  obtain ⟨J1, e2⟩ := ex1 (up2 J 1000 11 ((J 1000 33)))
  have hw := hw J1 e2
  have m3 : mM J1 := mM_I hm e2 (hm _ _)
  refine s_p_w F ib12 wd884 e2 dX12_begin_5 ?_
  refine q_aload_n F 0 dX12_begin_8 rfl rfl ?_
  refine q_aload_n F 0 dX12_begin_9 rfl rfl ?_
  refine s_g_newH F ib12 wd907 dX12_begin_10 ?_
  obtain ⟨J4, e5⟩ := ex1 (up2 J1 1000 12 ((J1 1000 34)))
  have hw := hw J4 e5
  have m6 : mM J4 := mM_I m3 e5 (m3 _ _)
  refine s_p_h F ib12 wd885 e5 dX12_begin_13 ?_
  refine q_aload_n F 0 dX12_begin_16 rfl rfl ?_
  refine q_aload_n F 0 dX12_begin_17 rfl rfl ?_
  refine s_g_newK F ib12 wd908 dX12_begin_18 ?_
  obtain ⟨J7, e8⟩ := ex1 (up2 J4 1000 13 ((J4 1000 35)))
  have hw := hw J7 e8
  have m9 : mM J7 := mM_I m6 e8 (m6 _ _)
  refine s_p_k F ib12 wd886 e8 dX12_begin_21 ?_
  refine q_aload_n F 0 dX12_begin_24 rfl rfl ?_
  refine q_aload_n F 0 dX12_begin_25 rfl rfl ?_
  refine s_g_many F ib12 wd909 dX12_begin_26 ?_
  obtain ⟨J10, e11⟩ := ex1 (up2 J7 1000 14 ((J7 1000 36)))
  have hw := hw J10 e11
  have m12 : mM J10 := mM_I m9 e11 (m9 _ _)
  refine s_p_rules F ib12 wd887 e11 dX12_begin_29 ?_
  refine q_iconst F dX12_begin_32 ?_
  refine q_istore_n (lv' := [(0, .ref (E.1 1000)), (1, iV 0)]) F [1, 0] dX12_begin_33 rfl (q_n hN (by decide)) rfl ?_
  obtain ⟨n13, hw⟩ := hw
  exact bX12_begin_34 F hR hN hret n13 0 J10 (⟨by decide, by decide⟩ : inR (0)) m12 hw
theorem ydX12_compile : yX12_compile.cls = RX12 ∧ yX12_compile.cls ≠ "java/lang/invoke/MethodHandle" ∧ yX12_compile.cls ≠ "java/lang/invoke/VarHandle" ∧ (parseMethodDescriptor yX12_compile.desc).map (fun d => d.parameters.length) = some 0 := by decide +kernel
def vX12_compile : List Cond := Cond.code yX12_compile cX12_compile 1 (some .int) :: bG
set_option maxHeartbeats 4000000 in
set_option maxRecDepth 100000 in
theorem kcX12_compile {l : Launch} {D : va_G} {E : cE} {J : cI} (hm : mM J)  {Q : Int → cI → Prop} (hw : wX12_compile  J Q) : gM l D E mIds yX12_compile vX12_compile (rmK 9 (0) (0)) [.ref (E.1 1000)] (mef E J) (mef E) (oI Q) (0) (0) := by
  unfold wX12_compile at hw
  refine k_ofW (own := RX12) (cc := cX12_compile) (maxL := 1) (ret := (some .int)) (lv := [(0, .ref (E.1 1000))]) (by decide) rfl rfl (Nat.le_of_ble_eq_true rfl) rfl ?_
  intro X hl hR hN hD F K
  subst hl; subst hD
  have hret := mk_rIM (Q := Q) F K
  refine q_aload_n F 0 dX12_compile_0 rfl rfl ?_
  refine q_iconst F dX12_compile_1 ?_
  obtain ⟨J1, e2⟩ := ex1 (up2 J 1000 0 0)
  have hw := hw J1 e2
  have m3 : mM J1 := mM_I hm e2 (⟨by decide, by decide⟩ : inR (0))
  refine s_p_thrown F ib12 wd873 e2 dX12_compile_2 ?_
  refine q_aload_n F 0 dX12_compile_5 rfl rfl ?_
  refine q_iconst F dX12_compile_6 ?_
  obtain ⟨J4, e5⟩ := ex1 (up2 J1 1000 8 0)
  have hw := hw J4 e5
  have m6 : mM J4 := mM_I m3 e5 (⟨by decide, by decide⟩ : inR (0))
  refine s_p_error F ib12 wd881 e5 dX12_compile_7 ?_
  refine q_aload_n F 0 dX12_compile_10 rfl rfl ?_
  refine q_iconst F dX12_compile_11 ?_
  obtain ⟨J7, e8⟩ := ex1 (up2 J4 1000 3 (-1))
  have hw := hw J7 e8
  have m9 : mM J7 := mM_I m6 e8 (⟨by decide, by decide⟩ : inR (-1))
  refine s_p_errorAt F ib12 wd876 e8 dX12_compile_12 ?_
  refine q_aload_n F 0 dX12_compile_15 rfl rfl ?_
  refine q_VvM F (kcX12_scan m9 hw) (by decide) meObj (ci := 10) rfl (bV wd939 wd940 wd1286 wd13 wd941) rfl ⟨rfl, rfl⟩ ydX12_scan (rmK_le hR (by omega) (by decide)) (av := []) rfl rfl (Nat.le_of_ble_eq_true rfl) dX12_compile_16 (rmK_cs hR (by omega) (by omega)) (fun J11 m13 hw => ?_)
  refine q_aload_n F 0 dX12_compile_19 rfl rfl ?_
  refine q_ViM F (kcX12_form m13 hw) (by decide) meObj (ci := 10) rfl (bV wd951 wd952 wd1290 wd13 wd953) rfl ⟨rfl, rfl⟩ ydX12_form (rmK_le hR (by omega) (by decide)) (av := []) rfl rfl (Nat.le_of_ble_eq_true rfl) dX12_compile_20 (rmK_cs hR (by omega) (by omega)) (fun r14 J15 h16 m17 hw => ?_)
  refine q_if_ne F h16 39 dX12_compile_23 (by decide) (fun hc => ?_) (fun hc => ?_)
  · have hw := hw.1 hc
    refine q_aload_n F 0 dX12_compile_39 rfl rfl ?_
    refine q_ViM F (kcX12_meaning m17 hw) (by decide) meObj (ci := 10) rfl (bV wd976 wd977 wd1296 wd13 wd978) rfl ⟨rfl, rfl⟩ ydX12_meaning (rmK_le hR (by omega) (by decide)) (av := []) rfl rfl (Nat.le_of_ble_eq_true rfl) dX12_compile_40 (rmK_cs hR (by omega) (by omega)) (fun r18 J19 h20 m21 hw => ?_)
    refine q_if_eq F h20 50 dX12_compile_43 (by decide) (fun hc => ?_) (fun hc => ?_)
    · have hw := hw.1 hc
      refine q_aload_n F 0 dX12_compile_50 rfl rfl ?_
      refine q_iconst F dX12_compile_51 ?_
      obtain ⟨J22, e23⟩ := ex1 (up2 J19 1000 2 0)
      have hw := hw J22 e23
      have m24 : mM J22 := mM_I m21 e23 (⟨by decide, by decide⟩ : inR (0))
      refine s_p_length F ib12 wd875 e23 dX12_compile_52 ?_
      refine q_aload_n F 0 dX12_compile_55 rfl rfl ?_
      refine s_g_error F ib12 wd881 dX12_compile_56 ?_
      exact hret _ _ _ _ _ dX12_compile_59 (m24 _ _) m24 hw
    · have hw := hw.2 hc
      refine q_aload_n F 0 dX12_compile_46 rfl rfl ?_
      refine q_VvM F (kcX12_begin m21 hw) (by decide) meObj (ci := 10) rfl (bV wd994 wd995 wd1302 wd13 wd996) rfl ⟨rfl, rfl⟩ ydX12_begin (rmK_le hR (by omega) (by decide)) (av := []) rfl rfl (Nat.le_of_ble_eq_true rfl) dX12_compile_47 (rmK_cs hR (by omega) (by omega)) (fun J26 m28 hw => ?_)
      refine q_aload_n F 0 dX12_compile_50 rfl rfl ?_
      refine q_iconst F dX12_compile_51 ?_
      obtain ⟨J29, e30⟩ := ex1 (up2 J26 1000 2 0)
      have hw := hw J29 e30
      have m31 : mM J29 := mM_I m28 e30 (⟨by decide, by decide⟩ : inR (0))
      refine s_p_length F ib12 wd875 e30 dX12_compile_52 ?_
      refine q_aload_n F 0 dX12_compile_55 rfl rfl ?_
      refine s_g_error F ib12 wd881 dX12_compile_56 ?_
      exact hret _ _ _ _ _ dX12_compile_59 (m31 _ _) m31 hw
  · have hw := hw.2 hc
    refine q_aload_n F 0 dX12_compile_26 rfl rfl ?_
    refine q_iconst F dX12_compile_27 ?_
    refine q_aload_n F 0 dX12_compile_28 rfl rfl ?_
    refine s_g_at F ib12 wd880 dX12_compile_29 ?_
    refine q_ViM F (kcX12_wrong m17 (⟨by decide, by decide⟩ : inR (1)) (m17 _ _) hw) (by decide) meObj (ci := 10) rfl (bV wd973 wd974 wd1295 wd13 wd975) rfl ⟨rfl, rfl⟩ ydX12_wrong (rmK_le hR (by omega) (by decide)) (av := [iV 1, iV ((J15 1000 7))]) rfl rfl (Nat.le_of_ble_eq_true rfl) dX12_compile_32 (rmK_cs hR (by omega) (by omega)) (fun r32 J33 h34 m35 hw => ?_)
    refine q_pop F dX12_compile_35 rfl ?_
    refine q_goto F 50 dX12_compile_36 (by decide) ?_
    refine q_aload_n F 0 dX12_compile_50 rfl rfl ?_
    refine q_iconst F dX12_compile_51 ?_
    obtain ⟨J36, e37⟩ := ex1 (up2 J33 1000 2 0)
    have hw := hw J36 e37
    have m38 : mM J36 := mM_I m35 e37 (⟨by decide, by decide⟩ : inR (0))
    refine s_p_length F ib12 wd875 e37 dX12_compile_52 ?_
    refine q_aload_n F 0 dX12_compile_55 rfl rfl ?_
    refine s_g_error F ib12 wd881 dX12_compile_56 ?_
    exact hret _ _ _ _ _ dX12_compile_59 (m38 _ _) m38 hw
theorem ydX12_moveRule : yX12_moveRule.cls = RX12 ∧ yX12_moveRule.cls ≠ "java/lang/invoke/MethodHandle" ∧ yX12_moveRule.cls ≠ "java/lang/invoke/VarHandle" ∧ (parseMethodDescriptor yX12_moveRule.desc).map (fun d => d.parameters.length) = some 2 := by decide +kernel
def vX12_moveRule : List Cond := Cond.code yX12_moveRule cX12_moveRule 3 none :: bG
set_option maxHeartbeats 4000000 in
set_option maxRecDepth 100000 in
theorem kcX12_moveRule {l : Launch} {D : va_G} {E : cE} {a1 : Int} {a2 : Int} {J : cI} (hm : mM J) (ha1 : inR a1) (ha2 : inR a2) {Q : cI → Prop} (hw : wX12_moveRule a1 a2 J Q) : gM l D E mIds yX12_moveRule vX12_moveRule (rmK 2 (0) (0)) [.ref (E.1 1000), iV a1, iV a2] (mef E J) (mef E) (oV Q) (0) (0) := by
  unfold wX12_moveRule at hw
  refine k_ofW (own := RX12) (cc := cX12_moveRule) (maxL := 3) (ret := none) (lv := [(0, .ref (E.1 1000)), (1, iV a1), (2, iV a2)]) (by decide) rfl rfl (Nat.le_of_ble_eq_true rfl) rfl ?_
  intro X hl hR hN hD F K
  subst hl; subst hD
  have hret := mk_rVM (Q := Q) F K
  refine q_aload_n F 0 dX12_moveRule_0 rfl rfl ?_
  refine q_aload_n F 0 dX12_moveRule_1 rfl rfl ?_
  refine s_g_ruleKind F ib12 wd888 dX12_moveRule_2 ?_
  refine q_aload_n F 0 dX12_moveRule_5 rfl rfl ?_
  refine s_g_ruleNumber F ib12 wd889 dX12_moveRule_6 ?_
  refine q_aload_n F 0 dX12_moveRule_9 rfl rfl ?_
  refine s_g_ruleOften F ib12 wd890 dX12_moveRule_10 ?_
  refine q_aload_n F 0 dX12_moveRule_13 rfl rfl ?_
  refine s_g_ruleSize F ib12 wd891 dX12_moveRule_14 ?_
  refine q_aload_n F 0 dX12_moveRule_17 rfl rfl ?_
  refine s_g_ruleCells F ib12 wd892 dX12_moveRule_18 ?_
  refine q_iload_n F 1 dX12_moveRule_21 rfl rfl ?_
  refine q_iload_n F 2 dX12_moveRule_22 rfl rfl ?_
  refine q_VvM F (kcX12_copyRule hm kM_ruleKind kM_ruleNumber kM_ruleOften kM_ruleSize kM_ruleCells ha1 ha2 hw) (by decide) meObj (ci := 10) rfl (bV wd997 wd998 wd1303 wd13 wd999) rfl ⟨rfl, rfl⟩ ydX12_copyRule (rmK_le hR (by omega) (by decide)) (av := [.ref (E.1 1015), .ref (E.1 1016), .ref (E.1 1017), .ref (E.1 1018), .ref (E.1 1019), iV a1, iV a2]) rfl rfl (Nat.le_of_ble_eq_true rfl) dX12_moveRule_23 (rmK_cs hR (by omega) (by omega)) (fun J2 m4 hw => ?_)
  exact hret _ _ _ _ dX12_moveRule_26 m4 hw
theorem ydX12_errorAt : yX12_errorAt.cls = RX12 ∧ yX12_errorAt.cls ≠ "java/lang/invoke/MethodHandle" ∧ yX12_errorAt.cls ≠ "java/lang/invoke/VarHandle" ∧ (parseMethodDescriptor yX12_errorAt.desc).map (fun d => d.parameters.length) = some 0 := by decide +kernel
def vX12_errorAt : List Cond := Cond.code yX12_errorAt cX12_errorAt 1 (some .int) :: bG
set_option maxHeartbeats 4000000 in
set_option maxRecDepth 100000 in
theorem kcX12_errorAt {l : Launch} {D : va_G} {E : cE} {J : cI} (hm : mM J)  {Q : Int → cI → Prop} (hw : wX12_errorAt  J Q) : gM l D E mIds yX12_errorAt vX12_errorAt (rmK 1 (0) (0)) [.ref (E.1 1000)] (mef E J) (mef E) (oI Q) (0) (0) := by
  unfold wX12_errorAt at hw
  refine k_ofW (own := RX12) (cc := cX12_errorAt) (maxL := 1) (ret := (some .int)) (lv := [(0, .ref (E.1 1000))]) (by decide) rfl rfl (Nat.le_of_ble_eq_true rfl) rfl ?_
  intro X hl hR hN hD F K
  subst hl; subst hD
  have hret := mk_rIM (Q := Q) F K
  refine q_aload_n F 0 dX12_errorAt_0 rfl rfl ?_
  refine q_iconst F dX12_errorAt_1 ?_
  obtain ⟨J1, e2⟩ := ex1 (up2 J 1000 0 0)
  have hw := hw J1 e2
  have m3 : mM J1 := mM_I hm e2 (⟨by decide, by decide⟩ : inR (0))
  refine s_p_thrown F ib12 wd873 e2 dX12_errorAt_2 ?_
  refine q_aload_n F 0 dX12_errorAt_5 rfl rfl ?_
  refine s_g_errorAt F ib12 wd876 dX12_errorAt_6 ?_
  exact hret _ _ _ _ _ dX12_errorAt_9 (m3 _ _) m3 hw
theorem ydX12_cellOf : yX12_cellOf.cls = RX12 ∧ yX12_cellOf.cls ≠ "java/lang/invoke/MethodHandle" ∧ yX12_cellOf.cls ≠ "java/lang/invoke/VarHandle" ∧ (parseMethodDescriptor yX12_cellOf.desc).map (fun d => d.parameters.length) = some 2 := by decide +kernel
def vX12_cellOf : List Cond := Cond.code yX12_cellOf cX12_cellOf 3 (some .int) :: bG
set_option maxHeartbeats 4000000 in
set_option maxRecDepth 100000 in
theorem kcX12_cellOf {l : Launch} {D : va_G} {E : cE} {a1 : Int} {a2 : Int} {J : cI} (hm : mM J) (ha1 : inR a1) (ha2 : inR a2) {Q : Int → cI → Prop} (hw : wX12_cellOf a1 a2 J Q) : gM l D E mIds yX12_cellOf vX12_cellOf (rmK 1 (0) (0)) [.ref (E.1 1000), iV a1, iV a2] (mef E J) (mef E) (oI Q) (0) (0) := by
  unfold wX12_cellOf at hw
  refine k_ofW (own := RX12) (cc := cX12_cellOf) (maxL := 3) (ret := (some .int)) (lv := [(0, .ref (E.1 1000)), (1, iV a1), (2, iV a2)]) (by decide) rfl rfl (Nat.le_of_ble_eq_true rfl) rfl ?_
  intro X hl hR hN hD F K
  subst hl; subst hD
  have hret := mk_rIM (Q := Q) F K
  refine q_aload_n F 0 dX12_cellOf_0 rfl rfl ?_
  refine s_g_ruleCells F ib12 wd892 dX12_cellOf_1 ?_
  refine q_iconst F dX12_cellOf_4 ?_
  refine q_iload_n F 1 dX12_cellOf_5 rfl rfl ?_
  refine q_imul F dX12_cellOf_6 ?_
  refine q_iload_n F 2 dX12_cellOf_7 rfl rfl ?_
  refine q_iadd F dX12_cellOf_8 ?_
  obtain ⟨k1, hw⟩ := hw
  refine s_ald F 350 kM_ruleCells k1 (by decide) dX12_cellOf_9 ?_
  exact hret _ _ _ _ _ dX12_cellOf_10 (hm _ _) hm hw
theorem ydX12_seen : yX12_seen.cls = RX12 ∧ yX12_seen.cls ≠ "java/lang/invoke/MethodHandle" ∧ yX12_seen.cls ≠ "java/lang/invoke/VarHandle" ∧ (parseMethodDescriptor yX12_seen.desc).map (fun d => d.parameters.length) = some 2 := by decide +kernel
def vX12_seen : List Cond := Cond.code yX12_seen cX12_seen 7 (some .int) :: bG
set_option maxHeartbeats 4000000 in
set_option maxRecDepth 100000 in
theorem bX12_seen_43 {X : xC} {E : cE} (F : mF X E RX12 cX12_seen bG) (hR : X.1.2.2.2 = rmK 2 (0) (0)) (hN : X.2.2.1.2.2.2 = 7) {Q : Int → cI → Prop} (hret : rIM X E cX12_seen (0) (0) Q) {a1 : Int} {a2 : Nat} (ha1 : inR a1) (ha2 : isM 25 a2) {K8 : Int → Int → Int → cI → Prop} (hK8 : ∀ (x3 : Int) (x4 : Int) (x5 : Int) (J : cI), inR x3 → inR x4 → inR x5 → mM J → K8 x3 x4 x5 J → cW X (0) (0) 8 [(0, .ref (E.1 1000)), (1, iV a1), (2, .ref (E.1 a2)), (3, iV x3), (4, iV x4), (5, iV x5)] [] (gw E.1 mIds (mef E J) ++ [])) : ∀ (x3 : Int) (x5 : Int) (x6 : Int) (y0 : Int) (y1 : Int) (J : cI), inR x3 → inR x5 → inR x6 → inR y0 → inR y1 → mM J → wX12_seen_43 Q a1 a2 K8 x3 x5 x6 y0 y1 J → cW X (0) (0) 43 [(0, .ref (E.1 1000)), (1, iV a1), (2, .ref (E.1 a2)), (3, iV x3), (5, iV x5), (6, iV x6)] [iV y1, iV y0] (gw E.1 mIds (mef E J) ++ []) := by
  intro x3 x5 x6 y0 y1 J hx3 hx5 hx6 hy0 hy1 hm hw
  unfold wX12_seen_43 at hw
  refine q_iadd F dX12_seen_43 ?_
  obtain ⟨k1, hw⟩ := hw
  obtain ⟨z2, e3⟩ := ex1 ((y0 + y1))
  have hw := hw z2 e3
  have hz2 : inR z2 := by rw [e3]; exact k1
  refine q_top e3 ?_
  refine q_istore (lv' := [(0, .ref (E.1 1000)), (1, iV a1), (2, .ref (E.1 a2)), (3, iV x3), (4, iV z2), (5, iV x5), (6, iV x6)]) F [1, 2, 3, 4, 0, 5, 6] dX12_seen_44 (q_n hN (by decide)) rfl ?_
  refine q_iload_n F 3 dX12_seen_46 rfl rfl ?_
  refine q_iload F 6 dX12_seen_47 rfl ?_
  refine q_max F hR (by omega) hx3 hx6 wd1033 dX12_seen_49 (Nat.le_of_ble_eq_true rfl) ?_
  obtain ⟨z4, e5⟩ := ex1 ((imax x3 x6))
  have hw := hw z4 e5
  have hz4 : inR z4 := by rw [e5]; exact (imax_in hx3 hx6)
  refine q_top e5 ?_
  refine q_istore_n (lv' := [(0, .ref (E.1 1000)), (1, iV a1), (2, .ref (E.1 a2)), (3, iV z4), (4, iV z2), (5, iV x5), (6, iV x6)]) F [1, 2, 3, 0, 4, 5, 6] dX12_seen_52 rfl (q_n hN (by decide)) rfl ?_
  obtain ⟨k8, hw⟩ := hw
  obtain ⟨z6, e7⟩ := ex1 (x5 + 1)
  have hw := hw z6 e7
  have hz6 : inR z6 := by rw [e7]; exact k8
  refine q_iinc (lv' := [(0, .ref (E.1 1000)), (1, iV a1), (2, .ref (E.1 a2)), (3, iV z4), (4, iV z2), (5, iV z6), (6, iV x6)]) F 5 [1, 2, 3, 4, 5, 0, 6] dX12_seen_53 rfl (q_n hN (by decide)) e7.symm rfl ?_
  refine q_goto F 8 dX12_seen_56 (by decide) ?_
  refine q_lv [0, 1, 2, 3, 4, 5] rfl ?_
  exact hK8 z4 z2 z6 J hz4 hz2 hz6 hm hw
set_option maxHeartbeats 4000000 in
set_option maxRecDepth 100000 in
theorem bX12_seen_8 {X : xC} {E : cE} (F : mF X E RX12 cX12_seen bG) (hR : X.1.2.2.2 = rmK 2 (0) (0)) (hN : X.2.2.1.2.2.2 = 7) {Q : Int → cI → Prop} (hret : rIM X E cX12_seen (0) (0) Q) {a1 : Int} {a2 : Nat} (ha1 : inR a1) (ha2 : isM 25 a2) : ∀ n8 : Nat, ∀ (x3 : Int) (x4 : Int) (x5 : Int) (J : cI), inR x3 → inR x4 → inR x5 → mM J → wX12_seen_8 Q a1 a2 n8 x3 x4 x5 J → cW X (0) (0) 8 [(0, .ref (E.1 1000)), (1, iV a1), (2, .ref (E.1 a2)), (3, iV x3), (4, iV x4), (5, iV x5)] [] (gw E.1 mIds (mef E J) ++ []) := by
  intro n8
  induction n8 with
  | zero => intro x3 x4 x5 J hx3 hx4 hx5 hm hw; exact hw.elim
  | succ n8 ih =>
    intro x3 x4 x5 J hx3 hx4 hx5 hm hw
    change wbX12_seen_8 Q a1 a2 (wX12_seen_8 Q a1 a2 n8) x3 x4 x5 J at hw
    unfold wbX12_seen_8 at hw
    refine q_iload F 5 dX12_seen_8 rfl ?_
    refine q_aload_n F 0 dX12_seen_10 rfl rfl ?_
    refine s_g_ruleSize F ib12 wd891 dX12_seen_11 ?_
    refine q_iload_n F 1 dX12_seen_14 rfl rfl ?_
    obtain ⟨k1, hw⟩ := hw
    refine s_ald F 70 kM_ruleSize k1 (by decide) dX12_seen_15 ?_
    refine q_icmp_ge F hx5 (hm _ _) 59 dX12_seen_16 (by decide) (fun hc => ?_) (fun hc => ?_)
    · have hw := hw.1 hc
      refine q_iload F 4 dX12_seen_59 rfl ?_
      exact hret _ _ _ _ _ dX12_seen_61 hx4 hm hw
    · have hw := hw.2 hc
      refine q_aload_n F 2 dX12_seen_19 rfl rfl ?_
      refine q_aload_n F 0 dX12_seen_20 rfl rfl ?_
      refine q_iload_n F 1 dX12_seen_21 rfl rfl ?_
      refine q_iload F 5 dX12_seen_22 rfl ?_
      refine q_ViM F (kcX12_cellOf hm ha1 hx5 hw) (by decide) meObj (ci := 10) rfl (bV wd1030 wd1031 wd1311 wd13 wd1032) rfl ⟨rfl, rfl⟩ ydX12_cellOf (rmK_le hR (by omega) (by decide)) (av := [iV a1, iV x5]) rfl rfl (Nat.le_of_ble_eq_true rfl) dX12_seen_24 (rmK_cs hR (by omega) (by omega)) (fun r2 J3 h4 m5 hw => ?_)
      obtain ⟨k6, hw⟩ := hw
      refine s_ald F 25 ha2 k6 (by decide) dX12_seen_27 ?_
      obtain ⟨z7, e8⟩ := ex1 ((J3 a2 r2))
      have hw := hw z7 e8
      have hz7 : inR z7 := by rw [e8]; exact (m5 _ _)
      refine q_top e8 ?_
      refine q_istore (lv' := [(0, .ref (E.1 1000)), (1, iV a1), (2, .ref (E.1 a2)), (3, iV x3), (4, iV x4), (5, iV x5), (6, iV z7)]) F [1, 2, 3, 4, 5, 6, 0] dX12_seen_28 (q_n hN (by decide)) rfl ?_
      refine q_iload F 4 dX12_seen_30 rfl ?_
      refine q_iload F 6 dX12_seen_32 rfl ?_
      refine q_iload_n F 3 dX12_seen_34 rfl rfl ?_
      refine q_icmp_le F hz7 hx3 42 dX12_seen_35 (by decide) (fun hc => ?_) (fun hc => ?_)
      · have hw := hw.1 hc
        refine q_iconst F dX12_seen_42 ?_
        refine q_lv [0, 1, 2, 3, 5, 6] rfl ?_
        exact bX12_seen_43 F hR hN hret ha1 ha2 ih x3 x5 z7 x4 0 J3 hx3 hx5 hz7 hx4 (⟨by decide, by decide⟩ : inR (0)) m5 hw
      · have hw := hw.2 hc
        refine q_iconst F dX12_seen_38 ?_
        refine q_goto F 43 dX12_seen_39 (by decide) ?_
        refine q_lv [0, 1, 2, 3, 5, 6] rfl ?_
        exact bX12_seen_43 F hR hN hret ha1 ha2 ih x3 x5 z7 x4 1 J3 hx3 hx5 hz7 hx4 (⟨by decide, by decide⟩ : inR (1)) m5 hw
set_option maxHeartbeats 4000000 in
set_option maxRecDepth 100000 in
theorem kcX12_seen {l : Launch} {D : va_G} {E : cE} {a1 : Int} {a2 : Nat} {J : cI} (hm : mM J) (ha1 : inR a1) (ha2 : isM 25 a2) {Q : Int → cI → Prop} (hw : wX12_seen a1 a2 J Q) : gM l D E mIds yX12_seen vX12_seen (rmK 2 (0) (0)) [.ref (E.1 1000), iV a1, .ref (E.1 a2)] (mef E J) (mef E) (oI Q) (0) (0) := by
  unfold wX12_seen at hw
  refine k_ofW (own := RX12) (cc := cX12_seen) (maxL := 7) (ret := (some .int)) (lv := [(0, .ref (E.1 1000)), (1, iV a1), (2, .ref (E.1 a2))]) (by decide) rfl rfl (Nat.le_of_ble_eq_true rfl) rfl ?_
  intro X hl hR hN hD F K
  subst hl; subst hD
  have hret := mk_rIM (Q := Q) F K
  refine q_iconst F dX12_seen_0 ?_
  refine q_istore_n (lv' := [(0, .ref (E.1 1000)), (1, iV a1), (2, .ref (E.1 a2)), (3, iV 0)]) F [1, 2, 3, 0] dX12_seen_1 rfl (q_n hN (by decide)) rfl ?_
  refine q_iconst F dX12_seen_2 ?_
  refine q_istore (lv' := [(0, .ref (E.1 1000)), (1, iV a1), (2, .ref (E.1 a2)), (3, iV 0), (4, iV 0)]) F [1, 2, 3, 4, 0] dX12_seen_3 (q_n hN (by decide)) rfl ?_
  refine q_iconst F dX12_seen_5 ?_
  refine q_istore (lv' := [(0, .ref (E.1 1000)), (1, iV a1), (2, .ref (E.1 a2)), (3, iV 0), (4, iV 0), (5, iV 0)]) F [1, 2, 3, 4, 5, 0] dX12_seen_6 (q_n hN (by decide)) rfl ?_
  obtain ⟨n1, hw⟩ := hw
  exact bX12_seen_8 F hR hN hret ha1 ha2 n1 0 0 0 J (⟨by decide, by decide⟩ : inR (0)) (⟨by decide, by decide⟩ : inR (0)) (⟨by decide, by decide⟩ : inR (0)) hm hw
theorem ydX12_isPairBroken : yX12_isPairBroken.cls = RX12 ∧ yX12_isPairBroken.cls ≠ "java/lang/invoke/MethodHandle" ∧ yX12_isPairBroken.cls ≠ "java/lang/invoke/VarHandle" ∧ (parseMethodDescriptor yX12_isPairBroken.desc).map (fun d => d.parameters.length) = some 2 := by decide +kernel
def vX12_isPairBroken : List Cond := Cond.code yX12_isPairBroken cX12_isPairBroken 9 (some .boolean) :: bG
set_option maxHeartbeats 4000000 in
set_option maxRecDepth 100000 in
theorem bX12_isPairBroken_22 {X : xC} {E : cE} (F : mF X E RX12 cX12_isPairBroken bG) (hR : X.1.2.2.2 = rmK 2 (0) (0)) (hN : X.2.2.1.2.2.2 = 9) {Q : Int → cI → Prop} (hret : rZM X E cX12_isPairBroken (0) (0) Q) {a1 : Int} {a2 : Nat} (ha1 : inR a1) (ha2 : isM 25 a2) {K5 : Int → Int → cI → Prop} (hK5 : ∀ (x3 : Int) (x4 : Int) (J : cI), inR x3 → inR x4 → mM J → K5 x3 x4 J → cW X (0) (0) 5 [(0, .ref (E.1 1000)), (1, iV a1), (2, .ref (E.1 a2)), (3, iV x3), (4, iV x4)] [] (gw E.1 mIds (mef E J) ++ [])) : ∀ n22 : Nat, ∀ (x3 : Int) (x4 : Int) (x5 : Int) (J : cI), inR x3 → inR x4 → inR x5 → mM J → wX12_isPairBroken_22 Q a1 a2 K5 n22 x3 x4 x5 J → cW X (0) (0) 22 [(0, .ref (E.1 1000)), (1, iV a1), (2, .ref (E.1 a2)), (3, iV x3), (4, iV x4), (5, iV x5)] [] (gw E.1 mIds (mef E J) ++ []) := by
  intro n22
  induction n22 with
  | zero => intro x3 x4 x5 J hx3 hx4 hx5 hm hw; exact hw.elim
  | succ n22 ih =>
    intro x3 x4 x5 J hx3 hx4 hx5 hm hw
    change wbX12_isPairBroken_22 Q a1 a2 K5 (wX12_isPairBroken_22 Q a1 a2 K5 n22) x3 x4 x5 J at hw
    unfold wbX12_isPairBroken_22 at hw
    refine q_iload F 5 dX12_isPairBroken_22 rfl ?_
    refine q_aload_n F 0 dX12_isPairBroken_24 rfl rfl ?_
    refine s_g_ruleSize F ib12 wd891 dX12_isPairBroken_25 ?_
    refine q_iload_n F 1 dX12_isPairBroken_28 rfl rfl ?_
    obtain ⟨k1, hw⟩ := hw
    refine s_ald F 70 kM_ruleSize k1 (by decide) dX12_isPairBroken_29 ?_
    refine q_icmp_ge F hx5 (hm _ _) 228 dX12_isPairBroken_30 (by decide) (fun hc => ?_) (fun hc => ?_)
    · have hw := hw.1 hc
      obtain ⟨k4, hw⟩ := hw
      obtain ⟨z2, e3⟩ := ex1 (x4 + 1)
      have hw := hw z2 e3
      have hz2 : inR z2 := by rw [e3]; exact k4
      refine q_iinc (lv' := [(0, .ref (E.1 1000)), (1, iV a1), (2, .ref (E.1 a2)), (3, iV x3), (4, iV z2), (5, iV x5)]) F 4 [1, 2, 3, 4, 0, 5] dX12_isPairBroken_228 rfl (q_n hN (by decide)) e3.symm rfl ?_
      refine q_goto F 5 dX12_isPairBroken_231 (by decide) ?_
      refine q_lv [0, 1, 2, 3, 4] rfl ?_
      exact hK5 x3 z2 J hx3 hz2 hm hw
    · have hw := hw.2 hc
      refine q_aload_n F 2 dX12_isPairBroken_33 rfl rfl ?_
      refine q_aload_n F 0 dX12_isPairBroken_34 rfl rfl ?_
      refine q_iload_n F 1 dX12_isPairBroken_35 rfl rfl ?_
      refine q_iload F 4 dX12_isPairBroken_36 rfl ?_
      refine q_ViM F (kcX12_cellOf hm ha1 hx4 hw) (by decide) meObj (ci := 10) rfl (bV wd1030 wd1031 wd1311 wd13 wd1032) rfl ⟨rfl, rfl⟩ ydX12_cellOf (rmK_le hR (by omega) (by decide)) (av := [iV a1, iV x4]) rfl rfl (Nat.le_of_ble_eq_true rfl) dX12_isPairBroken_38 (rmK_cs hR (by omega) (by omega)) (fun r5 J6 h7 m8 hw => ?_)
      obtain ⟨k9, hw⟩ := hw
      refine s_ald F 25 ha2 k9 (by decide) dX12_isPairBroken_41 ?_
      obtain ⟨z10, e11⟩ := ex1 ((J6 a2 r5))
      have hw := hw z10 e11
      have hz10 : inR z10 := by rw [e11]; exact (m8 _ _)
      refine q_top e11 ?_
      refine q_istore (lv' := [(0, .ref (E.1 1000)), (1, iV a1), (2, .ref (E.1 a2)), (3, iV x3), (4, iV x4), (5, iV x5), (6, iV z10)]) F [1, 2, 3, 4, 5, 6, 0] dX12_isPairBroken_42 (q_n hN (by decide)) rfl ?_
      refine q_aload_n F 2 dX12_isPairBroken_44 rfl rfl ?_
      refine q_aload_n F 0 dX12_isPairBroken_45 rfl rfl ?_
      refine q_iload_n F 1 dX12_isPairBroken_46 rfl rfl ?_
      refine q_iload F 5 dX12_isPairBroken_47 rfl ?_
      refine q_ViM F (kcX12_cellOf m8 ha1 hx5 hw) (by decide) meObj (ci := 10) rfl (bV wd1030 wd1031 wd1311 wd13 wd1032) rfl ⟨rfl, rfl⟩ ydX12_cellOf (rmK_le hR (by omega) (by decide)) (av := [iV a1, iV x5]) rfl rfl (Nat.le_of_ble_eq_true rfl) dX12_isPairBroken_49 (rmK_cs hR (by omega) (by omega)) (fun r12 J13 h14 m15 hw => ?_)
      obtain ⟨k16, hw⟩ := hw
      refine s_ald F 25 ha2 k16 (by decide) dX12_isPairBroken_52 ?_
      obtain ⟨z17, e18⟩ := ex1 ((J13 a2 r12))
      have hw := hw z17 e18
      have hz17 : inR z17 := by rw [e18]; exact (m15 _ _)
      refine q_top e18 ?_
      refine q_istore (lv' := [(0, .ref (E.1 1000)), (1, iV a1), (2, .ref (E.1 a2)), (3, iV x3), (4, iV x4), (5, iV x5), (6, iV z10), (7, iV z17)]) F [1, 2, 3, 4, 5, 6, 7, 0] dX12_isPairBroken_53 (q_n hN (by decide)) rfl ?_
      refine q_iload F 6 dX12_isPairBroken_55 rfl ?_
      refine q_if_eq F hz10 222 dX12_isPairBroken_57 (by decide) (fun hc => ?_) (fun hc => ?_)
      · have hw := hw.1 hc
        obtain ⟨k21, hw⟩ := hw
        obtain ⟨z19, e20⟩ := ex1 (x5 + 1)
        have hw := hw z19 e20
        have hz19 : inR z19 := by rw [e20]; exact k21
        refine q_iinc (lv' := [(0, .ref (E.1 1000)), (1, iV a1), (2, .ref (E.1 a2)), (3, iV x3), (4, iV x4), (5, iV z19), (6, iV z10), (7, iV z17)]) F 5 [1, 2, 3, 4, 5, 0, 6, 7] dX12_isPairBroken_222 rfl (q_n hN (by decide)) e20.symm rfl ?_
        refine q_goto F 22 dX12_isPairBroken_225 (by decide) ?_
        refine q_lv [0, 1, 2, 3, 4, 5] rfl ?_
        exact ih x3 x4 z19 J13 hx3 hx4 hz19 m15 hw
      · have hw := hw.2 hc
        refine q_iload F 7 dX12_isPairBroken_60 rfl ?_
        refine q_if_ne F hz17 68 dX12_isPairBroken_62 (by decide) (fun hc => ?_) (fun hc => ?_)
        · have hw := hw.1 hc
          refine q_aload_n F 0 dX12_isPairBroken_68 rfl rfl ?_
          refine s_g_ruleKind F ib12 wd888 dX12_isPairBroken_69 ?_
          refine q_iload_n F 1 dX12_isPairBroken_72 rfl rfl ?_
          obtain ⟨k22, hw⟩ := hw
          refine s_ald F 70 kM_ruleKind k22 (by decide) dX12_isPairBroken_73 ?_
          obtain ⟨z23, e24⟩ := ex1 ((J13 1015 a1))
          have hw := hw z23 e24
          have hz23 : inR z23 := by rw [e24]; exact (m15 _ _)
          refine q_top e24 ?_
          refine q_istore (lv' := [(0, .ref (E.1 1000)), (1, iV a1), (2, .ref (E.1 a2)), (3, iV x3), (4, iV x4), (5, iV x5), (6, iV z10), (7, iV z17), (8, iV z23)]) F [1, 2, 3, 4, 5, 6, 7, 8, 0] dX12_isPairBroken_74 (q_n hN (by decide)) rfl ?_
          refine q_iload F 8 dX12_isPairBroken_76 rfl ?_
          refine q_if_ne F hz23 101 dX12_isPairBroken_78 (by decide) (fun hc => ?_) (fun hc => ?_)
          · have hw := hw.1 hc
            refine q_iload F 8 dX12_isPairBroken_101 rfl ?_
            refine q_bipush F dX12_isPairBroken_103 (by decide) ?_
            refine q_icmp_ne F hz23 (⟨by decide, by decide⟩ : inR (11)) 128 dX12_isPairBroken_105 (by decide) (fun hc => ?_) (fun hc => ?_)
            · have hw := hw.1 hc
              refine q_iload F 8 dX12_isPairBroken_128 rfl ?_
              refine q_iconst F dX12_isPairBroken_130 ?_
              refine q_icmp_ne F hz23 (⟨by decide, by decide⟩ : inR (3)) 154 dX12_isPairBroken_131 (by decide) (fun hc => ?_) (fun hc => ?_)
              · have hw := hw.1 hc
                refine q_iload F 8 dX12_isPairBroken_154 rfl ?_
                refine q_iconst F dX12_isPairBroken_156 ?_
                refine q_icmp_ne F hz23 (⟨by decide, by decide⟩ : inR (4)) 186 dX12_isPairBroken_157 (by decide) (fun hc => ?_) (fun hc => ?_)
                · have hw := hw.1 hc
                  refine q_iload_n F 3 dX12_isPairBroken_186 rfl rfl ?_
                  refine q_if_ne F hx3 216 dX12_isPairBroken_187 (by decide) (fun hc => ?_) (fun hc => ?_)
                  · have hw := hw.1 hc
                    refine q_iconst F dX12_isPairBroken_216 ?_
                    refine q_goto F 221 dX12_isPairBroken_217 (by decide) ?_
                    refine q_istore_n (lv' := [(0, .ref (E.1 1000)), (1, iV a1), (2, .ref (E.1 a2)), (3, iV 1), (4, iV x4), (5, iV x5), (6, iV z10), (7, iV z17), (8, iV z23)]) F [1, 2, 3, 0, 4, 5, 6, 7, 8] dX12_isPairBroken_221 rfl (q_n hN (by decide)) rfl ?_
                    obtain ⟨k27, hw⟩ := hw
                    obtain ⟨z25, e26⟩ := ex1 (x5 + 1)
                    have hw := hw z25 e26
                    have hz25 : inR z25 := by rw [e26]; exact k27
                    refine q_iinc (lv' := [(0, .ref (E.1 1000)), (1, iV a1), (2, .ref (E.1 a2)), (3, iV 1), (4, iV x4), (5, iV z25), (6, iV z10), (7, iV z17), (8, iV z23)]) F 5 [1, 2, 3, 4, 5, 0, 6, 7, 8] dX12_isPairBroken_222 rfl (q_n hN (by decide)) e26.symm rfl ?_
                    refine q_goto F 22 dX12_isPairBroken_225 (by decide) ?_
                    refine q_lv [0, 1, 2, 3, 4, 5] rfl ?_
                    exact ih 1 x4 z25 J13 (⟨by decide, by decide⟩ : inR (1)) hx4 hz25 m15 hw
                  · have hw := hw.2 hc
                    refine q_iload F 5 dX12_isPairBroken_190 rfl ?_
                    refine q_iload F 4 dX12_isPairBroken_192 rfl ?_
                    refine q_iconst F dX12_isPairBroken_194 ?_
                    refine q_iadd F dX12_isPairBroken_195 ?_
                    obtain ⟨k28, hw⟩ := hw
                    refine q_icmp_ne F hx5 k28 220 dX12_isPairBroken_196 (by decide) (fun hc => ?_) (fun hc => ?_)
                    · have hw := hw.1 hc
                      refine q_iconst F dX12_isPairBroken_220 ?_
                      refine q_istore_n (lv' := [(0, .ref (E.1 1000)), (1, iV a1), (2, .ref (E.1 a2)), (3, iV 0), (4, iV x4), (5, iV x5), (6, iV z10), (7, iV z17), (8, iV z23)]) F [1, 2, 3, 0, 4, 5, 6, 7, 8] dX12_isPairBroken_221 rfl (q_n hN (by decide)) rfl ?_
                      obtain ⟨k31, hw⟩ := hw
                      obtain ⟨z29, e30⟩ := ex1 (x5 + 1)
                      have hw := hw z29 e30
                      have hz29 : inR z29 := by rw [e30]; exact k31
                      refine q_iinc (lv' := [(0, .ref (E.1 1000)), (1, iV a1), (2, .ref (E.1 a2)), (3, iV 0), (4, iV x4), (5, iV z29), (6, iV z10), (7, iV z17), (8, iV z23)]) F 5 [1, 2, 3, 4, 5, 0, 6, 7, 8] dX12_isPairBroken_222 rfl (q_n hN (by decide)) e30.symm rfl ?_
                      refine q_goto F 22 dX12_isPairBroken_225 (by decide) ?_
                      refine q_lv [0, 1, 2, 3, 4, 5] rfl ?_
                      exact ih 0 x4 z29 J13 (⟨by decide, by decide⟩ : inR (0)) hx4 hz29 m15 hw
                    · have hw := hw.2 hc
                      refine q_iload F 6 dX12_isPairBroken_199 rfl ?_
                      refine q_iload F 7 dX12_isPairBroken_201 rfl ?_
                      refine q_isub F dX12_isPairBroken_203 ?_
                      obtain ⟨k32, hw⟩ := hw
                      refine q_abs F hR (by omega) k32 wd1040 dX12_isPairBroken_204 (Nat.le_of_ble_eq_true rfl) ?_
                      refine q_aload_n F 0 dX12_isPairBroken_207 rfl rfl ?_
                      refine s_g_ruleNumber F ib12 wd889 dX12_isPairBroken_208 ?_
                      refine q_iload_n F 1 dX12_isPairBroken_211 rfl rfl ?_
                      obtain ⟨k33, hw⟩ := hw
                      refine s_ald F 70 kM_ruleNumber k33 (by decide) dX12_isPairBroken_212 ?_
                      obtain ⟨k34, hw⟩ := hw
                      refine q_icmp_ge F k34 (m15 _ _) 220 dX12_isPairBroken_213 (by decide) (fun hc => ?_) (fun hc => ?_)
                      · have hw := hw.1 hc
                        refine q_iconst F dX12_isPairBroken_220 ?_
                        refine q_istore_n (lv' := [(0, .ref (E.1 1000)), (1, iV a1), (2, .ref (E.1 a2)), (3, iV 0), (4, iV x4), (5, iV x5), (6, iV z10), (7, iV z17), (8, iV z23)]) F [1, 2, 3, 0, 4, 5, 6, 7, 8] dX12_isPairBroken_221 rfl (q_n hN (by decide)) rfl ?_
                        obtain ⟨k37, hw⟩ := hw
                        obtain ⟨z35, e36⟩ := ex1 (x5 + 1)
                        have hw := hw z35 e36
                        have hz35 : inR z35 := by rw [e36]; exact k37
                        refine q_iinc (lv' := [(0, .ref (E.1 1000)), (1, iV a1), (2, .ref (E.1 a2)), (3, iV 0), (4, iV x4), (5, iV z35), (6, iV z10), (7, iV z17), (8, iV z23)]) F 5 [1, 2, 3, 4, 5, 0, 6, 7, 8] dX12_isPairBroken_222 rfl (q_n hN (by decide)) e36.symm rfl ?_
                        refine q_goto F 22 dX12_isPairBroken_225 (by decide) ?_
                        refine q_lv [0, 1, 2, 3, 4, 5] rfl ?_
                        exact ih 0 x4 z35 J13 (⟨by decide, by decide⟩ : inR (0)) hx4 hz35 m15 hw
                      · have hw := hw.2 hc
                        refine q_iconst F dX12_isPairBroken_216 ?_
                        refine q_goto F 221 dX12_isPairBroken_217 (by decide) ?_
                        refine q_istore_n (lv' := [(0, .ref (E.1 1000)), (1, iV a1), (2, .ref (E.1 a2)), (3, iV 1), (4, iV x4), (5, iV x5), (6, iV z10), (7, iV z17), (8, iV z23)]) F [1, 2, 3, 0, 4, 5, 6, 7, 8] dX12_isPairBroken_221 rfl (q_n hN (by decide)) rfl ?_
                        obtain ⟨k40, hw⟩ := hw
                        obtain ⟨z38, e39⟩ := ex1 (x5 + 1)
                        have hw := hw z38 e39
                        have hz38 : inR z38 := by rw [e39]; exact k40
                        refine q_iinc (lv' := [(0, .ref (E.1 1000)), (1, iV a1), (2, .ref (E.1 a2)), (3, iV 1), (4, iV x4), (5, iV z38), (6, iV z10), (7, iV z17), (8, iV z23)]) F 5 [1, 2, 3, 4, 5, 0, 6, 7, 8] dX12_isPairBroken_222 rfl (q_n hN (by decide)) e39.symm rfl ?_
                        refine q_goto F 22 dX12_isPairBroken_225 (by decide) ?_
                        refine q_lv [0, 1, 2, 3, 4, 5] rfl ?_
                        exact ih 1 x4 z38 J13 (⟨by decide, by decide⟩ : inR (1)) hx4 hz38 m15 hw
                · have hw := hw.2 hc
                  refine q_iload_n F 3 dX12_isPairBroken_160 rfl rfl ?_
                  refine q_if_ne F hx3 177 dX12_isPairBroken_161 (by decide) (fun hc => ?_) (fun hc => ?_)
                  · have hw := hw.1 hc
                    refine q_iconst F dX12_isPairBroken_177 ?_
                    refine q_goto F 182 dX12_isPairBroken_178 (by decide) ?_
                    refine q_istore_n (lv' := [(0, .ref (E.1 1000)), (1, iV a1), (2, .ref (E.1 a2)), (3, iV 1), (4, iV x4), (5, iV x5), (6, iV z10), (7, iV z17), (8, iV z23)]) F [1, 2, 3, 0, 4, 5, 6, 7, 8] dX12_isPairBroken_182 rfl (q_n hN (by decide)) rfl ?_
                    refine q_goto F 222 dX12_isPairBroken_183 (by decide) ?_
                    obtain ⟨k43, hw⟩ := hw
                    obtain ⟨z41, e42⟩ := ex1 (x5 + 1)
                    have hw := hw z41 e42
                    have hz41 : inR z41 := by rw [e42]; exact k43
                    refine q_iinc (lv' := [(0, .ref (E.1 1000)), (1, iV a1), (2, .ref (E.1 a2)), (3, iV 1), (4, iV x4), (5, iV z41), (6, iV z10), (7, iV z17), (8, iV z23)]) F 5 [1, 2, 3, 4, 5, 0, 6, 7, 8] dX12_isPairBroken_222 rfl (q_n hN (by decide)) e42.symm rfl ?_
                    refine q_goto F 22 dX12_isPairBroken_225 (by decide) ?_
                    refine q_lv [0, 1, 2, 3, 4, 5] rfl ?_
                    exact ih 1 x4 z41 J13 (⟨by decide, by decide⟩ : inR (1)) hx4 hz41 m15 hw
                  · have hw := hw.2 hc
                    refine q_iload F 7 dX12_isPairBroken_164 rfl ?_
                    refine q_iload F 6 dX12_isPairBroken_166 rfl ?_
                    refine q_isub F dX12_isPairBroken_168 ?_
                    refine q_iload F 5 dX12_isPairBroken_169 rfl ?_
                    refine q_iload F 4 dX12_isPairBroken_171 rfl ?_
                    refine q_isub F dX12_isPairBroken_173 ?_
                    obtain ⟨k44, hw⟩ := hw
                    obtain ⟨k45, hw⟩ := hw
                    refine q_icmp_ge F k44 k45 181 dX12_isPairBroken_174 (by decide) (fun hc => ?_) (fun hc => ?_)
                    · have hw := hw.1 hc
                      refine q_iconst F dX12_isPairBroken_181 ?_
                      refine q_istore_n (lv' := [(0, .ref (E.1 1000)), (1, iV a1), (2, .ref (E.1 a2)), (3, iV 0), (4, iV x4), (5, iV x5), (6, iV z10), (7, iV z17), (8, iV z23)]) F [1, 2, 3, 0, 4, 5, 6, 7, 8] dX12_isPairBroken_182 rfl (q_n hN (by decide)) rfl ?_
                      refine q_goto F 222 dX12_isPairBroken_183 (by decide) ?_
                      obtain ⟨k48, hw⟩ := hw
                      obtain ⟨z46, e47⟩ := ex1 (x5 + 1)
                      have hw := hw z46 e47
                      have hz46 : inR z46 := by rw [e47]; exact k48
                      refine q_iinc (lv' := [(0, .ref (E.1 1000)), (1, iV a1), (2, .ref (E.1 a2)), (3, iV 0), (4, iV x4), (5, iV z46), (6, iV z10), (7, iV z17), (8, iV z23)]) F 5 [1, 2, 3, 4, 5, 0, 6, 7, 8] dX12_isPairBroken_222 rfl (q_n hN (by decide)) e47.symm rfl ?_
                      refine q_goto F 22 dX12_isPairBroken_225 (by decide) ?_
                      refine q_lv [0, 1, 2, 3, 4, 5] rfl ?_
                      exact ih 0 x4 z46 J13 (⟨by decide, by decide⟩ : inR (0)) hx4 hz46 m15 hw
                    · have hw := hw.2 hc
                      refine q_iconst F dX12_isPairBroken_177 ?_
                      refine q_goto F 182 dX12_isPairBroken_178 (by decide) ?_
                      refine q_istore_n (lv' := [(0, .ref (E.1 1000)), (1, iV a1), (2, .ref (E.1 a2)), (3, iV 1), (4, iV x4), (5, iV x5), (6, iV z10), (7, iV z17), (8, iV z23)]) F [1, 2, 3, 0, 4, 5, 6, 7, 8] dX12_isPairBroken_182 rfl (q_n hN (by decide)) rfl ?_
                      refine q_goto F 222 dX12_isPairBroken_183 (by decide) ?_
                      obtain ⟨k51, hw⟩ := hw
                      obtain ⟨z49, e50⟩ := ex1 (x5 + 1)
                      have hw := hw z49 e50
                      have hz49 : inR z49 := by rw [e50]; exact k51
                      refine q_iinc (lv' := [(0, .ref (E.1 1000)), (1, iV a1), (2, .ref (E.1 a2)), (3, iV 1), (4, iV x4), (5, iV z49), (6, iV z10), (7, iV z17), (8, iV z23)]) F 5 [1, 2, 3, 4, 5, 0, 6, 7, 8] dX12_isPairBroken_222 rfl (q_n hN (by decide)) e50.symm rfl ?_
                      refine q_goto F 22 dX12_isPairBroken_225 (by decide) ?_
                      refine q_lv [0, 1, 2, 3, 4, 5] rfl ?_
                      exact ih 1 x4 z49 J13 (⟨by decide, by decide⟩ : inR (1)) hx4 hz49 m15 hw
              · have hw := hw.2 hc
                refine q_iload_n F 3 dX12_isPairBroken_134 rfl rfl ?_
                refine q_if_ne F hx3 145 dX12_isPairBroken_135 (by decide) (fun hc => ?_) (fun hc => ?_)
                · have hw := hw.1 hc
                  refine q_iconst F dX12_isPairBroken_145 ?_
                  refine q_goto F 150 dX12_isPairBroken_146 (by decide) ?_
                  refine q_istore_n (lv' := [(0, .ref (E.1 1000)), (1, iV a1), (2, .ref (E.1 a2)), (3, iV 1), (4, iV x4), (5, iV x5), (6, iV z10), (7, iV z17), (8, iV z23)]) F [1, 2, 3, 0, 4, 5, 6, 7, 8] dX12_isPairBroken_150 rfl (q_n hN (by decide)) rfl ?_
                  refine q_goto F 222 dX12_isPairBroken_151 (by decide) ?_
                  obtain ⟨k54, hw⟩ := hw
                  obtain ⟨z52, e53⟩ := ex1 (x5 + 1)
                  have hw := hw z52 e53
                  have hz52 : inR z52 := by rw [e53]; exact k54
                  refine q_iinc (lv' := [(0, .ref (E.1 1000)), (1, iV a1), (2, .ref (E.1 a2)), (3, iV 1), (4, iV x4), (5, iV z52), (6, iV z10), (7, iV z17), (8, iV z23)]) F 5 [1, 2, 3, 4, 5, 0, 6, 7, 8] dX12_isPairBroken_222 rfl (q_n hN (by decide)) e53.symm rfl ?_
                  refine q_goto F 22 dX12_isPairBroken_225 (by decide) ?_
                  refine q_lv [0, 1, 2, 3, 4, 5] rfl ?_
                  exact ih 1 x4 z52 J13 (⟨by decide, by decide⟩ : inR (1)) hx4 hz52 m15 hw
                · have hw := hw.2 hc
                  refine q_iload F 6 dX12_isPairBroken_138 rfl ?_
                  refine q_iload F 7 dX12_isPairBroken_140 rfl ?_
                  refine q_icmp_lt F hz10 hz17 149 dX12_isPairBroken_142 (by decide) (fun hc => ?_) (fun hc => ?_)
                  · have hw := hw.1 hc
                    refine q_iconst F dX12_isPairBroken_149 ?_
                    refine q_istore_n (lv' := [(0, .ref (E.1 1000)), (1, iV a1), (2, .ref (E.1 a2)), (3, iV 0), (4, iV x4), (5, iV x5), (6, iV z10), (7, iV z17), (8, iV z23)]) F [1, 2, 3, 0, 4, 5, 6, 7, 8] dX12_isPairBroken_150 rfl (q_n hN (by decide)) rfl ?_
                    refine q_goto F 222 dX12_isPairBroken_151 (by decide) ?_
                    obtain ⟨k57, hw⟩ := hw
                    obtain ⟨z55, e56⟩ := ex1 (x5 + 1)
                    have hw := hw z55 e56
                    have hz55 : inR z55 := by rw [e56]; exact k57
                    refine q_iinc (lv' := [(0, .ref (E.1 1000)), (1, iV a1), (2, .ref (E.1 a2)), (3, iV 0), (4, iV x4), (5, iV z55), (6, iV z10), (7, iV z17), (8, iV z23)]) F 5 [1, 2, 3, 4, 5, 0, 6, 7, 8] dX12_isPairBroken_222 rfl (q_n hN (by decide)) e56.symm rfl ?_
                    refine q_goto F 22 dX12_isPairBroken_225 (by decide) ?_
                    refine q_lv [0, 1, 2, 3, 4, 5] rfl ?_
                    exact ih 0 x4 z55 J13 (⟨by decide, by decide⟩ : inR (0)) hx4 hz55 m15 hw
                  · have hw := hw.2 hc
                    refine q_iconst F dX12_isPairBroken_145 ?_
                    refine q_goto F 150 dX12_isPairBroken_146 (by decide) ?_
                    refine q_istore_n (lv' := [(0, .ref (E.1 1000)), (1, iV a1), (2, .ref (E.1 a2)), (3, iV 1), (4, iV x4), (5, iV x5), (6, iV z10), (7, iV z17), (8, iV z23)]) F [1, 2, 3, 0, 4, 5, 6, 7, 8] dX12_isPairBroken_150 rfl (q_n hN (by decide)) rfl ?_
                    refine q_goto F 222 dX12_isPairBroken_151 (by decide) ?_
                    obtain ⟨k60, hw⟩ := hw
                    obtain ⟨z58, e59⟩ := ex1 (x5 + 1)
                    have hw := hw z58 e59
                    have hz58 : inR z58 := by rw [e59]; exact k60
                    refine q_iinc (lv' := [(0, .ref (E.1 1000)), (1, iV a1), (2, .ref (E.1 a2)), (3, iV 1), (4, iV x4), (5, iV z58), (6, iV z10), (7, iV z17), (8, iV z23)]) F 5 [1, 2, 3, 4, 5, 0, 6, 7, 8] dX12_isPairBroken_222 rfl (q_n hN (by decide)) e59.symm rfl ?_
                    refine q_goto F 22 dX12_isPairBroken_225 (by decide) ?_
                    refine q_lv [0, 1, 2, 3, 4, 5] rfl ?_
                    exact ih 1 x4 z58 J13 (⟨by decide, by decide⟩ : inR (1)) hx4 hz58 m15 hw
            · have hw := hw.2 hc
              refine q_iload_n F 3 dX12_isPairBroken_108 rfl rfl ?_
              refine q_if_ne F hx3 119 dX12_isPairBroken_109 (by decide) (fun hc => ?_) (fun hc => ?_)
              · have hw := hw.1 hc
                refine q_iconst F dX12_isPairBroken_119 ?_
                refine q_goto F 124 dX12_isPairBroken_120 (by decide) ?_
                refine q_istore_n (lv' := [(0, .ref (E.1 1000)), (1, iV a1), (2, .ref (E.1 a2)), (3, iV 1), (4, iV x4), (5, iV x5), (6, iV z10), (7, iV z17), (8, iV z23)]) F [1, 2, 3, 0, 4, 5, 6, 7, 8] dX12_isPairBroken_124 rfl (q_n hN (by decide)) rfl ?_
                refine q_goto F 222 dX12_isPairBroken_125 (by decide) ?_
                obtain ⟨k63, hw⟩ := hw
                obtain ⟨z61, e62⟩ := ex1 (x5 + 1)
                have hw := hw z61 e62
                have hz61 : inR z61 := by rw [e62]; exact k63
                refine q_iinc (lv' := [(0, .ref (E.1 1000)), (1, iV a1), (2, .ref (E.1 a2)), (3, iV 1), (4, iV x4), (5, iV z61), (6, iV z10), (7, iV z17), (8, iV z23)]) F 5 [1, 2, 3, 4, 5, 0, 6, 7, 8] dX12_isPairBroken_222 rfl (q_n hN (by decide)) e62.symm rfl ?_
                refine q_goto F 22 dX12_isPairBroken_225 (by decide) ?_
                refine q_lv [0, 1, 2, 3, 4, 5] rfl ?_
                exact ih 1 x4 z61 J13 (⟨by decide, by decide⟩ : inR (1)) hx4 hz61 m15 hw
              · have hw := hw.2 hc
                refine q_iload F 6 dX12_isPairBroken_112 rfl ?_
                refine q_iload F 7 dX12_isPairBroken_114 rfl ?_
                refine q_icmp_eq F hz10 hz17 123 dX12_isPairBroken_116 (by decide) (fun hc => ?_) (fun hc => ?_)
                · have hw := hw.1 hc
                  refine q_iconst F dX12_isPairBroken_123 ?_
                  refine q_istore_n (lv' := [(0, .ref (E.1 1000)), (1, iV a1), (2, .ref (E.1 a2)), (3, iV 0), (4, iV x4), (5, iV x5), (6, iV z10), (7, iV z17), (8, iV z23)]) F [1, 2, 3, 0, 4, 5, 6, 7, 8] dX12_isPairBroken_124 rfl (q_n hN (by decide)) rfl ?_
                  refine q_goto F 222 dX12_isPairBroken_125 (by decide) ?_
                  obtain ⟨k66, hw⟩ := hw
                  obtain ⟨z64, e65⟩ := ex1 (x5 + 1)
                  have hw := hw z64 e65
                  have hz64 : inR z64 := by rw [e65]; exact k66
                  refine q_iinc (lv' := [(0, .ref (E.1 1000)), (1, iV a1), (2, .ref (E.1 a2)), (3, iV 0), (4, iV x4), (5, iV z64), (6, iV z10), (7, iV z17), (8, iV z23)]) F 5 [1, 2, 3, 4, 5, 0, 6, 7, 8] dX12_isPairBroken_222 rfl (q_n hN (by decide)) e65.symm rfl ?_
                  refine q_goto F 22 dX12_isPairBroken_225 (by decide) ?_
                  refine q_lv [0, 1, 2, 3, 4, 5] rfl ?_
                  exact ih 0 x4 z64 J13 (⟨by decide, by decide⟩ : inR (0)) hx4 hz64 m15 hw
                · have hw := hw.2 hc
                  refine q_iconst F dX12_isPairBroken_119 ?_
                  refine q_goto F 124 dX12_isPairBroken_120 (by decide) ?_
                  refine q_istore_n (lv' := [(0, .ref (E.1 1000)), (1, iV a1), (2, .ref (E.1 a2)), (3, iV 1), (4, iV x4), (5, iV x5), (6, iV z10), (7, iV z17), (8, iV z23)]) F [1, 2, 3, 0, 4, 5, 6, 7, 8] dX12_isPairBroken_124 rfl (q_n hN (by decide)) rfl ?_
                  refine q_goto F 222 dX12_isPairBroken_125 (by decide) ?_
                  obtain ⟨k69, hw⟩ := hw
                  obtain ⟨z67, e68⟩ := ex1 (x5 + 1)
                  have hw := hw z67 e68
                  have hz67 : inR z67 := by rw [e68]; exact k69
                  refine q_iinc (lv' := [(0, .ref (E.1 1000)), (1, iV a1), (2, .ref (E.1 a2)), (3, iV 1), (4, iV x4), (5, iV z67), (6, iV z10), (7, iV z17), (8, iV z23)]) F 5 [1, 2, 3, 4, 5, 0, 6, 7, 8] dX12_isPairBroken_222 rfl (q_n hN (by decide)) e68.symm rfl ?_
                  refine q_goto F 22 dX12_isPairBroken_225 (by decide) ?_
                  refine q_lv [0, 1, 2, 3, 4, 5] rfl ?_
                  exact ih 1 x4 z67 J13 (⟨by decide, by decide⟩ : inR (1)) hx4 hz67 m15 hw
          · have hw := hw.2 hc
            refine q_iload_n F 3 dX12_isPairBroken_81 rfl rfl ?_
            refine q_if_ne F hx3 92 dX12_isPairBroken_82 (by decide) (fun hc => ?_) (fun hc => ?_)
            · have hw := hw.1 hc
              refine q_iconst F dX12_isPairBroken_92 ?_
              refine q_goto F 97 dX12_isPairBroken_93 (by decide) ?_
              refine q_istore_n (lv' := [(0, .ref (E.1 1000)), (1, iV a1), (2, .ref (E.1 a2)), (3, iV 1), (4, iV x4), (5, iV x5), (6, iV z10), (7, iV z17), (8, iV z23)]) F [1, 2, 3, 0, 4, 5, 6, 7, 8] dX12_isPairBroken_97 rfl (q_n hN (by decide)) rfl ?_
              refine q_goto F 222 dX12_isPairBroken_98 (by decide) ?_
              obtain ⟨k72, hw⟩ := hw
              obtain ⟨z70, e71⟩ := ex1 (x5 + 1)
              have hw := hw z70 e71
              have hz70 : inR z70 := by rw [e71]; exact k72
              refine q_iinc (lv' := [(0, .ref (E.1 1000)), (1, iV a1), (2, .ref (E.1 a2)), (3, iV 1), (4, iV x4), (5, iV z70), (6, iV z10), (7, iV z17), (8, iV z23)]) F 5 [1, 2, 3, 4, 5, 0, 6, 7, 8] dX12_isPairBroken_222 rfl (q_n hN (by decide)) e71.symm rfl ?_
              refine q_goto F 22 dX12_isPairBroken_225 (by decide) ?_
              refine q_lv [0, 1, 2, 3, 4, 5] rfl ?_
              exact ih 1 x4 z70 J13 (⟨by decide, by decide⟩ : inR (1)) hx4 hz70 m15 hw
            · have hw := hw.2 hc
              refine q_iload F 6 dX12_isPairBroken_85 rfl ?_
              refine q_iload F 7 dX12_isPairBroken_87 rfl ?_
              refine q_icmp_ne F hz10 hz17 96 dX12_isPairBroken_89 (by decide) (fun hc => ?_) (fun hc => ?_)
              · have hw := hw.1 hc
                refine q_iconst F dX12_isPairBroken_96 ?_
                refine q_istore_n (lv' := [(0, .ref (E.1 1000)), (1, iV a1), (2, .ref (E.1 a2)), (3, iV 0), (4, iV x4), (5, iV x5), (6, iV z10), (7, iV z17), (8, iV z23)]) F [1, 2, 3, 0, 4, 5, 6, 7, 8] dX12_isPairBroken_97 rfl (q_n hN (by decide)) rfl ?_
                refine q_goto F 222 dX12_isPairBroken_98 (by decide) ?_
                obtain ⟨k75, hw⟩ := hw
                obtain ⟨z73, e74⟩ := ex1 (x5 + 1)
                have hw := hw z73 e74
                have hz73 : inR z73 := by rw [e74]; exact k75
                refine q_iinc (lv' := [(0, .ref (E.1 1000)), (1, iV a1), (2, .ref (E.1 a2)), (3, iV 0), (4, iV x4), (5, iV z73), (6, iV z10), (7, iV z17), (8, iV z23)]) F 5 [1, 2, 3, 4, 5, 0, 6, 7, 8] dX12_isPairBroken_222 rfl (q_n hN (by decide)) e74.symm rfl ?_
                refine q_goto F 22 dX12_isPairBroken_225 (by decide) ?_
                refine q_lv [0, 1, 2, 3, 4, 5] rfl ?_
                exact ih 0 x4 z73 J13 (⟨by decide, by decide⟩ : inR (0)) hx4 hz73 m15 hw
              · have hw := hw.2 hc
                refine q_iconst F dX12_isPairBroken_92 ?_
                refine q_goto F 97 dX12_isPairBroken_93 (by decide) ?_
                refine q_istore_n (lv' := [(0, .ref (E.1 1000)), (1, iV a1), (2, .ref (E.1 a2)), (3, iV 1), (4, iV x4), (5, iV x5), (6, iV z10), (7, iV z17), (8, iV z23)]) F [1, 2, 3, 0, 4, 5, 6, 7, 8] dX12_isPairBroken_97 rfl (q_n hN (by decide)) rfl ?_
                refine q_goto F 222 dX12_isPairBroken_98 (by decide) ?_
                obtain ⟨k78, hw⟩ := hw
                obtain ⟨z76, e77⟩ := ex1 (x5 + 1)
                have hw := hw z76 e77
                have hz76 : inR z76 := by rw [e77]; exact k78
                refine q_iinc (lv' := [(0, .ref (E.1 1000)), (1, iV a1), (2, .ref (E.1 a2)), (3, iV 1), (4, iV x4), (5, iV z76), (6, iV z10), (7, iV z17), (8, iV z23)]) F 5 [1, 2, 3, 4, 5, 0, 6, 7, 8] dX12_isPairBroken_222 rfl (q_n hN (by decide)) e77.symm rfl ?_
                refine q_goto F 22 dX12_isPairBroken_225 (by decide) ?_
                refine q_lv [0, 1, 2, 3, 4, 5] rfl ?_
                exact ih 1 x4 z76 J13 (⟨by decide, by decide⟩ : inR (1)) hx4 hz76 m15 hw
        · have hw := hw.2 hc
          refine q_goto F 222 dX12_isPairBroken_65 (by decide) ?_
          obtain ⟨k81, hw⟩ := hw
          obtain ⟨z79, e80⟩ := ex1 (x5 + 1)
          have hw := hw z79 e80
          have hz79 : inR z79 := by rw [e80]; exact k81
          refine q_iinc (lv' := [(0, .ref (E.1 1000)), (1, iV a1), (2, .ref (E.1 a2)), (3, iV x3), (4, iV x4), (5, iV z79), (6, iV z10), (7, iV z17)]) F 5 [1, 2, 3, 4, 5, 0, 6, 7] dX12_isPairBroken_222 rfl (q_n hN (by decide)) e80.symm rfl ?_
          refine q_goto F 22 dX12_isPairBroken_225 (by decide) ?_
          refine q_lv [0, 1, 2, 3, 4, 5] rfl ?_
          exact ih x3 x4 z79 J13 hx3 hx4 hz79 m15 hw
set_option maxHeartbeats 4000000 in
set_option maxRecDepth 100000 in
theorem bX12_isPairBroken_5 {X : xC} {E : cE} (F : mF X E RX12 cX12_isPairBroken bG) (hR : X.1.2.2.2 = rmK 2 (0) (0)) (hN : X.2.2.1.2.2.2 = 9) {Q : Int → cI → Prop} (hret : rZM X E cX12_isPairBroken (0) (0) Q) {a1 : Int} {a2 : Nat} (ha1 : inR a1) (ha2 : isM 25 a2) : ∀ n5 : Nat, ∀ (x3 : Int) (x4 : Int) (J : cI), inR x3 → inR x4 → mM J → wX12_isPairBroken_5 Q a1 a2 n5 x3 x4 J → cW X (0) (0) 5 [(0, .ref (E.1 1000)), (1, iV a1), (2, .ref (E.1 a2)), (3, iV x3), (4, iV x4)] [] (gw E.1 mIds (mef E J) ++ []) := by
  intro n5
  induction n5 with
  | zero => intro x3 x4 J hx3 hx4 hm hw; exact hw.elim
  | succ n5 ih =>
    intro x3 x4 J hx3 hx4 hm hw
    change wbX12_isPairBroken_5 Q a1 a2 (wX12_isPairBroken_5 Q a1 a2 n5) x3 x4 J at hw
    unfold wbX12_isPairBroken_5 at hw
    refine q_iload F 4 dX12_isPairBroken_5 rfl ?_
    refine q_aload_n F 0 dX12_isPairBroken_7 rfl rfl ?_
    refine s_g_ruleSize F ib12 wd891 dX12_isPairBroken_8 ?_
    refine q_iload_n F 1 dX12_isPairBroken_11 rfl rfl ?_
    obtain ⟨k1, hw⟩ := hw
    refine s_ald F 70 kM_ruleSize k1 (by decide) dX12_isPairBroken_12 ?_
    refine q_icmp_ge F hx4 (hm _ _) 234 dX12_isPairBroken_13 (by decide) (fun hc => ?_) (fun hc => ?_)
    · have hw := hw.1 hc
      refine q_iload_n F 3 dX12_isPairBroken_234 rfl rfl ?_
      obtain ⟨k2, hw⟩ := hw
      exact hret _ _ _ _ _ dX12_isPairBroken_235 k2 hx3 hm hw
    · have hw := hw.2 hc
      refine q_iload F 4 dX12_isPairBroken_16 rfl ?_
      refine q_iconst F dX12_isPairBroken_18 ?_
      refine q_iadd F dX12_isPairBroken_19 ?_
      obtain ⟨k3, hw⟩ := hw
      obtain ⟨z4, e5⟩ := ex1 ((x4 + 1))
      have hw := hw z4 e5
      have hz4 : inR z4 := by rw [e5]; exact k3
      refine q_top e5 ?_
      refine q_istore (lv' := [(0, .ref (E.1 1000)), (1, iV a1), (2, .ref (E.1 a2)), (3, iV x3), (4, iV x4), (5, iV z4)]) F [1, 2, 3, 4, 5, 0] dX12_isPairBroken_20 (q_n hN (by decide)) rfl ?_
      obtain ⟨n6, hw⟩ := hw
      exact bX12_isPairBroken_22 F hR hN hret ha1 ha2 ih n6 x3 x4 z4 J hx3 hx4 hz4 hm hw
set_option maxHeartbeats 4000000 in
set_option maxRecDepth 100000 in
theorem kcX12_isPairBroken {l : Launch} {D : va_G} {E : cE} {a1 : Int} {a2 : Nat} {J : cI} (hm : mM J) (ha1 : inR a1) (ha2 : isM 25 a2) {Q : Int → cI → Prop} (hw : wX12_isPairBroken a1 a2 J Q) : gM l D E mIds yX12_isPairBroken vX12_isPairBroken (rmK 2 (0) (0)) [.ref (E.1 1000), iV a1, .ref (E.1 a2)] (mef E J) (mef E) (oI Q) (0) (0) := by
  unfold wX12_isPairBroken at hw
  refine k_ofW (own := RX12) (cc := cX12_isPairBroken) (maxL := 9) (ret := (some .boolean)) (lv := [(0, .ref (E.1 1000)), (1, iV a1), (2, .ref (E.1 a2))]) (by decide) rfl rfl (Nat.le_of_ble_eq_true rfl) rfl ?_
  intro X hl hR hN hD F K
  subst hl; subst hD
  have hret := mk_rZM (Q := Q) F K
  refine q_iconst F dX12_isPairBroken_0 ?_
  refine q_istore_n (lv' := [(0, .ref (E.1 1000)), (1, iV a1), (2, .ref (E.1 a2)), (3, iV 0)]) F [1, 2, 3, 0] dX12_isPairBroken_1 rfl (q_n hN (by decide)) rfl ?_
  refine q_iconst F dX12_isPairBroken_2 ?_
  refine q_istore (lv' := [(0, .ref (E.1 1000)), (1, iV a1), (2, .ref (E.1 a2)), (3, iV 0), (4, iV 0)]) F [1, 2, 3, 4, 0] dX12_isPairBroken_3 (q_n hN (by decide)) rfl ?_
  obtain ⟨n1, hw⟩ := hw
  exact bX12_isPairBroken_5 F hR hN hret ha1 ha2 n1 0 0 J (⟨by decide, by decide⟩ : inR (0)) (⟨by decide, by decide⟩ : inR (0)) hm hw
