/-! ===== walks: X5_readRule, X5_readRules, X5_readInto, X4_cellCount, X6_begin, X11_takeDraft, X11_compile, X4_countGivens, X4_countFilled, X7_hasPair, X7_breaksSum, X7_breaksProduct, X7_breaksOrder ===== -/
theorem ydX5_readRule : yX5_readRule.cls = RX5 ∧ yX5_readRule.cls ≠ "java/lang/invoke/MethodHandle" ∧ yX5_readRule.cls ≠ "java/lang/invoke/VarHandle" ∧ (parseMethodDescriptor yX5_readRule.desc).map (fun d => d.parameters.length) = some 1 := by decide +kernel
def vX5_readRule : List Cond := Cond.code yX5_readRule cX5_readRule 4 (some .boolean) :: bG
set_option maxHeartbeats 4000000 in
set_option maxRecDepth 100000 in
theorem bX5_readRule_89 {X : xC} {E : cE} (F : mF X E RX5 cX5_readRule bG) (hR : X.1.2.2.2 = rmK 4 (0) (0)) (hN : X.2.2.1.2.2.2 = 4) {Q : Int → cI → cR → Prop} (hret : rZ X E cX5_readRule (0) (0) Q) {a1 : Nat} (ha1 : isP a1) : ∀ (I : cI) (R : cR), cM I R → wX5_readRule_89 Q a1 I R → cW X (0) (0) 89 [(0, .ref (E.1 3))] [] (gw E.1 cIds (cef E (I, R)) ++ []) := by
  intro I R hm hw
  unfold wX5_readRule_89 at hw
  refine q_aload_n F 0 dX5_readRule_89 rfl rfl ?_
  refine q_iconst F dX5_readRule_90 ?_
  refine q_Vi F (kcX5_fail hm (⟨by decide, by decide⟩ : inR (1)) hw) (cIds_in (show ckd 3 = 3 ∧ 3 < 353 by decide).2) (ceReader (show ckd 3 = 3 ∧ 3 < 353 by decide).1) (ci := 3) rfl (bV wd322 wd323 wd887 wd3 wd324) rfl ⟨rfl, rfl⟩ ydX5_fail (rmK_le hR (by omega) (by decide)) (av := [iV 1]) rfl rfl (Nat.le_of_ble_eq_true rfl) dX5_readRule_91 (rmK_cs hR (by omega) (by omega)) (fun r1 I2 R3 h4 m5 hw => ?_)
  obtain ⟨k6, hw⟩ := hw
  exact hret _ _ _ _ _ _ dX5_readRule_94 k6 h4 m5 hw
set_option maxHeartbeats 4000000 in
set_option maxRecDepth 100000 in
theorem bX5_readRule_154 {X : xC} {E : cE} (F : mF X E RX5 cX5_readRule bG) (hR : X.1.2.2.2 = rmK 4 (0) (0)) (hN : X.2.2.1.2.2.2 = 4) {Q : Int → cI → cR → Prop} (hret : rZ X E cX5_readRule (0) (0) Q) {a1 : Nat} (ha1 : isP a1) : ∀ (x3 : Nat) (I : cI) (R : cR), isR x3 → cM I R → wX5_readRule_154 Q a1 x3 I R → cW X (0) (0) 154 [(0, .ref (E.1 3)), (1, .ref (E.1 a1)), (3, .ref (E.1 x3))] [] (gw E.1 cIds (cef E (I, R)) ++ []) := by
  intro x3 I R hx3 hm hw
  unfold wX5_readRule_154 at hw
  refine q_aload_n F 0 dX5_readRule_154 rfl rfl ?_
  refine q_aload_n F 1 dX5_readRule_155 rfl rfl ?_
  refine q_aload_n F 2 dX5_readRule_156 rfl rfl ?_
  refine q_Vi F (kcX5_readCells hm ha1 hx3 hw) (cIds_in (show ckd 3 = 3 ∧ 3 < 353 by decide).2) (ceReader (show ckd 3 = 3 ∧ 3 < 353 by decide).1) (ci := 3) rfl (bV wd388 wd389 wd893 wd3 wd390) rfl ⟨rfl, rfl⟩ ydX5_readCells (rmK_le hR (by omega) (by decide)) (av := [.ref (E.1 a1), .ref (E.1 x3)]) rfl rfl (Nat.le_of_ble_eq_true rfl) dX5_readRule_157 (rmK_cs hR (by omega) (by omega)) (fun r1 I2 R3 h4 m5 hw => ?_)
  refine q_if_eq F h4 186 dX5_readRule_160 (by decide) (fun hc => ?_) (fun hc => ?_)
  · have hw := hw.1 hc
    refine q_iconst F dX5_readRule_186 ?_
    exact hret _ _ _ _ _ _ dX5_readRule_187 (Or.inl rfl) (⟨by decide, by decide⟩ : inR (0)) m5 hw
  · have hw := hw.2 hc
    refine q_aload_n F 2 dX5_readRule_163 rfl rfl ?_
    refine t_g_Rule_kind F (kR0 hx3) ib7 wd145 dX5_readRule_164 ?_
    refine q_gs F (sZ_IS F) wd320 rfl dX5_readRule_167 ?_
    refine q_acne F (m5.2.2.2.2 _ hx3) (by decide) 182 dX5_readRule_170 (by decide) (fun hc => ?_) (fun hc => ?_)
    · have hw := hw.1 hc
      refine q_iconst F dX5_readRule_182 ?_
      refine q_goto F 187 dX5_readRule_183 (by decide) ?_
      exact hret _ _ _ _ _ _ dX5_readRule_187 (Or.inr rfl) (⟨by decide, by decide⟩ : inR (1)) m5 hw
    · have hw := hw.2 hc
      refine q_aload_n F 0 dX5_readRule_173 rfl rfl ?_
      refine q_aload_n F 1 dX5_readRule_174 rfl rfl ?_
      refine q_aload_n F 2 dX5_readRule_175 rfl rfl ?_
      refine q_Vi F (kcX5_readNumber m5 ha1 hx3 hw) (cIds_in (show ckd 3 = 3 ∧ 3 < 353 by decide).2) (ceReader (show ckd 3 = 3 ∧ 3 < 353 by decide).1) (ci := 3) rfl (bV wd371 wd372 wd891 wd3 wd373) rfl ⟨rfl, rfl⟩ ydX5_readNumber (rmK_le hR (by omega) (by decide)) (av := [.ref (E.1 a1), .ref (E.1 x3)]) rfl rfl (Nat.le_of_ble_eq_true rfl) dX5_readRule_176 (rmK_cs hR (by omega) (by omega)) (fun r6 I7 R8 h9 m10 hw => ?_)
      refine q_if_eq F h9 186 dX5_readRule_179 (by decide) (fun hc => ?_) (fun hc => ?_)
      · have hw := hw.1 hc
        refine q_iconst F dX5_readRule_186 ?_
        exact hret _ _ _ _ _ _ dX5_readRule_187 (Or.inl rfl) (⟨by decide, by decide⟩ : inR (0)) m10 hw
      · have hw := hw.2 hc
        refine q_iconst F dX5_readRule_182 ?_
        refine q_goto F 187 dX5_readRule_183 (by decide) ?_
        exact hret _ _ _ _ _ _ dX5_readRule_187 (Or.inr rfl) (⟨by decide, by decide⟩ : inR (1)) m10 hw
set_option maxHeartbeats 4000000 in
set_option maxRecDepth 100000 in
theorem bX5_readRule_135 {X : xC} {E : cE} (F : mF X E RX5 cX5_readRule bG) (hR : X.1.2.2.2 = rmK 4 (0) (0)) (hN : X.2.2.1.2.2.2 = 4) {Q : Int → cI → cR → Prop} (hret : rZ X E cX5_readRule (0) (0) Q) {a1 : Nat} (ha1 : isP a1) : ∀ (x3 : Nat) (I : cI) (R : cR), isR x3 → cM I R → wX5_readRule_135 Q a1 x3 I R → cW X (0) (0) 135 [(0, .ref (E.1 3)), (1, .ref (E.1 a1)), (3, .ref (E.1 x3))] [] (gw E.1 cIds (cef E (I, R)) ++ []) := by
  intro x3 I R hx3 hm hw
  unfold wX5_readRule_135 at hw
  refine q_aload_n F 2 dX5_readRule_135 rfl rfl ?_
  refine t_g_Rule_kind F (kR0 hx3) ib7 wd145 dX5_readRule_136 ?_
  refine q_kAhd F (hm.2.2.2.2 _ hx3) wd836 dX5_readRule_139 ?_
  refine q_iconst F dX5_readRule_142 ?_
  refine q_icmp_lt F (kA_in (hm.2.2.2.2 _ hx3)) (⟨by decide, by decide⟩ : inR (2)) 154 dX5_readRule_143 (by decide) (fun hc => ?_) (fun hc => ?_)
  · have hw := hw.1 hc
    exact bX5_readRule_154 F hR hN hret ha1 x3 I R hx3 hm hw
  · have hw := hw.2 hc
    refine q_aload_n F 0 dX5_readRule_146 rfl rfl ?_
    refine q_aload_n F 2 dX5_readRule_147 rfl rfl ?_
    refine q_Vi F (kcX5_readTimes hm hx3 hw) (cIds_in (show ckd 3 = 3 ∧ 3 < 353 by decide).2) (ceReader (show ckd 3 = 3 ∧ 3 < 353 by decide).1) (ci := 3) rfl (bV wd385 wd386 wd892 wd3 wd387) rfl ⟨rfl, rfl⟩ ydX5_readTimes (rmK_le hR (by omega) (by decide)) (av := [.ref (E.1 x3)]) rfl rfl (Nat.le_of_ble_eq_true rfl) dX5_readRule_148 (rmK_cs hR (by omega) (by omega)) (fun r1 I2 R3 h4 m5 hw => ?_)
    refine q_if_eq F h4 186 dX5_readRule_151 (by decide) (fun hc => ?_) (fun hc => ?_)
    · have hw := hw.1 hc
      refine q_iconst F dX5_readRule_186 ?_
      exact hret _ _ _ _ _ _ dX5_readRule_187 (Or.inl rfl) (⟨by decide, by decide⟩ : inR (0)) m5 hw
    · have hw := hw.2 hc
      exact bX5_readRule_154 F hR hN hret ha1 x3 I2 R3 hx3 m5 hw
set_option maxHeartbeats 4000000 in
set_option maxRecDepth 100000 in
theorem kcX5_readRule {l : Launch} {D : va_G} {E : cE} {a1 : Nat} {I : cI} {R : cR} (hm : cM I R) (ha1 : isP a1) {Q : Int → cI → cR → Prop} (hw : wX5_readRule a1 I R Q) : gM l D E cIds yX5_readRule vX5_readRule (rmK 4 (0) (0)) [.ref (E.1 3), .ref (E.1 a1)] (cef E (I, R)) (cef E) (pI Q) (0) (0) := by
  unfold wX5_readRule at hw
  refine k_ofW (own := RX5) (cc := cX5_readRule) (maxL := 4) (ret := (some .boolean)) (lv := [(0, .ref (E.1 3)), (1, .ref (E.1 a1))]) (by decide) rfl rfl (Nat.le_of_ble_eq_true rfl) rfl ?_
  intro X hl hR hN hD F K
  subst hl; subst hD
  have hret := mk_rZ (Q := Q) F K
  refine q_aload_n F 0 dX5_readRule_0 rfl rfl ?_
  refine t_g_Reader_tokens F (by decide) ib5 wd65 4 rfl dX5_readRule_1 ?_
  refine q_aload_n F 0 dX5_readRule_4 rfl rfl ?_
  refine t_g_Reader_place F (by decide) ib5 wd66 dX5_readRule_5 ?_
  refine q_Vi F (kcX10_numberAt hm (hm.1 _ _) hw) (cIds_in (show ckd 4 = 8 ∧ 4 < 353 by decide).2) (ceTokens (show ckd 4 = 8 ∧ 4 < 353 by decide).1) (ci := 8) rfl (bV wd302 wd303 wd304 wd4 wd305) rfl ⟨rfl, rfl⟩ ydX10_numberAt (rmK_le hR (by omega) (by decide)) (av := [iV ((I 3 3))]) rfl rfl (Nat.le_of_ble_eq_true rfl) dX5_readRule_8 (rmK_cs hR (by omega) (by omega)) (fun r1 I2 R3 h4 m5 hw => ?_)
  refine q_istore_n (lv' := [(0, .ref (E.1 3)), (1, .ref (E.1 a1)), (2, iV r1)]) F [1, 2, 0] dX5_readRule_11 rfl (q_n hN (by decide)) rfl ?_
  refine q_aload_n F 1 dX5_readRule_12 rfl rfl ?_
  refine t_g_Puzzle_ruleCount F (kP0 ha1) ib4 wd192 dX5_readRule_13 ?_
  refine q_iload_n F 2 dX5_readRule_16 rfl rfl ?_
  refine q_aload_n F 1 dX5_readRule_17 rfl rfl ?_
  refine q_Si F (kcX5_rulesOf m5 h4 ha1 hw) (bS wd346 wd347 wd3 wd348) rfl ⟨rfl, rfl⟩ ydX5_rulesOf (rmK_le hR (by omega) (by decide)) (av := [iV r1, .ref (E.1 a1)]) rfl rfl (Nat.le_of_ble_eq_true rfl) dX5_readRule_18 (rmK_cs hR (by omega) (by omega)) (fun r6 I7 R8 h9 m10 hw => ?_)
  refine q_iadd F dX5_readRule_21 ?_
  refine q_bipush F dX5_readRule_22 (by decide) ?_
  obtain ⟨k11, hw⟩ := hw
  refine q_icmp_le F k11 (⟨by decide, by decide⟩ : inR (40)) 33 dX5_readRule_24 (by decide) (fun hc => ?_) (fun hc => ?_)
  · have hw := hw.1 hc
    refine q_iload_n F 2 dX5_readRule_33 rfl rfl ?_
    refine q_bipush F dX5_readRule_34 (by decide) ?_
    refine q_icmp_ne F h4 (⟨by decide, by decide⟩ : inR (12)) 55 dX5_readRule_36 (by decide) (fun hc => ?_) (fun hc => ?_)
    · have hw := hw.1 hc
      refine q_iload_n F 2 dX5_readRule_55 rfl rfl ?_
      refine q_bipush F dX5_readRule_56 (by decide) ?_
      refine q_icmp_ne F h4 (⟨by decide, by decide⟩ : inR (13)) 77 dX5_readRule_58 (by decide) (fun hc => ?_) (fun hc => ?_)
      · have hw := hw.1 hc
        refine q_iload_n F 2 dX5_readRule_77 rfl rfl ?_
        refine q_if_lt F h4 89 dX5_readRule_78 (by decide) (fun hc => ?_) (fun hc => ?_)
        · have hw := hw.1 hc
          refine q_lv [0] rfl ?_
          exact bX5_readRule_89 F hR hN hret ha1 I7 R8 m10 hw
        · have hw := hw.2 hc
          refine q_iload_n F 2 dX5_readRule_81 rfl rfl ?_
          refine q_gsN F (sZ_ALL F) (sN_5 F) rfl dX5_readRule_82 ?_
          refine q_lenALL F dX5_readRule_85 ?_
          refine q_icmp_lt F h4 (⟨by decide, by decide⟩ : inR (12)) 95 dX5_readRule_86 (by decide) (fun hc => ?_) (fun hc => ?_)
          · have hw := hw.1 hc
            refine q_aload_n F 0 dX5_readRule_95 rfl rfl ?_
            refine q_dup F dX5_readRule_96 rfl ?_
            refine t_g_Reader_place F (by decide) ib5 wd66 dX5_readRule_97 ?_
            refine q_iconst F dX5_readRule_100 ?_
            refine q_iadd F dX5_readRule_101 ?_
            obtain ⟨k12, hw⟩ := hw
            obtain ⟨I13, e14⟩ := ex1 (up2 I7 3 3 (((I7 3 3) + 1)))
            have hw := hw I13 e14
            have m15 : cM I13 R8 := cM_I m10 e14 k12
            refine t_p_Reader_place F (by decide) ib5 wd66 e14 dX5_readRule_102 ?_
            refine q_aload_n F 1 dX5_readRule_105 rfl rfl ?_
            refine q_gsN F (sZ_ALL F) (sN_5 F) rfl dX5_readRule_106 ?_
            refine q_iload_n F 2 dX5_readRule_109 rfl rfl ?_
            obtain ⟨k16, hw⟩ := hw
            refine q_ldALL F k16 dX5_readRule_110 ?_
            refine q_Vr F (kcX4_addRule m15 ha1 (tN12 k16) hw) (cIds_in (kP0 ha1).2) (cePuzzle (kP0 ha1).1) (ci := 2) rfl (bV wd370 wd355 wd356 wd9 wd357) rfl ⟨rfl, rfl⟩ ydX4_addRule (rmK_le hR (by omega) (by decide)) (av := [.ref (E.2.1 0 (Int.toNat (r1)))]) rfl rfl (Nat.le_of_ble_eq_true rfl) dX5_readRule_111 (rmK_cs hR (by omega) (by omega)) (fun r17 I18 R19 h20 m21 hw => ?_)
            refine q_astore_n (lv' := [(0, .ref (E.1 3)), (1, .ref (E.1 a1)), (2, iV r1), (3, .ref (E.1 r17))]) F [1, 2, 3, 0] dX5_readRule_114 rfl (q_n hN (by decide)) rfl ?_
            refine q_aload_n F 3 dX5_readRule_115 rfl rfl ?_
            refine t_g_Rule_kind F (kR0 h20) ib7 wd145 dX5_readRule_116 ?_
            refine q_kAhd F (m21.2.2.2.2 _ h20) wd836 dX5_readRule_119 ?_
            refine q_iconst F dX5_readRule_122 ?_
            refine q_icmp_lt F (kA_in (m21.2.2.2.2 _ h20)) (⟨by decide, by decide⟩ : inR (1)) 135 dX5_readRule_123 (by decide) (fun hc => ?_) (fun hc => ?_)
            · have hw := hw.1 hc
              refine q_lv [0, 1, 3] rfl ?_
              exact bX5_readRule_135 F hR hN hret ha1 r17 I18 R19 h20 m21 hw
            · have hw := hw.2 hc
              refine q_aload_n F 0 dX5_readRule_126 rfl rfl ?_
              refine q_aload_n F 1 dX5_readRule_127 rfl rfl ?_
              refine q_aload_n F 3 dX5_readRule_128 rfl rfl ?_
              refine q_Vi F (kcX5_readNumber m21 ha1 h20 hw) (cIds_in (show ckd 3 = 3 ∧ 3 < 353 by decide).2) (ceReader (show ckd 3 = 3 ∧ 3 < 353 by decide).1) (ci := 3) rfl (bV wd371 wd372 wd891 wd3 wd373) rfl ⟨rfl, rfl⟩ ydX5_readNumber (rmK_le hR (by omega) (by decide)) (av := [.ref (E.1 a1), .ref (E.1 r17)]) rfl rfl (Nat.le_of_ble_eq_true rfl) dX5_readRule_129 (rmK_cs hR (by omega) (by omega)) (fun r22 I23 R24 h25 m26 hw => ?_)
              refine q_if_eq F h25 186 dX5_readRule_132 (by decide) (fun hc => ?_) (fun hc => ?_)
              · have hw := hw.1 hc
                refine q_iconst F dX5_readRule_186 ?_
                exact hret _ _ _ _ _ _ dX5_readRule_187 (Or.inl rfl) (⟨by decide, by decide⟩ : inR (0)) m26 hw
              · have hw := hw.2 hc
                refine q_lv [0, 1, 3] rfl ?_
                exact bX5_readRule_135 F hR hN hret ha1 r17 I23 R24 h20 m26 hw
          · have hw := hw.2 hc
            refine q_lv [0] rfl ?_
            exact bX5_readRule_89 F hR hN hret ha1 I7 R8 m10 hw
      · have hw := hw.2 hc
        refine q_aload_n F 1 dX5_readRule_61 rfl rfl ?_
        refine q_Vv F (kcX4_addColumnRules m10 ha1 hw) (cIds_in (kP0 ha1).2) (cePuzzle (kP0 ha1).1) (ci := 2) rfl (bV wd366 wd367 wd368 wd9 wd369) rfl ⟨rfl, rfl⟩ ydX4_addColumnRules (rmK_le hR (by omega) (by decide)) (av := []) rfl rfl (Nat.le_of_ble_eq_true rfl) dX5_readRule_62 (rmK_cs hR (by omega) (by omega)) (fun I28 R29 m31 hw => ?_)
        refine q_aload_n F 0 dX5_readRule_65 rfl rfl ?_
        refine q_dup F dX5_readRule_66 rfl ?_
        refine t_g_Reader_place F (by decide) ib5 wd66 dX5_readRule_67 ?_
        refine q_iconst F dX5_readRule_70 ?_
        refine q_iadd F dX5_readRule_71 ?_
        obtain ⟨k32, hw⟩ := hw
        obtain ⟨I33, e34⟩ := ex1 (up2 I28 3 3 (((I28 3 3) + 1)))
        have hw := hw I33 e34
        have m35 : cM I33 R29 := cM_I m31 e34 k32
        refine t_p_Reader_place F (by decide) ib5 wd66 e34 dX5_readRule_72 ?_
        refine q_iconst F dX5_readRule_75 ?_
        exact hret _ _ _ _ _ _ dX5_readRule_76 (Or.inr rfl) (⟨by decide, by decide⟩ : inR (1)) m35 hw
    · have hw := hw.2 hc
      refine q_aload_n F 1 dX5_readRule_39 rfl rfl ?_
      refine q_Vv F (kcX4_addRowRules m10 ha1 hw) (cIds_in (kP0 ha1).2) (cePuzzle (kP0 ha1).1) (ci := 2) rfl (bV wd349 wd350 wd351 wd9 wd352) rfl ⟨rfl, rfl⟩ ydX4_addRowRules (rmK_le hR (by omega) (by decide)) (av := []) rfl rfl (Nat.le_of_ble_eq_true rfl) dX5_readRule_40 (rmK_cs hR (by omega) (by omega)) (fun I37 R38 m40 hw => ?_)
      refine q_aload_n F 0 dX5_readRule_43 rfl rfl ?_
      refine q_dup F dX5_readRule_44 rfl ?_
      refine t_g_Reader_place F (by decide) ib5 wd66 dX5_readRule_45 ?_
      refine q_iconst F dX5_readRule_48 ?_
      refine q_iadd F dX5_readRule_49 ?_
      obtain ⟨k41, hw⟩ := hw
      obtain ⟨I42, e43⟩ := ex1 (up2 I37 3 3 (((I37 3 3) + 1)))
      have hw := hw I42 e43
      have m44 : cM I42 R38 := cM_I m40 e43 k41
      refine t_p_Reader_place F (by decide) ib5 wd66 e43 dX5_readRule_50 ?_
      refine q_iconst F dX5_readRule_53 ?_
      exact hret _ _ _ _ _ _ dX5_readRule_54 (Or.inr rfl) (⟨by decide, by decide⟩ : inR (1)) m44 hw
  · have hw := hw.2 hc
    refine q_aload_n F 0 dX5_readRule_27 rfl rfl ?_
    refine q_iconst F dX5_readRule_28 ?_
    refine q_Vi F (kcX5_fail m10 (⟨by decide, by decide⟩ : inR (4)) hw) (cIds_in (show ckd 3 = 3 ∧ 3 < 353 by decide).2) (ceReader (show ckd 3 = 3 ∧ 3 < 353 by decide).1) (ci := 3) rfl (bV wd322 wd323 wd887 wd3 wd324) rfl ⟨rfl, rfl⟩ ydX5_fail (rmK_le hR (by omega) (by decide)) (av := [iV 4]) rfl rfl (Nat.le_of_ble_eq_true rfl) dX5_readRule_29 (rmK_cs hR (by omega) (by omega)) (fun r45 I46 R47 h48 m49 hw => ?_)
    obtain ⟨k50, hw⟩ := hw
    exact hret _ _ _ _ _ _ dX5_readRule_32 k50 h48 m49 hw
theorem ydX5_readRules : yX5_readRules.cls = RX5 ∧ yX5_readRules.cls ≠ "java/lang/invoke/MethodHandle" ∧ yX5_readRules.cls ≠ "java/lang/invoke/VarHandle" ∧ (parseMethodDescriptor yX5_readRules.desc).map (fun d => d.parameters.length) = some 1 := by decide +kernel
def vX5_readRules : List Cond := Cond.code yX5_readRules cX5_readRules 3 (some .boolean) :: bG
set_option maxHeartbeats 4000000 in
set_option maxRecDepth 100000 in
theorem bX5_readRules_7 {X : xC} {E : cE} (F : mF X E RX5 cX5_readRules bG) (hR : X.1.2.2.2 = rmK 5 (0) (0)) (hN : X.2.2.1.2.2.2 = 3) {Q : Int → cI → cR → Prop} (hret : rZ X E cX5_readRules (0) (0) Q) {a1 : Nat} (ha1 : isP a1) : ∀ n7 : Nat, ∀ (x2 : Int) (I : cI) (R : cR), inR x2 → cM I R → wX5_readRules_7 Q a1 n7 x2 I R → cW X (0) (0) 7 [(0, .ref (E.1 3)), (1, .ref (E.1 a1)), (2, iV x2)] [] (gw E.1 cIds (cef E (I, R)) ++ []) := by
  intro n7
  induction n7 with
  | zero => intro x2 I R hx2 hm hw; exact hw.elim
  | succ n7 ih =>
    intro x2 I R hx2 hm hw
    change wbX5_readRules_7 Q a1 (wX5_readRules_7 Q a1 n7) x2 I R at hw
    unfold wbX5_readRules_7 at hw
    refine q_iload_n F 2 dX5_readRules_7 rfl rfl ?_
    refine q_aload_n F 0 dX5_readRules_8 rfl rfl ?_
    refine t_g_Reader_tokens F (by decide) ib5 wd65 4 rfl dX5_readRules_9 ?_
    refine t_g_Tokens_count F (by decide) ib10 wd58 dX5_readRules_12 ?_
    refine q_icmp_ge F hx2 (hm.1 _ _) 59 dX5_readRules_15 (by decide) (fun hc => ?_) (fun hc => ?_)
    · have hw := hw.1 hc
      refine q_iconst F dX5_readRules_59 ?_
      exact hret _ _ _ _ _ _ dX5_readRules_60 (Or.inr rfl) (⟨by decide, by decide⟩ : inR (1)) hm hw
    · have hw := hw.2 hc
      refine q_aload_n F 0 dX5_readRules_18 rfl rfl ?_
      refine t_g_Reader_tokens F (by decide) ib5 wd65 4 rfl dX5_readRules_19 ?_
      refine q_aload_n F 0 dX5_readRules_22 rfl rfl ?_
      refine t_g_Reader_place F (by decide) ib5 wd66 dX5_readRules_23 ?_
      refine q_Vi F (kcX10_typeAt hm (hm.1 _ _) hw) (cIds_in (show ckd 4 = 8 ∧ 4 < 353 by decide).2) (ceTokens (show ckd 4 = 8 ∧ 4 < 353 by decide).1) (ci := 8) rfl (bV wd309 wd310 wd311 wd4 wd312) rfl ⟨rfl, rfl⟩ ydX10_typeAt (rmK_le hR (by omega) (by decide)) (av := [iV ((I 3 3))]) rfl rfl (Nat.le_of_ble_eq_true rfl) dX5_readRules_26 (rmK_cs hR (by omega) (by omega)) (fun r1 I2 R3 h4 m5 hw => ?_)
      refine q_iconst F dX5_readRules_29 ?_
      refine q_icmp_ne F h4 (⟨by decide, by decide⟩ : inR (1)) 59 dX5_readRules_30 (by decide) (fun hc => ?_) (fun hc => ?_)
      · have hw := hw.1 hc
        refine q_iconst F dX5_readRules_59 ?_
        exact hret _ _ _ _ _ _ dX5_readRules_60 (Or.inr rfl) (⟨by decide, by decide⟩ : inR (1)) m5 hw
      · have hw := hw.2 hc
        refine q_aload_n F 0 dX5_readRules_33 rfl rfl ?_
        refine q_aload_n F 1 dX5_readRules_34 rfl rfl ?_
        refine q_Vi F (kcX5_readRule m5 ha1 hw) (cIds_in (show ckd 3 = 3 ∧ 3 < 353 by decide).2) (ceReader (show ckd 3 = 3 ∧ 3 < 353 by decide).1) (ci := 3) rfl (bV wd343 wd344 wd890 wd3 wd345) rfl ⟨rfl, rfl⟩ ydX5_readRule (rmK_le hR (by omega) (by decide)) (av := [.ref (E.1 a1)]) rfl rfl (Nat.le_of_ble_eq_true rfl) dX5_readRules_35 (rmK_cs hR (by omega) (by omega)) (fun r6 I7 R8 h9 m10 hw => ?_)
        refine q_if_ne F h9 43 dX5_readRules_38 (by decide) (fun hc => ?_) (fun hc => ?_)
        · have hw := hw.1 hc
          refine q_aload_n F 0 dX5_readRules_43 rfl rfl ?_
          refine q_dup F dX5_readRules_44 rfl ?_
          refine t_g_Reader_place F (by decide) ib5 wd66 dX5_readRules_45 ?_
          refine q_iconst F dX5_readRules_48 ?_
          refine q_iadd F dX5_readRules_49 ?_
          obtain ⟨k11, hw⟩ := hw
          obtain ⟨I12, e13⟩ := ex1 (up2 I7 3 3 (((I7 3 3) + 1)))
          have hw := hw I12 e13
          have m14 : cM I12 R8 := cM_I m10 e13 k11
          refine t_p_Reader_place F (by decide) ib5 wd66 e13 dX5_readRules_50 ?_
          obtain ⟨k17, hw⟩ := hw
          obtain ⟨z15, e16⟩ := ex1 (x2 + 1)
          have hw := hw z15 e16
          have hz15 : inR z15 := by rw [e16]; exact k17
          refine q_iinc (lv' := [(0, .ref (E.1 3)), (1, .ref (E.1 a1)), (2, iV z15)]) F 2 [1, 2, 0] dX5_readRules_53 rfl (q_n hN (by decide)) e16.symm rfl ?_
          refine q_goto F 7 dX5_readRules_56 (by decide) ?_
          exact ih z15 I12 R8 hz15 m14 hw
        · have hw := hw.2 hc
          refine q_iconst F dX5_readRules_41 ?_
          exact hret _ _ _ _ _ _ dX5_readRules_42 (Or.inl rfl) (⟨by decide, by decide⟩ : inR (0)) m10 hw
set_option maxHeartbeats 4000000 in
set_option maxRecDepth 100000 in
theorem kcX5_readRules {l : Launch} {D : va_G} {E : cE} {a1 : Nat} {I : cI} {R : cR} (hm : cM I R) (ha1 : isP a1) {Q : Int → cI → cR → Prop} (hw : wX5_readRules a1 I R Q) : gM l D E cIds yX5_readRules vX5_readRules (rmK 5 (0) (0)) [.ref (E.1 3), .ref (E.1 a1)] (cef E (I, R)) (cef E) (pI Q) (0) (0) := by
  unfold wX5_readRules at hw
  refine k_ofW (own := RX5) (cc := cX5_readRules) (maxL := 3) (ret := (some .boolean)) (lv := [(0, .ref (E.1 3)), (1, .ref (E.1 a1))]) (by decide) rfl rfl (Nat.le_of_ble_eq_true rfl) rfl ?_
  intro X hl hR hN hD F K
  subst hl; subst hD
  have hret := mk_rZ (Q := Q) F K
  refine q_aload_n F 0 dX5_readRules_0 rfl rfl ?_
  refine q_iconst F dX5_readRules_1 ?_
  obtain ⟨I1, e2⟩ := ex1 (up2 I 3 3 5)
  have hw := hw I1 e2
  have m3 : cM I1 R := cM_I hm e2 (⟨by decide, by decide⟩ : inR (5))
  refine t_p_Reader_place F (by decide) ib5 wd66 e2 dX5_readRules_2 ?_
  refine q_iconst F dX5_readRules_5 ?_
  refine q_istore_n (lv' := [(0, .ref (E.1 3)), (1, .ref (E.1 a1)), (2, iV 0)]) F [1, 2, 0] dX5_readRules_6 rfl (q_n hN (by decide)) rfl ?_
  obtain ⟨n4, hw⟩ := hw
  exact bX5_readRules_7 F hR hN hret ha1 n4 0 I1 R (⟨by decide, by decide⟩ : inR (0)) m3 hw
theorem ydX5_readInto : yX5_readInto.cls = RX5 ∧ yX5_readInto.cls ≠ "java/lang/invoke/MethodHandle" ∧ yX5_readInto.cls ≠ "java/lang/invoke/VarHandle" ∧ (parseMethodDescriptor yX5_readInto.desc).map (fun d => d.parameters.length) = some 2 := by decide +kernel
def vX5_readInto : List Cond := Cond.code yX5_readInto cX5_readInto 3 (some .boolean) :: bG
set_option maxHeartbeats 4000000 in
set_option maxRecDepth 100000 in
theorem kcX5_readInto {l : Launch} {D : va_G} {E : cE} {a1 : Nat} {I : cI} {R : cR} (hm : cM I R) (ha1 : isP a1) {Q : Int → cI → cR → Prop} (hw : wX5_readInto a1 I R Q) : gM l D E cIds yX5_readInto vX5_readInto (rmK 9 (0) (0)) [.ref (E.1 3), .ref (E.1 a1), .ref (E.1 1)] (cef E (I, R)) (cef E) (pI Q) (0) (0) := by
  unfold wX5_readInto at hw
  refine k_ofW (own := RX5) (cc := cX5_readInto) (maxL := 3) (ret := (some .boolean)) (lv := [(0, .ref (E.1 3)), (1, .ref (E.1 a1)), (2, .ref (E.1 1))]) (by decide) rfl rfl (Nat.le_of_ble_eq_true rfl) rfl ?_
  intro X hl hR hN hD F K
  subst hl; subst hD
  have hret := mk_rZ (Q := Q) F K
  refine q_aload_n F 0 dX5_readInto_0 rfl rfl ?_
  refine q_iconst F dX5_readInto_1 ?_
  obtain ⟨I1, e2⟩ := ex1 (up2 I 3 0 0)
  have hw := hw I1 e2
  have m3 : cM I1 R := cM_I hm e2 (⟨by decide, by decide⟩ : inR (0))
  refine t_p_Reader_error F (by decide) ib5 wd62 e2 dX5_readInto_2 ?_
  refine q_aload_n F 0 dX5_readInto_5 rfl rfl ?_
  refine q_iconst F dX5_readInto_6 ?_
  obtain ⟨I4, e5⟩ := ex1 (up2 I1 3 1 (-1))
  have hw := hw I4 e5
  have m6 : cM I4 R := cM_I m3 e5 (⟨by decide, by decide⟩ : inR (-1))
  refine t_p_Reader_errorAt F (by decide) ib5 wd64 e5 dX5_readInto_7 ?_
  refine q_aload_n F 0 dX5_readInto_10 rfl rfl ?_
  refine t_g_Reader_tokens F (by decide) ib5 wd65 4 rfl dX5_readInto_11 ?_
  refine q_aload_n F 2 dX5_readInto_14 rfl rfl ?_
  refine q_Vv F (kcX10_split m6 hw) (cIds_in (show ckd 4 = 8 ∧ 4 < 353 by decide).2) (ceTokens (show ckd 4 = 8 ∧ 4 < 353 by decide).1) (ci := 8) rfl (bV wd211 wd212 wd213 wd4 wd214) rfl ⟨rfl, rfl⟩ ydX10_split (rmK_le hR (by omega) (by decide)) (av := [.ref (E.1 1)]) rfl rfl (Nat.le_of_ble_eq_true rfl) dX5_readInto_15 (rmK_cs hR (by omega) (by omega)) (fun I8 R9 m11 hw => ?_)
  refine q_aload_n F 0 dX5_readInto_18 rfl rfl ?_
  refine q_Vi F (kcX5_hasForm m11 hw) (cIds_in (show ckd 3 = 3 ∧ 3 < 353 by decide).2) (ceReader (show ckd 3 = 3 ∧ 3 < 353 by decide).1) (ci := 3) rfl (bV wd299 wd300 wd883 wd3 wd301) rfl ⟨rfl, rfl⟩ ydX5_hasForm (rmK_le hR (by omega) (by decide)) (av := []) rfl rfl (Nat.le_of_ble_eq_true rfl) dX5_readInto_19 (rmK_cs hR (by omega) (by omega)) (fun r12 I13 R14 h15 m16 hw => ?_)
  refine q_if_ne F h15 31 dX5_readInto_22 (by decide) (fun hc => ?_) (fun hc => ?_)
  · have hw := hw.1 hc
    refine q_aload_n F 0 dX5_readInto_31 rfl rfl ?_
    refine q_aload_n F 1 dX5_readInto_32 rfl rfl ?_
    refine q_Vi F (kcX5_readSizes m16 ha1 hw) (cIds_in (show ckd 3 = 3 ∧ 3 < 353 by decide).2) (ceReader (show ckd 3 = 3 ∧ 3 < 353 by decide).1) (ci := 3) rfl (bV wd329 wd330 wd888 wd3 wd331) rfl ⟨rfl, rfl⟩ ydX5_readSizes (rmK_le hR (by omega) (by decide)) (av := [.ref (E.1 a1)]) rfl rfl (Nat.le_of_ble_eq_true rfl) dX5_readInto_33 (rmK_cs hR (by omega) (by omega)) (fun r17 I18 R19 h20 m21 hw => ?_)
    refine q_if_eq F h20 51 dX5_readInto_36 (by decide) (fun hc => ?_) (fun hc => ?_)
    · have hw := hw.1 hc
      refine q_iconst F dX5_readInto_51 ?_
      exact hret _ _ _ _ _ _ dX5_readInto_52 (Or.inl rfl) (⟨by decide, by decide⟩ : inR (0)) m21 hw
    · have hw := hw.2 hc
      refine q_aload_n F 0 dX5_readInto_39 rfl rfl ?_
      refine q_aload_n F 1 dX5_readInto_40 rfl rfl ?_
      refine q_Vi F (kcX5_readRules m21 ha1 hw) (cIds_in (show ckd 3 = 3 ∧ 3 < 353 by decide).2) (ceReader (show ckd 3 = 3 ∧ 3 < 353 by decide).1) (ci := 3) rfl (bV wd340 wd341 wd889 wd3 wd342) rfl ⟨rfl, rfl⟩ ydX5_readRules (rmK_le hR (by omega) (by decide)) (av := [.ref (E.1 a1)]) rfl rfl (Nat.le_of_ble_eq_true rfl) dX5_readInto_41 (rmK_cs hR (by omega) (by omega)) (fun r22 I23 R24 h25 m26 hw => ?_)
      refine q_if_eq F h25 51 dX5_readInto_44 (by decide) (fun hc => ?_) (fun hc => ?_)
      · have hw := hw.1 hc
        refine q_iconst F dX5_readInto_51 ?_
        exact hret _ _ _ _ _ _ dX5_readInto_52 (Or.inl rfl) (⟨by decide, by decide⟩ : inR (0)) m26 hw
      · have hw := hw.2 hc
        refine q_iconst F dX5_readInto_47 ?_
        refine q_goto F 52 dX5_readInto_48 (by decide) ?_
        exact hret _ _ _ _ _ _ dX5_readInto_52 (Or.inr rfl) (⟨by decide, by decide⟩ : inR (1)) m26 hw
  · have hw := hw.2 hc
    refine q_aload_n F 0 dX5_readInto_25 rfl rfl ?_
    refine q_iconst F dX5_readInto_26 ?_
    refine q_Vi F (kcX5_fail m16 (⟨by decide, by decide⟩ : inR (1)) hw) (cIds_in (show ckd 3 = 3 ∧ 3 < 353 by decide).2) (ceReader (show ckd 3 = 3 ∧ 3 < 353 by decide).1) (ci := 3) rfl (bV wd322 wd323 wd887 wd3 wd324) rfl ⟨rfl, rfl⟩ ydX5_fail (rmK_le hR (by omega) (by decide)) (av := [iV 1]) rfl rfl (Nat.le_of_ble_eq_true rfl) dX5_readInto_27 (rmK_cs hR (by omega) (by omega)) (fun r27 I28 R29 h30 m31 hw => ?_)
    obtain ⟨k32, hw⟩ := hw
    exact hret _ _ _ _ _ _ dX5_readInto_30 k32 h30 m31 hw
theorem ydX4_cellCount : yX4_cellCount.cls = RX4 ∧ yX4_cellCount.cls ≠ "java/lang/invoke/MethodHandle" ∧ yX4_cellCount.cls ≠ "java/lang/invoke/VarHandle" ∧ (parseMethodDescriptor yX4_cellCount.desc).map (fun d => d.parameters.length) = some 0 := by decide +kernel
def vX4_cellCount : List Cond := Cond.code yX4_cellCount cX4_cellCount 1 (some .int) :: bG
set_option maxHeartbeats 4000000 in
set_option maxRecDepth 100000 in
theorem kcX4_cellCount {l : Launch} {D : va_G} {E : cE} {p : Nat} {I : cI} {R : cR} (hm : cM I R) (hp : isP p) {Q : Int → cI → cR → Prop} (hw : wX4_cellCount p I R Q) : gM l D E cIds yX4_cellCount vX4_cellCount (rmK 1 (0) (0)) [.ref (E.1 p)] (cef E (I, R)) (cef E) (pI Q) (0) (0) := by
  unfold wX4_cellCount at hw
  refine k_ofW (own := RX4) (cc := cX4_cellCount) (maxL := 1) (ret := (some .int)) (lv := [(0, .ref (E.1 p))]) (by decide) rfl rfl (Nat.le_of_ble_eq_true rfl) rfl ?_
  intro X hl hR hN hD F K
  subst hl; subst hD
  have hret := mk_rI (Q := Q) F K
  refine q_aload_n F 0 dX4_cellCount_0 rfl rfl ?_
  refine t_g_Puzzle_columns F (kP0 hp) ib4 wd165 dX4_cellCount_1 ?_
  refine q_aload_n F 0 dX4_cellCount_4 rfl rfl ?_
  refine t_g_Puzzle_rows F (kP0 hp) ib4 wd169 dX4_cellCount_5 ?_
  refine q_imul F dX4_cellCount_8 ?_
  obtain ⟨k1, hw⟩ := hw
  exact hret _ _ _ _ _ _ dX4_cellCount_9 k1 hm hw
theorem ydX6_begin : yX6_begin.cls = RX6 ∧ yX6_begin.cls ≠ "java/lang/invoke/MethodHandle" ∧ yX6_begin.cls ≠ "java/lang/invoke/VarHandle" ∧ (parseMethodDescriptor yX6_begin.desc).map (fun d => d.parameters.length) = some 1 := by decide +kernel
def vX6_begin : List Cond := Cond.code yX6_begin cX6_begin 4 none :: bG
set_option maxHeartbeats 4000000 in
set_option maxRecDepth 100000 in
theorem bX6_begin_12 {X : xC} {E : cE} (F : mF X E RX6 cX6_begin bG) (hR : X.1.2.2.2 = rmK 2 (0) (0)) (hN : X.2.2.1.2.2.2 = 4) {Q : cI → cR → Prop} (hret : rV X E cX6_begin (0) (0) Q) {a1 : Nat} (ha1 : isP a1) : ∀ n12 : Nat, ∀ (x2 : Int) (I : cI) (R : cR), inR x2 → cM I R → wX6_begin_12 Q a1 n12 x2 I R → cW X (0) (0) 12 [(0, .ref (E.1 80)), (1, .ref (E.1 a1)), (2, iV x2)] [] (gw E.1 cIds (cef E (I, R)) ++ []) := by
  intro n12
  induction n12 with
  | zero => intro x2 I R hx2 hm hw; exact hw.elim
  | succ n12 ih =>
    intro x2 I R hx2 hm hw
    change wbX6_begin_12 Q a1 (wX6_begin_12 Q a1 n12) x2 I R at hw
    unfold wbX6_begin_12 at hw
    refine q_iload_n F 2 dX6_begin_12 rfl rfl ?_
    refine q_aload_n F 1 dX6_begin_13 rfl rfl ?_
    refine q_Vi F (kcX4_cellCount hm ha1 hw) (cIds_in (kP0 ha1).2) (cePuzzle (kP0 ha1).1) (ci := 2) rfl (bV wd403 wd404 wd405 wd9 wd406) rfl ⟨rfl, rfl⟩ ydX4_cellCount (rmK_le hR (by omega) (by decide)) (av := []) rfl rfl (Nat.le_of_ble_eq_true rfl) dX6_begin_14 (rmK_cs hR (by omega) (by omega)) (fun r1 I2 R3 h4 m5 hw => ?_)
    refine q_icmp_ge F hx2 h4 59 dX6_begin_17 (by decide) (fun hc => ?_) (fun hc => ?_)
    · have hw := hw.1 hc
      exact hret _ _ _ _ _ dX6_begin_59 m5 hw
    · have hw := hw.2 hc
      refine q_aload_n F 1 dX6_begin_20 rfl rfl ?_
      refine t_g_Puzzle_grid F (kP0 ha1) ib4 wd181 (a1 + 1) rfl dX6_begin_21 ?_
      refine q_iload_n F 2 dX6_begin_24 rfl rfl ?_
      obtain ⟨k6, hw⟩ := hw
      refine t_ald F 25 (kP1 ha1) k6 (by decide) dX6_begin_25 ?_
      obtain ⟨z7, e8⟩ := ex1 ((I2 (a1 + 1) x2))
      have hw := hw z7 e8
      have hz7 : inR z7 := by rw [e8]; exact (m5.1 _ _)
      refine q_top e8 ?_
      refine q_istore_n (lv' := [(0, .ref (E.1 80)), (1, .ref (E.1 a1)), (2, iV x2), (3, iV z7)]) F [1, 2, 3, 0] dX6_begin_26 rfl (q_n hN (by decide)) rfl ?_
      refine q_aload_n F 0 dX6_begin_27 rfl rfl ?_
      refine t_g_Reasoner_sets F (by decide) ib6 wd104 81 rfl dX6_begin_28 ?_
      refine q_iload_n F 2 dX6_begin_31 rfl rfl ?_
      refine q_iload_n F 3 dX6_begin_32 rfl rfl ?_
      refine q_if_ne F hz7 47 dX6_begin_33 (by decide) (fun hc => ?_) (fun hc => ?_)
      · have hw := hw.1 hc
        refine q_iconst F dX6_begin_47 ?_
        refine q_iload_n F 3 dX6_begin_48 rfl rfl ?_
        refine q_iconst F dX6_begin_49 ?_
        refine q_isub F dX6_begin_50 ?_
        refine q_ishl F dX6_begin_51 ?_
        obtain ⟨k9, hw⟩ := hw
        obtain ⟨I10, e11⟩ := ex1 (up2 I2 81 x2 ((iShl 1 ((z7 - 1)))))
        have hw := hw I10 e11
        have m12 : cM I10 R3 := cM_I m5 e11 (ti_rng _)
        refine t_ast F 25 kA_81 k9 (by decide) e11 dX6_begin_52 ?_
        obtain ⟨k15, hw⟩ := hw
        obtain ⟨z13, e14⟩ := ex1 (x2 + 1)
        have hw := hw z13 e14
        have hz13 : inR z13 := by rw [e14]; exact k15
        refine q_iinc (lv' := [(0, .ref (E.1 80)), (1, .ref (E.1 a1)), (2, iV z13), (3, iV z7)]) F 2 [1, 2, 0, 3] dX6_begin_53 rfl (q_n hN (by decide)) e14.symm rfl ?_
        refine q_goto F 12 dX6_begin_56 (by decide) ?_
        refine q_lv [0, 1, 2] rfl ?_
        exact ih z13 I10 R3 hz13 m12 hw
      · have hw := hw.2 hc
        refine q_iconst F dX6_begin_36 ?_
        refine q_aload_n F 1 dX6_begin_37 rfl rfl ?_
        refine t_g_Puzzle_highest F (kP0 ha1) ib4 wd176 dX6_begin_38 ?_
        refine q_ishl F dX6_begin_41 ?_
        refine q_iconst F dX6_begin_42 ?_
        refine q_isub F dX6_begin_43 ?_
        refine q_goto F 52 dX6_begin_44 (by decide) ?_
        obtain ⟨k16, hw⟩ := hw
        obtain ⟨k17, hw⟩ := hw
        obtain ⟨I18, e19⟩ := ex1 (up2 I2 81 x2 (((iShl 1 ((I2 a1 2))) - 1)))
        have hw := hw I18 e19
        have m20 : cM I18 R3 := cM_I m5 e19 k16
        refine t_ast F 25 kA_81 k17 (by decide) e19 dX6_begin_52 ?_
        obtain ⟨k23, hw⟩ := hw
        obtain ⟨z21, e22⟩ := ex1 (x2 + 1)
        have hw := hw z21 e22
        have hz21 : inR z21 := by rw [e22]; exact k23
        refine q_iinc (lv' := [(0, .ref (E.1 80)), (1, .ref (E.1 a1)), (2, iV z21), (3, iV z7)]) F 2 [1, 2, 0, 3] dX6_begin_53 rfl (q_n hN (by decide)) e22.symm rfl ?_
        refine q_goto F 12 dX6_begin_56 (by decide) ?_
        refine q_lv [0, 1, 2] rfl ?_
        exact ih z21 I18 R3 hz21 m20 hw
set_option maxHeartbeats 4000000 in
set_option maxRecDepth 100000 in
theorem kcX6_begin {l : Launch} {D : va_G} {E : cE} {a1 : Nat} {I : cI} {R : cR} (hm : cM I R) (ha1 : isP a1) {Q : cI → cR → Prop} (hw : wX6_begin a1 I R Q) : gM l D E cIds yX6_begin vX6_begin (rmK 2 (0) (0)) [.ref (E.1 80), .ref (E.1 a1)] (cef E (I, R)) (cef E) (pV Q) (0) (0) := by
  unfold wX6_begin at hw
  refine k_ofW (own := RX6) (cc := cX6_begin) (maxL := 4) (ret := none) (lv := [(0, .ref (E.1 80)), (1, .ref (E.1 a1))]) (by decide) rfl rfl (Nat.le_of_ble_eq_true rfl) rfl ?_
  intro X hl hR hN hD F K
  subst hl; subst hD
  have hret := mk_rV (Q := Q) F K
  refine q_aload_n F 0 dX6_begin_0 rfl rfl ?_
  refine q_iconst F dX6_begin_1 ?_
  obtain ⟨I1, e2⟩ := ex1 (up2 I 80 1 0)
  have hw := hw I1 e2
  have m3 : cM I1 R := cM_I hm e2 (⟨by decide, by decide⟩ : inR (0))
  refine t_p_Reasoner_passes F (by decide) ib6 wd106 e2 dX6_begin_2 ?_
  refine q_aload_n F 0 dX6_begin_5 rfl rfl ?_
  refine q_iconst F dX6_begin_6 ?_
  obtain ⟨I4, e5⟩ := ex1 (up2 I1 80 2 0)
  have hw := hw I4 e5
  have m6 : cM I4 R := cM_I m3 e5 (⟨by decide, by decide⟩ : inR (0))
  refine t_p_Reasoner_greatestGrade F (by decide) ib6 wd108 e5 dX6_begin_7 ?_
  refine q_iconst F dX6_begin_10 ?_
  refine q_istore_n (lv' := [(0, .ref (E.1 80)), (1, .ref (E.1 a1)), (2, iV 0)]) F [1, 2, 0] dX6_begin_11 rfl (q_n hN (by decide)) rfl ?_
  obtain ⟨n7, hw⟩ := hw
  exact bX6_begin_12 F hR hN hret ha1 n7 0 I4 R (⟨by decide, by decide⟩ : inR (0)) m6 hw
theorem ydX11_takeDraft : yX11_takeDraft.cls = RX11 ∧ yX11_takeDraft.cls ≠ "java/lang/invoke/MethodHandle" ∧ yX11_takeDraft.cls ≠ "java/lang/invoke/VarHandle" ∧ (parseMethodDescriptor yX11_takeDraft.desc).map (fun d => d.parameters.length) = some 0 := by decide +kernel
def vX11_takeDraft : List Cond := Cond.code yX11_takeDraft cX11_takeDraft 2 none :: bG
set_option maxHeartbeats 4000000 in
set_option maxRecDepth 100000 in
theorem kcX11_takeDraft {l : Launch} {D : va_G} {E : cE} {I : cI} {R : cR} (hm : cM I R)  {Q : cI → cR → Prop} (hw : wX11_takeDraft  I R Q) : gM l D E cIds yX11_takeDraft vX11_takeDraft (rmK 3 (0) (0)) [.ref (E.1 0)] (cef E (I, R)) (cef E) (pV Q) (0) (0) := by
  unfold wX11_takeDraft at hw
  refine k_ofW (own := RX11) (cc := cX11_takeDraft) (maxL := 2) (ret := none) (lv := [(0, .ref (E.1 0))]) (by decide) rfl rfl (Nat.le_of_ble_eq_true rfl) rfl ?_
  intro X hl hR hN hD F K
  subst hl; subst hD
  have hret := mk_rV (Q := Q) F K
  refine q_aload_n F 0 dX11_takeDraft_0 rfl rfl ?_
  refine t_g_Mill_puzzle F (by decide) ib11 wd201 dX11_takeDraft_1 ?_
  refine q_astore_n (lv' := [(0, .ref (E.1 0)), (1, .ref (E.1 ((R 0 7))))]) F [1, 0] dX11_takeDraft_4 rfl (q_n hN (by decide)) rfl ?_
  refine q_aload_n F 0 dX11_takeDraft_5 rfl rfl ?_
  refine q_aload_n F 0 dX11_takeDraft_6 rfl rfl ?_
  refine t_g_Mill_draft F (by decide) ib11 wd202 dX11_takeDraft_7 ?_
  obtain ⟨R1, e2⟩ := ex1 (up2 R 0 7 ((R 0 8)))
  have hw := hw R1 e2
  have m3 : cM I R1 := cM_puz hm (hm.2.2.1) (Or.inl rfl) e2
  refine t_p_Mill_puzzle F (by decide) ib11 wd201 e2 dX11_takeDraft_10 ?_
  refine q_aload_n F 0 dX11_takeDraft_13 rfl rfl ?_
  refine q_aload_n F 1 dX11_takeDraft_14 rfl rfl ?_
  obtain ⟨R4, e5⟩ := ex1 (up2 R1 0 8 ((R 0 7)))
  have hw := hw R4 e5
  have m6 : cM I R4 := cM_puz m3 (hm.2.1) (Or.inr rfl) e5
  refine t_p_Mill_draft F (by decide) ib11 wd202 e5 dX11_takeDraft_15 ?_
  refine q_aload_n F 0 dX11_takeDraft_18 rfl rfl ?_
  refine t_g_Mill_kept F (by decide) ib11 wd197 dX11_takeDraft_19 ?_
  refine q_iconst F dX11_takeDraft_22 ?_
  obtain ⟨I7, e8⟩ := ex1 (up2 I 10 1 0)
  have hw := hw I7 e8
  have m9 : cM I7 R4 := cM_I m6 e8 (⟨by decide, by decide⟩ : inR (0))
  refine t_p_Search_found F (kS0 (Or.inl rfl)) ib8 wd89 e8 dX11_takeDraft_23 ?_
  refine q_aload_n F 0 dX11_takeDraft_26 rfl rfl ?_
  refine t_g_Mill_reasoner F (by decide) ib11 wd199 dX11_takeDraft_27 ?_
  refine q_aload_n F 0 dX11_takeDraft_30 rfl rfl ?_
  refine t_g_Mill_puzzle F (by decide) ib11 wd201 dX11_takeDraft_31 ?_
  refine q_Vv F (kcX6_begin m9 (m9.2.1) hw) (cIds_in (show ckd 80 = 4 ∧ 80 < 353 by decide).2) (ceReasoner (show ckd 80 = 4 ∧ 80 < 353 by decide).1) (ci := 4) rfl (bV wd399 wd400 wd401 wd7 wd402) rfl ⟨rfl, rfl⟩ ydX6_begin (rmK_le hR (by omega) (by decide)) (av := [.ref (E.1 ((R4 0 7)))]) rfl rfl (Nat.le_of_ble_eq_true rfl) dX11_takeDraft_34 (rmK_cs hR (by omega) (by omega)) (fun I11 R12 m14 hw => ?_)
  exact hret _ _ _ _ _ dX11_takeDraft_37 m14 hw
theorem ydX11_compile : yX11_compile.cls = RX11 ∧ yX11_compile.cls ≠ "java/lang/invoke/MethodHandle" ∧ yX11_compile.cls ≠ "java/lang/invoke/VarHandle" ∧ (parseMethodDescriptor yX11_compile.desc).map (fun d => d.parameters.length) = some 0 := by decide +kernel
def vX11_compile : List Cond := Cond.code yX11_compile cX11_compile 1 (some .int) :: bG
set_option maxHeartbeats 4000000 in
set_option maxRecDepth 100000 in
theorem bX11_compile_22 {X : xC} {E : cE} (F : mF X E RX11 cX11_compile bG) (hR : X.1.2.2.2 = rmK 10 (0) (0)) (hN : X.2.2.1.2.2.2 = 1) {Q : Int → cI → cR → Prop} (hret : rI X E cX11_compile (0) (0) Q)   : ∀ (I : cI) (R : cR), cM I R → wX11_compile_22 Q I R → cW X (0) (0) 22 [(0, .ref (E.1 0))] [] (gw E.1 cIds (cef E (I, R)) ++ []) := by
  intro I R hm hw
  unfold wX11_compile_22 at hw
  refine q_aload_n F 0 dX11_compile_22 rfl rfl ?_
  refine t_g_Mill_tape F (by decide) ib11 wd194 dX11_compile_23 ?_
  refine q_iconst F dX11_compile_26 ?_
  obtain ⟨I1, e2⟩ := ex1 (up2 I 1 0 0)
  have hw := hw I1 e2
  have m3 : cM I1 R := cM_I hm e2 (⟨by decide, by decide⟩ : inR (0))
  refine t_p_Tape_length F (by decide) ib9 wd40 e2 dX11_compile_27 ?_
  refine q_aload_n F 0 dX11_compile_30 rfl rfl ?_
  refine t_g_Mill_reader F (by decide) ib11 wd195 dX11_compile_31 ?_
  refine t_g_Reader_error F (by decide) ib5 wd63 dX11_compile_34 ?_
  exact hret _ _ _ _ _ _ dX11_compile_37 (m3.1 _ _) m3 hw
set_option maxHeartbeats 4000000 in
set_option maxRecDepth 100000 in
theorem kcX11_compile {l : Launch} {D : va_G} {E : cE} {I : cI} {R : cR} (hm : cM I R)  {Q : Int → cI → cR → Prop} (hw : wX11_compile  I R Q) : gM l D E cIds yX11_compile vX11_compile (rmK 10 (0) (0)) [.ref (E.1 0)] (cef E (I, R)) (cef E) (pI Q) (0) (0) := by
  unfold wX11_compile at hw
  refine k_ofW (own := RX11) (cc := cX11_compile) (maxL := 1) (ret := (some .int)) (lv := [(0, .ref (E.1 0))]) (by decide) rfl rfl (Nat.le_of_ble_eq_true rfl) rfl ?_
  intro X hl hR hN hD F K
  subst hl; subst hD
  have hret := mk_rI (Q := Q) F K
  refine q_aload_n F 0 dX11_compile_0 rfl rfl ?_
  refine t_g_Mill_reader F (by decide) ib11 wd195 dX11_compile_1 ?_
  refine q_aload_n F 0 dX11_compile_4 rfl rfl ?_
  refine t_g_Mill_draft F (by decide) ib11 wd202 dX11_compile_5 ?_
  refine q_aload_n F 0 dX11_compile_8 rfl rfl ?_
  refine t_g_Mill_tape F (by decide) ib11 wd194 dX11_compile_9 ?_
  refine q_Vi F (kcX5_readInto hm (hm.2.2.1) hw) (cIds_in (show ckd 3 = 3 ∧ 3 < 353 by decide).2) (ceReader (show ckd 3 = 3 ∧ 3 < 353 by decide).1) (ci := 3) rfl (bV wd207 wd208 wd209 wd3 wd210) rfl ⟨rfl, rfl⟩ ydX5_readInto (rmK_le hR (by omega) (by decide)) (av := [.ref (E.1 ((R 0 8))), .ref (E.1 1)]) rfl rfl (Nat.le_of_ble_eq_true rfl) dX11_compile_12 (rmK_cs hR (by omega) (by omega)) (fun r1 I2 R3 h4 m5 hw => ?_)
  refine q_if_eq F h4 22 dX11_compile_15 (by decide) (fun hc => ?_) (fun hc => ?_)
  · have hw := hw.1 hc
    exact bX11_compile_22 F hR hN hret I2 R3 m5 hw
  · have hw := hw.2 hc
    refine q_aload_n F 0 dX11_compile_18 rfl rfl ?_
    refine q_Vv F (kcX11_takeDraft m5 hw) (cIds_in (show ckd 0 = 9 ∧ 0 < 353 by decide).2) (ceMill (show ckd 0 = 9 ∧ 0 < 353 by decide).1) (ci := 9) rfl (bV wd396 wd397 wd894 wd1 wd398) rfl ⟨rfl, rfl⟩ ydX11_takeDraft (rmK_le hR (by omega) (by decide)) (av := []) rfl rfl (Nat.le_of_ble_eq_true rfl) dX11_compile_19 (rmK_cs hR (by omega) (by omega)) (fun I7 R8 m10 hw => ?_)
    exact bX11_compile_22 F hR hN hret I7 R8 m10 hw
theorem ydX4_countGivens : yX4_countGivens.cls = RX4 ∧ yX4_countGivens.cls ≠ "java/lang/invoke/MethodHandle" ∧ yX4_countGivens.cls ≠ "java/lang/invoke/VarHandle" ∧ (parseMethodDescriptor yX4_countGivens.desc).map (fun d => d.parameters.length) = some 0 := by decide +kernel
def vX4_countGivens : List Cond := Cond.code yX4_countGivens cX4_countGivens 3 (some .int) :: bG
set_option maxHeartbeats 4000000 in
set_option maxRecDepth 100000 in
theorem bX4_countGivens_4 {X : xC} {E : cE} (F : mF X E RX4 cX4_countGivens bG) (hR : X.1.2.2.2 = rmK 1 (0) (0)) (hN : X.2.2.1.2.2.2 = 3) {Q : Int → cI → cR → Prop} (hret : rI X E cX4_countGivens (0) (0) Q) {p : Nat} (hp : isP p) : ∀ n4 : Nat, ∀ (x1 : Int) (x2 : Int) (I : cI) (R : cR), inR x1 → inR x2 → cM I R → wX4_countGivens_4 Q p n4 x1 x2 I R → cW X (0) (0) 4 [(0, .ref (E.1 p)), (1, iV x1), (2, iV x2)] [] (gw E.1 cIds (cef E (I, R)) ++ []) := by
  intro n4
  induction n4 with
  | zero => intro x1 x2 I R hx1 hx2 hm hw; exact hw.elim
  | succ n4 ih =>
    intro x1 x2 I R hx1 hx2 hm hw
    change wbX4_countGivens_4 Q p (wX4_countGivens_4 Q p n4) x1 x2 I R at hw
    unfold wbX4_countGivens_4 at hw
    refine q_iload_n F 2 dX4_countGivens_4 rfl rfl ?_
    refine q_aload_n F 0 dX4_countGivens_5 rfl rfl ?_
    refine t_g_Puzzle_ruleCount F (kP0 hp) ib4 wd188 dX4_countGivens_6 ?_
    refine q_icmp_ge F hx2 (hm.1 _ _) 36 dX4_countGivens_9 (by decide) (fun hc => ?_) (fun hc => ?_)
    · have hw := hw.1 hc
      refine q_iload_n F 1 dX4_countGivens_36 rfl rfl ?_
      exact hret _ _ _ _ _ _ dX4_countGivens_37 hx1 hm hw
    · have hw := hw.2 hc
      refine q_aload_n F 0 dX4_countGivens_12 rfl rfl ?_
      refine t_g_Puzzle_rules F (kP0 hp) ib4 wd184 (p + 2) rfl dX4_countGivens_13 ?_
      refine q_iload_n F 2 dX4_countGivens_16 rfl rfl ?_
      obtain ⟨k1, hw⟩ := hw
      refine t_rld F (kP2 hp) k1 dX4_countGivens_17 ?_
      refine t_g_Rule_kind F (kR0 (hm.2.2.2.1 _ hp _ k1)) ib7 wd146 dX4_countGivens_18 ?_
      refine q_gs F (sZ_IS F) wd416 rfl dX4_countGivens_21 ?_
      refine q_acne F (hm.2.2.2.2 _ (hm.2.2.2.1 _ hp _ k1)) (by decide) 30 dX4_countGivens_24 (by decide) (fun hc => ?_) (fun hc => ?_)
      · have hw := hw.1 hc
        obtain ⟨k4, hw⟩ := hw
        obtain ⟨z2, e3⟩ := ex1 (x2 + 1)
        have hw := hw z2 e3
        have hz2 : inR z2 := by rw [e3]; exact k4
        refine q_iinc (lv' := [(0, .ref (E.1 p)), (1, iV x1), (2, iV z2)]) F 2 [1, 2, 0] dX4_countGivens_30 rfl (q_n hN (by decide)) e3.symm rfl ?_
        refine q_goto F 4 dX4_countGivens_33 (by decide) ?_
        exact ih x1 z2 I R hx1 hz2 hm hw
      · have hw := hw.2 hc
        obtain ⟨k7, hw⟩ := hw
        obtain ⟨z5, e6⟩ := ex1 (x1 + 1)
        have hw := hw z5 e6
        have hz5 : inR z5 := by rw [e6]; exact k7
        refine q_iinc (lv' := [(0, .ref (E.1 p)), (1, iV z5), (2, iV x2)]) F 1 [1, 0, 2] dX4_countGivens_27 rfl (q_n hN (by decide)) e6.symm rfl ?_
        obtain ⟨k10, hw⟩ := hw
        obtain ⟨z8, e9⟩ := ex1 (x2 + 1)
        have hw := hw z8 e9
        have hz8 : inR z8 := by rw [e9]; exact k10
        refine q_iinc (lv' := [(0, .ref (E.1 p)), (1, iV z5), (2, iV z8)]) F 2 [1, 2, 0] dX4_countGivens_30 rfl (q_n hN (by decide)) e9.symm rfl ?_
        refine q_goto F 4 dX4_countGivens_33 (by decide) ?_
        exact ih z5 z8 I R hz5 hz8 hm hw
set_option maxHeartbeats 4000000 in
set_option maxRecDepth 100000 in
theorem kcX4_countGivens {l : Launch} {D : va_G} {E : cE} {p : Nat} {I : cI} {R : cR} (hm : cM I R) (hp : isP p) {Q : Int → cI → cR → Prop} (hw : wX4_countGivens p I R Q) : gM l D E cIds yX4_countGivens vX4_countGivens (rmK 1 (0) (0)) [.ref (E.1 p)] (cef E (I, R)) (cef E) (pI Q) (0) (0) := by
  unfold wX4_countGivens at hw
  refine k_ofW (own := RX4) (cc := cX4_countGivens) (maxL := 3) (ret := (some .int)) (lv := [(0, .ref (E.1 p))]) (by decide) rfl rfl (Nat.le_of_ble_eq_true rfl) rfl ?_
  intro X hl hR hN hD F K
  subst hl; subst hD
  have hret := mk_rI (Q := Q) F K
  refine q_iconst F dX4_countGivens_0 ?_
  refine q_istore_n (lv' := [(0, .ref (E.1 p)), (1, iV 0)]) F [1, 0] dX4_countGivens_1 rfl (q_n hN (by decide)) rfl ?_
  refine q_iconst F dX4_countGivens_2 ?_
  refine q_istore_n (lv' := [(0, .ref (E.1 p)), (1, iV 0), (2, iV 0)]) F [1, 2, 0] dX4_countGivens_3 rfl (q_n hN (by decide)) rfl ?_
  obtain ⟨n1, hw⟩ := hw
  exact bX4_countGivens_4 F hR hN hret hp n1 0 0 I R (⟨by decide, by decide⟩ : inR (0)) (⟨by decide, by decide⟩ : inR (0)) hm hw
theorem ydX4_countFilled : yX4_countFilled.cls = RX4 ∧ yX4_countFilled.cls ≠ "java/lang/invoke/MethodHandle" ∧ yX4_countFilled.cls ≠ "java/lang/invoke/VarHandle" ∧ (parseMethodDescriptor yX4_countFilled.desc).map (fun d => d.parameters.length) = some 0 := by decide +kernel
def vX4_countFilled : List Cond := Cond.code yX4_countFilled cX4_countFilled 3 (some .int) :: bG
set_option maxHeartbeats 4000000 in
set_option maxRecDepth 100000 in
theorem bX4_countFilled_4 {X : xC} {E : cE} (F : mF X E RX4 cX4_countFilled bG) (hR : X.1.2.2.2 = rmK 2 (0) (0)) (hN : X.2.2.1.2.2.2 = 3) {Q : Int → cI → cR → Prop} (hret : rI X E cX4_countFilled (0) (0) Q) {p : Nat} (hp : isP p) : ∀ n4 : Nat, ∀ (x1 : Int) (x2 : Int) (I : cI) (R : cR), inR x1 → inR x2 → cM I R → wX4_countFilled_4 Q p n4 x1 x2 I R → cW X (0) (0) 4 [(0, .ref (E.1 p)), (1, iV x1), (2, iV x2)] [] (gw E.1 cIds (cef E (I, R)) ++ []) := by
  intro n4
  induction n4 with
  | zero => intro x1 x2 I R hx1 hx2 hm hw; exact hw.elim
  | succ n4 ih =>
    intro x1 x2 I R hx1 hx2 hm hw
    change wbX4_countFilled_4 Q p (wX4_countFilled_4 Q p n4) x1 x2 I R at hw
    unfold wbX4_countFilled_4 at hw
    refine q_iload_n F 2 dX4_countFilled_4 rfl rfl ?_
    refine q_aload_n F 0 dX4_countFilled_5 rfl rfl ?_
    refine q_Vi F (kcX4_cellCount hm hp hw) (cIds_in (kP0 hp).2) (cePuzzle (kP0 hp).1) (ci := 2) rfl (bV wd421 wd404 wd405 wd9 wd406) rfl ⟨rfl, rfl⟩ ydX4_cellCount (rmK_le hR (by omega) (by decide)) (av := []) rfl rfl (Nat.le_of_ble_eq_true rfl) dX4_countFilled_6 (rmK_cs hR (by omega) (by omega)) (fun r1 I2 R3 h4 m5 hw => ?_)
    refine q_icmp_ge F hx2 h4 30 dX4_countFilled_9 (by decide) (fun hc => ?_) (fun hc => ?_)
    · have hw := hw.1 hc
      refine q_iload_n F 1 dX4_countFilled_30 rfl rfl ?_
      exact hret _ _ _ _ _ _ dX4_countFilled_31 hx1 m5 hw
    · have hw := hw.2 hc
      refine q_aload_n F 0 dX4_countFilled_12 rfl rfl ?_
      refine t_g_Puzzle_grid F (kP0 hp) ib4 wd180 (p + 1) rfl dX4_countFilled_13 ?_
      refine q_iload_n F 2 dX4_countFilled_16 rfl rfl ?_
      obtain ⟨k6, hw⟩ := hw
      refine t_ald F 25 (kP1 hp) k6 (by decide) dX4_countFilled_17 ?_
      refine q_if_eq F (m5.1 _ _) 24 dX4_countFilled_18 (by decide) (fun hc => ?_) (fun hc => ?_)
      · have hw := hw.1 hc
        obtain ⟨k9, hw⟩ := hw
        obtain ⟨z7, e8⟩ := ex1 (x2 + 1)
        have hw := hw z7 e8
        have hz7 : inR z7 := by rw [e8]; exact k9
        refine q_iinc (lv' := [(0, .ref (E.1 p)), (1, iV x1), (2, iV z7)]) F 2 [1, 2, 0] dX4_countFilled_24 rfl (q_n hN (by decide)) e8.symm rfl ?_
        refine q_goto F 4 dX4_countFilled_27 (by decide) ?_
        exact ih x1 z7 I2 R3 hx1 hz7 m5 hw
      · have hw := hw.2 hc
        obtain ⟨k12, hw⟩ := hw
        obtain ⟨z10, e11⟩ := ex1 (x1 + 1)
        have hw := hw z10 e11
        have hz10 : inR z10 := by rw [e11]; exact k12
        refine q_iinc (lv' := [(0, .ref (E.1 p)), (1, iV z10), (2, iV x2)]) F 1 [1, 0, 2] dX4_countFilled_21 rfl (q_n hN (by decide)) e11.symm rfl ?_
        obtain ⟨k15, hw⟩ := hw
        obtain ⟨z13, e14⟩ := ex1 (x2 + 1)
        have hw := hw z13 e14
        have hz13 : inR z13 := by rw [e14]; exact k15
        refine q_iinc (lv' := [(0, .ref (E.1 p)), (1, iV z10), (2, iV z13)]) F 2 [1, 2, 0] dX4_countFilled_24 rfl (q_n hN (by decide)) e14.symm rfl ?_
        refine q_goto F 4 dX4_countFilled_27 (by decide) ?_
        exact ih z10 z13 I2 R3 hz10 hz13 m5 hw
set_option maxHeartbeats 4000000 in
set_option maxRecDepth 100000 in
theorem kcX4_countFilled {l : Launch} {D : va_G} {E : cE} {p : Nat} {I : cI} {R : cR} (hm : cM I R) (hp : isP p) {Q : Int → cI → cR → Prop} (hw : wX4_countFilled p I R Q) : gM l D E cIds yX4_countFilled vX4_countFilled (rmK 2 (0) (0)) [.ref (E.1 p)] (cef E (I, R)) (cef E) (pI Q) (0) (0) := by
  unfold wX4_countFilled at hw
  refine k_ofW (own := RX4) (cc := cX4_countFilled) (maxL := 3) (ret := (some .int)) (lv := [(0, .ref (E.1 p))]) (by decide) rfl rfl (Nat.le_of_ble_eq_true rfl) rfl ?_
  intro X hl hR hN hD F K
  subst hl; subst hD
  have hret := mk_rI (Q := Q) F K
  refine q_iconst F dX4_countFilled_0 ?_
  refine q_istore_n (lv' := [(0, .ref (E.1 p)), (1, iV 0)]) F [1, 0] dX4_countFilled_1 rfl (q_n hN (by decide)) rfl ?_
  refine q_iconst F dX4_countFilled_2 ?_
  refine q_istore_n (lv' := [(0, .ref (E.1 p)), (1, iV 0), (2, iV 0)]) F [1, 2, 0] dX4_countFilled_3 rfl (q_n hN (by decide)) rfl ?_
  obtain ⟨n1, hw⟩ := hw
  exact bX4_countFilled_4 F hR hN hret hp n1 0 0 I R (⟨by decide, by decide⟩ : inR (0)) (⟨by decide, by decide⟩ : inR (0)) hm hw
theorem ydX7_hasPair : yX7_hasPair.cls = RX7 ∧ yX7_hasPair.cls ≠ "java/lang/invoke/MethodHandle" ∧ yX7_hasPair.cls ≠ "java/lang/invoke/VarHandle" ∧ (parseMethodDescriptor yX7_hasPair.desc).map (fun d => d.parameters.length) = some 2 := by decide +kernel
def vX7_hasPair : List Cond := Cond.code yX7_hasPair cX7_hasPair 7 (some .boolean) :: bG
set_option maxHeartbeats 4000000 in
set_option maxRecDepth 100000 in
theorem bX7_hasPair_62 {X : xC} {E : cE} (F : mF X E RX7 cX7_hasPair bG) (hR : X.1.2.2.2 = rmK 1 (0) (0)) (hN : X.2.2.1.2.2.2 = 7) {Q : Int → cI → cR → Prop} (hret : rZ X E cX7_hasPair (0) (0) Q) {r0 : Nat} {a1 : Nat} {a2 : Int} (hr0 : isR r0) (ha1 : isA 25 a1) (ha2 : inR a2) {K2 : Int → cI → cR → Prop} {K23 : Int → Int → Int → cI → cR → Prop} (hK2 : ∀ (x3 : Int) (I : cI) (R : cR), inR x3 → cM I R → K2 x3 I R → cW X (0) (0) 2 [(0, .ref (E.1 r0)), (1, .ref (E.1 a1)), (2, iV a2), (3, iV x3)] [] (gw E.1 cIds (cef E (I, R)) ++ [])) (hK23 : ∀ (x3 : Int) (x4 : Int) (x5 : Int) (I : cI) (R : cR), inR x3 → inR x4 → inR x5 → cM I R → K23 x3 x4 x5 I R → cW X (0) (0) 23 [(0, .ref (E.1 r0)), (1, .ref (E.1 a1)), (2, iV a2), (3, iV x3), (4, iV x4), (5, iV x5)] [] (gw E.1 cIds (cef E (I, R)) ++ [])) : ∀ (x3 : Int) (x4 : Int) (x5 : Int) (y0 : Int) (I : cI) (R : cR), inR x3 → inR x4 → inR x5 → inR y0 → cM I R → wX7_hasPair_62 Q r0 a1 a2 K2 K23 x3 x4 x5 y0 I R → cW X (0) (0) 62 [(0, .ref (E.1 r0)), (1, .ref (E.1 a1)), (2, iV a2), (3, iV x3), (4, iV x4), (5, iV x5)] [iV y0] (gw E.1 cIds (cef E (I, R)) ++ []) := by
  intro x3 x4 x5 y0 I R hx3 hx4 hx5 hy0 hm hw
  unfold wX7_hasPair_62 at hw
  refine q_iload_n F 2 dX7_hasPair_62 rfl rfl ?_
  refine q_icmp_ne F hy0 ha2 68 dX7_hasPair_63 (by decide) (fun hc => ?_) (fun hc => ?_)
  · have hw := hw.1 hc
    obtain ⟨k3, hw⟩ := hw
    obtain ⟨z1, e2⟩ := ex1 (x5 + 1)
    have hw := hw z1 e2
    have hz1 : inR z1 := by rw [e2]; exact k3
    refine q_iinc (lv' := [(0, .ref (E.1 r0)), (1, .ref (E.1 a1)), (2, iV a2), (3, iV x3), (4, iV x4), (5, iV z1)]) F 5 [1, 2, 3, 4, 5, 0] dX7_hasPair_68 rfl (q_n hN (by decide)) e2.symm rfl ?_
    refine q_goto F 23 dX7_hasPair_71 (by decide) ?_
    exact hK23 x3 x4 z1 I R hx3 hx4 hz1 hm hw
  · have hw := hw.2 hc
    refine q_iconst F dX7_hasPair_66 ?_
    exact hret _ _ _ _ _ _ dX7_hasPair_67 (Or.inr rfl) (⟨by decide, by decide⟩ : inR (1)) hm hw
set_option maxHeartbeats 4000000 in
set_option maxRecDepth 100000 in
theorem bX7_hasPair_23 {X : xC} {E : cE} (F : mF X E RX7 cX7_hasPair bG) (hR : X.1.2.2.2 = rmK 1 (0) (0)) (hN : X.2.2.1.2.2.2 = 7) {Q : Int → cI → cR → Prop} (hret : rZ X E cX7_hasPair (0) (0) Q) {r0 : Nat} {a1 : Nat} {a2 : Int} (hr0 : isR r0) (ha1 : isA 25 a1) (ha2 : inR a2) {K2 : Int → cI → cR → Prop} (hK2 : ∀ (x3 : Int) (I : cI) (R : cR), inR x3 → cM I R → K2 x3 I R → cW X (0) (0) 2 [(0, .ref (E.1 r0)), (1, .ref (E.1 a1)), (2, iV a2), (3, iV x3)] [] (gw E.1 cIds (cef E (I, R)) ++ [])) : ∀ n23 : Nat, ∀ (x3 : Int) (x4 : Int) (x5 : Int) (I : cI) (R : cR), inR x3 → inR x4 → inR x5 → cM I R → wX7_hasPair_23 Q r0 a1 a2 K2 n23 x3 x4 x5 I R → cW X (0) (0) 23 [(0, .ref (E.1 r0)), (1, .ref (E.1 a1)), (2, iV a2), (3, iV x3), (4, iV x4), (5, iV x5)] [] (gw E.1 cIds (cef E (I, R)) ++ []) := by
  intro n23
  induction n23 with
  | zero => intro x3 x4 x5 I R hx3 hx4 hx5 hm hw; exact hw.elim
  | succ n23 ih =>
    intro x3 x4 x5 I R hx3 hx4 hx5 hm hw
    change wbX7_hasPair_23 Q r0 a1 a2 K2 (wX7_hasPair_23 Q r0 a1 a2 K2 n23) x3 x4 x5 I R at hw
    unfold wbX7_hasPair_23 at hw
    refine q_iload F 5 dX7_hasPair_23 rfl ?_
    refine q_iload_n F 3 dX7_hasPair_25 rfl rfl ?_
    refine q_icmp_ge F hx5 hx3 74 dX7_hasPair_26 (by decide) (fun hc => ?_) (fun hc => ?_)
    · have hw := hw.1 hc
      obtain ⟨k3, hw⟩ := hw
      obtain ⟨z1, e2⟩ := ex1 (x3 + 1)
      have hw := hw z1 e2
      have hz1 : inR z1 := by rw [e2]; exact k3
      refine q_iinc (lv' := [(0, .ref (E.1 r0)), (1, .ref (E.1 a1)), (2, iV a2), (3, iV z1), (4, iV x4), (5, iV x5)]) F 3 [1, 2, 3, 0, 4, 5] dX7_hasPair_74 rfl (q_n hN (by decide)) e2.symm rfl ?_
      refine q_goto F 2 dX7_hasPair_77 (by decide) ?_
      refine q_lv [0, 1, 2, 3] rfl ?_
      exact hK2 z1 I R hz1 hm hw
    · have hw := hw.2 hc
      refine q_iload F 4 dX7_hasPair_29 rfl ?_
      refine q_if_eq F hx4 74 dX7_hasPair_31 (by decide) (fun hc => ?_) (fun hc => ?_)
      · have hw := hw.1 hc
        obtain ⟨k6, hw⟩ := hw
        obtain ⟨z4, e5⟩ := ex1 (x3 + 1)
        have hw := hw z4 e5
        have hz4 : inR z4 := by rw [e5]; exact k6
        refine q_iinc (lv' := [(0, .ref (E.1 r0)), (1, .ref (E.1 a1)), (2, iV a2), (3, iV z4), (4, iV x4), (5, iV x5)]) F 3 [1, 2, 3, 0, 4, 5] dX7_hasPair_74 rfl (q_n hN (by decide)) e5.symm rfl ?_
        refine q_goto F 2 dX7_hasPair_77 (by decide) ?_
        refine q_lv [0, 1, 2, 3] rfl ?_
        exact hK2 z4 I R hz4 hm hw
      · have hw := hw.2 hc
        refine q_aload_n F 1 dX7_hasPair_34 rfl rfl ?_
        refine q_aload_n F 0 dX7_hasPair_35 rfl rfl ?_
        refine t_g_Rule_cells F (kR0 hr0) ib7 wd161 (r0 + 130) rfl dX7_hasPair_36 ?_
        refine q_iload F 5 dX7_hasPair_39 rfl ?_
        obtain ⟨k7, hw⟩ := hw
        refine t_ald F 5 (kR4 hr0) k7 (by decide) dX7_hasPair_41 ?_
        obtain ⟨k8, hw⟩ := hw
        refine t_ald F 25 ha1 k8 (by decide) dX7_hasPair_42 ?_
        obtain ⟨z9, e10⟩ := ex1 ((I a1 ((I (r0 + 130) x5))))
        have hw := hw z9 e10
        have hz9 : inR z9 := by rw [e10]; exact (hm.1 _ _)
        refine q_top e10 ?_
        refine q_istore (lv' := [(0, .ref (E.1 r0)), (1, .ref (E.1 a1)), (2, iV a2), (3, iV x3), (4, iV x4), (5, iV x5), (6, iV z9)]) F [1, 2, 3, 4, 5, 6, 0] dX7_hasPair_43 (q_n hN (by decide)) rfl ?_
        refine q_iload F 6 dX7_hasPair_45 rfl ?_
        refine q_if_eq F hz9 68 dX7_hasPair_47 (by decide) (fun hc => ?_) (fun hc => ?_)
        · have hw := hw.1 hc
          obtain ⟨k13, hw⟩ := hw
          obtain ⟨z11, e12⟩ := ex1 (x5 + 1)
          have hw := hw z11 e12
          have hz11 : inR z11 := by rw [e12]; exact k13
          refine q_iinc (lv' := [(0, .ref (E.1 r0)), (1, .ref (E.1 a1)), (2, iV a2), (3, iV x3), (4, iV x4), (5, iV z11), (6, iV z9)]) F 5 [1, 2, 3, 4, 5, 0, 6] dX7_hasPair_68 rfl (q_n hN (by decide)) e12.symm rfl ?_
          refine q_goto F 23 dX7_hasPair_71 (by decide) ?_
          refine q_lv [0, 1, 2, 3, 4, 5] rfl ?_
          exact ih x3 x4 z11 I R hx3 hx4 hz11 hm hw
        · have hw := hw.2 hc
          refine q_iload F 6 dX7_hasPair_50 rfl ?_
          refine q_iload F 4 dX7_hasPair_52 rfl ?_
          refine q_icmp_ne F hz9 hx4 61 dX7_hasPair_54 (by decide) (fun hc => ?_) (fun hc => ?_)
          · have hw := hw.1 hc
            refine q_iconst F dX7_hasPair_61 ?_
            refine q_lv [0, 1, 2, 3, 4, 5] rfl ?_
            exact bX7_hasPair_62 F hR hN hret hr0 ha1 ha2 hK2 ih x3 x4 x5 0 I R hx3 hx4 hx5 (⟨by decide, by decide⟩ : inR (0)) hm hw
          · have hw := hw.2 hc
            refine q_iconst F dX7_hasPair_57 ?_
            refine q_goto F 62 dX7_hasPair_58 (by decide) ?_
            refine q_lv [0, 1, 2, 3, 4, 5] rfl ?_
            exact bX7_hasPair_62 F hR hN hret hr0 ha1 ha2 hK2 ih x3 x4 x5 1 I R hx3 hx4 hx5 (⟨by decide, by decide⟩ : inR (1)) hm hw
set_option maxHeartbeats 4000000 in
set_option maxRecDepth 100000 in
theorem bX7_hasPair_2 {X : xC} {E : cE} (F : mF X E RX7 cX7_hasPair bG) (hR : X.1.2.2.2 = rmK 1 (0) (0)) (hN : X.2.2.1.2.2.2 = 7) {Q : Int → cI → cR → Prop} (hret : rZ X E cX7_hasPair (0) (0) Q) {r0 : Nat} {a1 : Nat} {a2 : Int} (hr0 : isR r0) (ha1 : isA 25 a1) (ha2 : inR a2) : ∀ n2 : Nat, ∀ (x3 : Int) (I : cI) (R : cR), inR x3 → cM I R → wX7_hasPair_2 Q r0 a1 a2 n2 x3 I R → cW X (0) (0) 2 [(0, .ref (E.1 r0)), (1, .ref (E.1 a1)), (2, iV a2), (3, iV x3)] [] (gw E.1 cIds (cef E (I, R)) ++ []) := by
  intro n2
  induction n2 with
  | zero => intro x3 I R hx3 hm hw; exact hw.elim
  | succ n2 ih =>
    intro x3 I R hx3 hm hw
    change wbX7_hasPair_2 Q r0 a1 a2 (wX7_hasPair_2 Q r0 a1 a2 n2) x3 I R at hw
    unfold wbX7_hasPair_2 at hw
    refine q_iload_n F 3 dX7_hasPair_2 rfl rfl ?_
    refine q_aload_n F 0 dX7_hasPair_3 rfl rfl ?_
    refine t_g_Rule_size F (kR0 hr0) ib7 wd156 dX7_hasPair_4 ?_
    refine q_icmp_ge F hx3 (hm.1 _ _) 80 dX7_hasPair_7 (by decide) (fun hc => ?_) (fun hc => ?_)
    · have hw := hw.1 hc
      refine q_iconst F dX7_hasPair_80 ?_
      exact hret _ _ _ _ _ _ dX7_hasPair_81 (Or.inl rfl) (⟨by decide, by decide⟩ : inR (0)) hm hw
    · have hw := hw.2 hc
      refine q_aload_n F 1 dX7_hasPair_10 rfl rfl ?_
      refine q_aload_n F 0 dX7_hasPair_11 rfl rfl ?_
      refine t_g_Rule_cells F (kR0 hr0) ib7 wd161 (r0 + 130) rfl dX7_hasPair_12 ?_
      refine q_iload_n F 3 dX7_hasPair_15 rfl rfl ?_
      obtain ⟨k1, hw⟩ := hw
      refine t_ald F 5 (kR4 hr0) k1 (by decide) dX7_hasPair_16 ?_
      obtain ⟨k2, hw⟩ := hw
      refine t_ald F 25 ha1 k2 (by decide) dX7_hasPair_17 ?_
      obtain ⟨z3, e4⟩ := ex1 ((I a1 ((I (r0 + 130) x3))))
      have hw := hw z3 e4
      have hz3 : inR z3 := by rw [e4]; exact (hm.1 _ _)
      refine q_top e4 ?_
      refine q_istore (lv' := [(0, .ref (E.1 r0)), (1, .ref (E.1 a1)), (2, iV a2), (3, iV x3), (4, iV z3)]) F [1, 2, 3, 4, 0] dX7_hasPair_18 (q_n hN (by decide)) rfl ?_
      refine q_iconst F dX7_hasPair_20 ?_
      refine q_istore (lv' := [(0, .ref (E.1 r0)), (1, .ref (E.1 a1)), (2, iV a2), (3, iV x3), (4, iV z3), (5, iV 0)]) F [1, 2, 3, 4, 5, 0] dX7_hasPair_21 (q_n hN (by decide)) rfl ?_
      obtain ⟨n5, hw⟩ := hw
      exact bX7_hasPair_23 F hR hN hret hr0 ha1 ha2 ih n5 x3 z3 0 I R hx3 hz3 (⟨by decide, by decide⟩ : inR (0)) hm hw
set_option maxHeartbeats 4000000 in
set_option maxRecDepth 100000 in
theorem kcX7_hasPair {l : Launch} {D : va_G} {E : cE} {r0 : Nat} {a1 : Nat} {a2 : Int} {I : cI} {R : cR} (hm : cM I R) (hr0 : isR r0) (ha1 : isA 25 a1) (ha2 : inR a2) {Q : Int → cI → cR → Prop} (hw : wX7_hasPair r0 a1 a2 I R Q) : gM l D E cIds yX7_hasPair vX7_hasPair (rmK 1 (0) (0)) [.ref (E.1 r0), .ref (E.1 a1), iV a2] (cef E (I, R)) (cef E) (pI Q) (0) (0) := by
  unfold wX7_hasPair at hw
  refine k_ofW (own := RX7) (cc := cX7_hasPair) (maxL := 7) (ret := (some .boolean)) (lv := [(0, .ref (E.1 r0)), (1, .ref (E.1 a1)), (2, iV a2)]) (by decide) rfl rfl (Nat.le_of_ble_eq_true rfl) rfl ?_
  intro X hl hR hN hD F K
  subst hl; subst hD
  have hret := mk_rZ (Q := Q) F K
  refine q_iconst F dX7_hasPair_0 ?_
  refine q_istore_n (lv' := [(0, .ref (E.1 r0)), (1, .ref (E.1 a1)), (2, iV a2), (3, iV 1)]) F [1, 2, 3, 0] dX7_hasPair_1 rfl (q_n hN (by decide)) rfl ?_
  obtain ⟨n1, hw⟩ := hw
  exact bX7_hasPair_2 F hR hN hret hr0 ha1 ha2 n1 1 I R (⟨by decide, by decide⟩ : inR (1)) hm hw
theorem ydX7_breaksSum : yX7_breaksSum.cls = RX7 ∧ yX7_breaksSum.cls ≠ "java/lang/invoke/MethodHandle" ∧ yX7_breaksSum.cls ≠ "java/lang/invoke/VarHandle" ∧ (parseMethodDescriptor yX7_breaksSum.desc).map (fun d => d.parameters.length) = some 2 := by decide +kernel
def vX7_breaksSum : List Cond := Cond.code yX7_breaksSum cX7_breaksSum 7 (some .boolean) :: bG
set_option maxHeartbeats 4000000 in
set_option maxRecDepth 100000 in
theorem bX7_breaksSum_8 {X : xC} {E : cE} (F : mF X E RX7 cX7_breaksSum bG) (hR : X.1.2.2.2 = rmK 1 (0) (0)) (hN : X.2.2.1.2.2.2 = 7) {Q : Int → cI → cR → Prop} (hret : rZ X E cX7_breaksSum (0) (0) Q) {r0 : Nat} {a1 : Nat} {a2 : Int} (hr0 : isR r0) (ha1 : isA 25 a1) (ha2 : inR a2) : ∀ n8 : Nat, ∀ (x3 : Int) (x4 : Int) (x5 : Int) (I : cI) (R : cR), inR x3 → inR x4 → inR x5 → cM I R → wX7_breaksSum_8 Q r0 a1 a2 n8 x3 x4 x5 I R → cW X (0) (0) 8 [(0, .ref (E.1 r0)), (1, .ref (E.1 a1)), (2, iV a2), (3, iV x3), (4, iV x4), (5, iV x5)] [] (gw E.1 cIds (cef E (I, R)) ++ []) := by
  intro n8
  induction n8 with
  | zero => intro x3 x4 x5 I R hx3 hx4 hx5 hm hw; exact hw.elim
  | succ n8 ih =>
    intro x3 x4 x5 I R hx3 hx4 hx5 hm hw
    change wbX7_breaksSum_8 Q r0 a1 a2 (wX7_breaksSum_8 Q r0 a1 a2 n8) x3 x4 x5 I R at hw
    unfold wbX7_breaksSum_8 at hw
    refine q_iload F 5 dX7_breaksSum_8 rfl ?_
    refine q_aload_n F 0 dX7_breaksSum_10 rfl rfl ?_
    refine t_g_Rule_size F (kR0 hr0) ib7 wd156 dX7_breaksSum_11 ?_
    refine q_icmp_ge F hx5 (hm.1 _ _) 47 dX7_breaksSum_14 (by decide) (fun hc => ?_) (fun hc => ?_)
    · have hw := hw.1 hc
      refine q_iload_n F 3 dX7_breaksSum_47 rfl rfl ?_
      refine q_iload F 4 dX7_breaksSum_48 rfl ?_
      refine q_iadd F dX7_breaksSum_50 ?_
      refine q_aload_n F 0 dX7_breaksSum_51 rfl rfl ?_
      refine t_g_Rule_number F (kR0 hr0) ib7 wd147 dX7_breaksSum_52 ?_
      obtain ⟨k1, hw⟩ := hw
      refine q_icmp_gt F k1 (hm.1 _ _) 71 dX7_breaksSum_55 (by decide) (fun hc => ?_) (fun hc => ?_)
      · have hw := hw.1 hc
        refine q_iconst F dX7_breaksSum_71 ?_
        refine q_goto F 76 dX7_breaksSum_72 (by decide) ?_
        exact hret _ _ _ _ _ _ dX7_breaksSum_76 (Or.inr rfl) (⟨by decide, by decide⟩ : inR (1)) hm hw
      · have hw := hw.2 hc
        refine q_iload_n F 3 dX7_breaksSum_58 rfl rfl ?_
        refine q_iload_n F 2 dX7_breaksSum_59 rfl rfl ?_
        refine q_iload F 4 dX7_breaksSum_60 rfl ?_
        refine q_imul F dX7_breaksSum_62 ?_
        refine q_iadd F dX7_breaksSum_63 ?_
        refine q_aload_n F 0 dX7_breaksSum_64 rfl rfl ?_
        refine t_g_Rule_number F (kR0 hr0) ib7 wd147 dX7_breaksSum_65 ?_
        obtain ⟨k2, hw⟩ := hw
        refine q_icmp_ge F k2 (hm.1 _ _) 75 dX7_breaksSum_68 (by decide) (fun hc => ?_) (fun hc => ?_)
        · have hw := hw.1 hc
          refine q_iconst F dX7_breaksSum_75 ?_
          exact hret _ _ _ _ _ _ dX7_breaksSum_76 (Or.inl rfl) (⟨by decide, by decide⟩ : inR (0)) hm hw
        · have hw := hw.2 hc
          refine q_iconst F dX7_breaksSum_71 ?_
          refine q_goto F 76 dX7_breaksSum_72 (by decide) ?_
          exact hret _ _ _ _ _ _ dX7_breaksSum_76 (Or.inr rfl) (⟨by decide, by decide⟩ : inR (1)) hm hw
    · have hw := hw.2 hc
      refine q_aload_n F 1 dX7_breaksSum_17 rfl rfl ?_
      refine q_aload_n F 0 dX7_breaksSum_18 rfl rfl ?_
      refine t_g_Rule_cells F (kR0 hr0) ib7 wd161 (r0 + 130) rfl dX7_breaksSum_19 ?_
      refine q_iload F 5 dX7_breaksSum_22 rfl ?_
      obtain ⟨k3, hw⟩ := hw
      refine t_ald F 5 (kR4 hr0) k3 (by decide) dX7_breaksSum_24 ?_
      obtain ⟨k4, hw⟩ := hw
      refine t_ald F 25 ha1 k4 (by decide) dX7_breaksSum_25 ?_
      obtain ⟨z5, e6⟩ := ex1 ((I a1 ((I (r0 + 130) x5))))
      have hw := hw z5 e6
      have hz5 : inR z5 := by rw [e6]; exact (hm.1 _ _)
      refine q_top e6 ?_
      refine q_istore (lv' := [(0, .ref (E.1 r0)), (1, .ref (E.1 a1)), (2, iV a2), (3, iV x3), (4, iV x4), (5, iV x5), (6, iV z5)]) F [1, 2, 3, 4, 5, 6, 0] dX7_breaksSum_26 (q_n hN (by decide)) rfl ?_
      refine q_iload_n F 3 dX7_breaksSum_28 rfl rfl ?_
      refine q_iload F 6 dX7_breaksSum_29 rfl ?_
      refine q_iadd F dX7_breaksSum_31 ?_
      obtain ⟨k7, hw⟩ := hw
      obtain ⟨z8, e9⟩ := ex1 ((x3 + z5))
      have hw := hw z8 e9
      have hz8 : inR z8 := by rw [e9]; exact k7
      refine q_top e9 ?_
      refine q_istore_n (lv' := [(0, .ref (E.1 r0)), (1, .ref (E.1 a1)), (2, iV a2), (3, iV z8), (4, iV x4), (5, iV x5), (6, iV z5)]) F [1, 2, 3, 0, 4, 5, 6] dX7_breaksSum_32 rfl (q_n hN (by decide)) rfl ?_
      refine q_iload F 6 dX7_breaksSum_33 rfl ?_
      refine q_if_ne F hz5 41 dX7_breaksSum_35 (by decide) (fun hc => ?_) (fun hc => ?_)
      · have hw := hw.1 hc
        obtain ⟨k12, hw⟩ := hw
        obtain ⟨z10, e11⟩ := ex1 (x5 + 1)
        have hw := hw z10 e11
        have hz10 : inR z10 := by rw [e11]; exact k12
        refine q_iinc (lv' := [(0, .ref (E.1 r0)), (1, .ref (E.1 a1)), (2, iV a2), (3, iV z8), (4, iV x4), (5, iV z10), (6, iV z5)]) F 5 [1, 2, 3, 4, 5, 0, 6] dX7_breaksSum_41 rfl (q_n hN (by decide)) e11.symm rfl ?_
        refine q_goto F 8 dX7_breaksSum_44 (by decide) ?_
        refine q_lv [0, 1, 2, 3, 4, 5] rfl ?_
        exact ih z8 x4 z10 I R hz8 hx4 hz10 hm hw
      · have hw := hw.2 hc
        obtain ⟨k15, hw⟩ := hw
        obtain ⟨z13, e14⟩ := ex1 (x4 + 1)
        have hw := hw z13 e14
        have hz13 : inR z13 := by rw [e14]; exact k15
        refine q_iinc (lv' := [(0, .ref (E.1 r0)), (1, .ref (E.1 a1)), (2, iV a2), (3, iV z8), (4, iV z13), (5, iV x5), (6, iV z5)]) F 4 [1, 2, 3, 4, 0, 5, 6] dX7_breaksSum_38 rfl (q_n hN (by decide)) e14.symm rfl ?_
        obtain ⟨k18, hw⟩ := hw
        obtain ⟨z16, e17⟩ := ex1 (x5 + 1)
        have hw := hw z16 e17
        have hz16 : inR z16 := by rw [e17]; exact k18
        refine q_iinc (lv' := [(0, .ref (E.1 r0)), (1, .ref (E.1 a1)), (2, iV a2), (3, iV z8), (4, iV z13), (5, iV z16), (6, iV z5)]) F 5 [1, 2, 3, 4, 5, 0, 6] dX7_breaksSum_41 rfl (q_n hN (by decide)) e17.symm rfl ?_
        refine q_goto F 8 dX7_breaksSum_44 (by decide) ?_
        refine q_lv [0, 1, 2, 3, 4, 5] rfl ?_
        exact ih z8 z13 z16 I R hz8 hz13 hz16 hm hw
set_option maxHeartbeats 4000000 in
set_option maxRecDepth 100000 in
theorem kcX7_breaksSum {l : Launch} {D : va_G} {E : cE} {r0 : Nat} {a1 : Nat} {a2 : Int} {I : cI} {R : cR} (hm : cM I R) (hr0 : isR r0) (ha1 : isA 25 a1) (ha2 : inR a2) {Q : Int → cI → cR → Prop} (hw : wX7_breaksSum r0 a1 a2 I R Q) : gM l D E cIds yX7_breaksSum vX7_breaksSum (rmK 1 (0) (0)) [.ref (E.1 r0), .ref (E.1 a1), iV a2] (cef E (I, R)) (cef E) (pI Q) (0) (0) := by
  unfold wX7_breaksSum at hw
  refine k_ofW (own := RX7) (cc := cX7_breaksSum) (maxL := 7) (ret := (some .boolean)) (lv := [(0, .ref (E.1 r0)), (1, .ref (E.1 a1)), (2, iV a2)]) (by decide) rfl rfl (Nat.le_of_ble_eq_true rfl) rfl ?_
  intro X hl hR hN hD F K
  subst hl; subst hD
  have hret := mk_rZ (Q := Q) F K
  refine q_iconst F dX7_breaksSum_0 ?_
  refine q_istore_n (lv' := [(0, .ref (E.1 r0)), (1, .ref (E.1 a1)), (2, iV a2), (3, iV 0)]) F [1, 2, 3, 0] dX7_breaksSum_1 rfl (q_n hN (by decide)) rfl ?_
  refine q_iconst F dX7_breaksSum_2 ?_
  refine q_istore (lv' := [(0, .ref (E.1 r0)), (1, .ref (E.1 a1)), (2, iV a2), (3, iV 0), (4, iV 0)]) F [1, 2, 3, 4, 0] dX7_breaksSum_3 (q_n hN (by decide)) rfl ?_
  refine q_iconst F dX7_breaksSum_5 ?_
  refine q_istore (lv' := [(0, .ref (E.1 r0)), (1, .ref (E.1 a1)), (2, iV a2), (3, iV 0), (4, iV 0), (5, iV 0)]) F [1, 2, 3, 4, 5, 0] dX7_breaksSum_6 (q_n hN (by decide)) rfl ?_
  obtain ⟨n1, hw⟩ := hw
  exact bX7_breaksSum_8 F hR hN hret hr0 ha1 ha2 n1 0 0 0 I R (⟨by decide, by decide⟩ : inR (0)) (⟨by decide, by decide⟩ : inR (0)) (⟨by decide, by decide⟩ : inR (0)) hm hw
theorem ydX7_breaksProduct : yX7_breaksProduct.cls = RX7 ∧ yX7_breaksProduct.cls ≠ "java/lang/invoke/MethodHandle" ∧ yX7_breaksProduct.cls ≠ "java/lang/invoke/VarHandle" ∧ (parseMethodDescriptor yX7_breaksProduct.desc).map (fun d => d.parameters.length) = some 1 := by decide +kernel
def vX7_breaksProduct : List Cond := Cond.code yX7_breaksProduct cX7_breaksProduct 6 (some .boolean) :: bG
set_option maxHeartbeats 4000000 in
set_option maxRecDepth 100000 in
theorem bX7_breaksProduct_7 {X : xC} {E : cE} (F : mF X E RX7 cX7_breaksProduct bG) (hR : X.1.2.2.2 = rmK 1 (0) (0)) (hN : X.2.2.1.2.2.2 = 6) {Q : Int → cI → cR → Prop} (hret : rZ X E cX7_breaksProduct (0) (0) Q) {r0 : Nat} {a1 : Nat} (hr0 : isR r0) (ha1 : isA 25 a1) : ∀ n7 : Nat, ∀ (x2 : Int) (x3 : Int) (x4 : Int) (I : cI) (R : cR), inR x2 → inR x3 → inR x4 → cM I R → wX7_breaksProduct_7 Q r0 a1 n7 x2 x3 x4 I R → cW X (0) (0) 7 [(0, .ref (E.1 r0)), (1, .ref (E.1 a1)), (2, iV x2), (3, iV x3), (4, iV x4)] [] (gw E.1 cIds (cef E (I, R)) ++ []) := by
  intro n7
  induction n7 with
  | zero => intro x2 x3 x4 I R hx2 hx3 hx4 hm hw; exact hw.elim
  | succ n7 ih =>
    intro x2 x3 x4 I R hx2 hx3 hx4 hm hw
    change wbX7_breaksProduct_7 Q r0 a1 (wX7_breaksProduct_7 Q r0 a1 n7) x2 x3 x4 I R at hw
    unfold wbX7_breaksProduct_7 at hw
    refine q_iload F 4 dX7_breaksProduct_7 rfl ?_
    refine q_aload_n F 0 dX7_breaksProduct_9 rfl rfl ?_
    refine t_g_Rule_size F (kR0 hr0) ib7 wd156 dX7_breaksProduct_10 ?_
    refine q_icmp_ge F hx4 (hm.1 _ _) 48 dX7_breaksProduct_13 (by decide) (fun hc => ?_) (fun hc => ?_)
    · have hw := hw.1 hc
      refine q_iload_n F 2 dX7_breaksProduct_48 rfl rfl ?_
      refine q_iconst F dX7_breaksProduct_49 ?_
      refine q_icmp_lt F hx2 (⟨by decide, by decide⟩ : inR (1)) 62 dX7_breaksProduct_50 (by decide) (fun hc => ?_) (fun hc => ?_)
      · have hw := hw.1 hc
        refine q_iconst F dX7_breaksProduct_62 ?_
        exact hret _ _ _ _ _ _ dX7_breaksProduct_63 (Or.inr rfl) (⟨by decide, by decide⟩ : inR (1)) hm hw
      · have hw := hw.2 hc
        refine q_aload_n F 0 dX7_breaksProduct_53 rfl rfl ?_
        refine t_g_Rule_number F (kR0 hr0) ib7 wd147 dX7_breaksProduct_54 ?_
        refine q_iload_n F 2 dX7_breaksProduct_57 rfl rfl ?_
        obtain ⟨k1, hw⟩ := hw
        refine q_irem F ⟨⟨k1.1, ((hm.1 _ _)).2⟩, k1.2, (hx2).2⟩ dX7_breaksProduct_58 ?_
        obtain ⟨k2, hw⟩ := hw
        refine q_if_eq F k2 64 dX7_breaksProduct_59 (by decide) (fun hc => ?_) (fun hc => ?_)
        · have hw := hw.1 hc
          refine q_iload_n F 3 dX7_breaksProduct_64 rfl rfl ?_
          refine q_if_ne F hx3 80 dX7_breaksProduct_65 (by decide) (fun hc => ?_) (fun hc => ?_)
          · have hw := hw.1 hc
            refine q_iconst F dX7_breaksProduct_80 ?_
            exact hret _ _ _ _ _ _ dX7_breaksProduct_81 (Or.inl rfl) (⟨by decide, by decide⟩ : inR (0)) hm hw
          · have hw := hw.2 hc
            refine q_iload_n F 2 dX7_breaksProduct_68 rfl rfl ?_
            refine q_aload_n F 0 dX7_breaksProduct_69 rfl rfl ?_
            refine t_g_Rule_number F (kR0 hr0) ib7 wd147 dX7_breaksProduct_70 ?_
            refine q_icmp_eq F hx2 (hm.1 _ _) 80 dX7_breaksProduct_73 (by decide) (fun hc => ?_) (fun hc => ?_)
            · have hw := hw.1 hc
              refine q_iconst F dX7_breaksProduct_80 ?_
              exact hret _ _ _ _ _ _ dX7_breaksProduct_81 (Or.inl rfl) (⟨by decide, by decide⟩ : inR (0)) hm hw
            · have hw := hw.2 hc
              refine q_iconst F dX7_breaksProduct_76 ?_
              refine q_goto F 81 dX7_breaksProduct_77 (by decide) ?_
              exact hret _ _ _ _ _ _ dX7_breaksProduct_81 (Or.inr rfl) (⟨by decide, by decide⟩ : inR (1)) hm hw
        · have hw := hw.2 hc
          refine q_iconst F dX7_breaksProduct_62 ?_
          exact hret _ _ _ _ _ _ dX7_breaksProduct_63 (Or.inr rfl) (⟨by decide, by decide⟩ : inR (1)) hm hw
    · have hw := hw.2 hc
      refine q_aload_n F 1 dX7_breaksProduct_16 rfl rfl ?_
      refine q_aload_n F 0 dX7_breaksProduct_17 rfl rfl ?_
      refine t_g_Rule_cells F (kR0 hr0) ib7 wd161 (r0 + 130) rfl dX7_breaksProduct_18 ?_
      refine q_iload F 4 dX7_breaksProduct_21 rfl ?_
      obtain ⟨k3, hw⟩ := hw
      refine t_ald F 5 (kR4 hr0) k3 (by decide) dX7_breaksProduct_23 ?_
      obtain ⟨k4, hw⟩ := hw
      refine t_ald F 25 ha1 k4 (by decide) dX7_breaksProduct_24 ?_
      obtain ⟨z5, e6⟩ := ex1 ((I a1 ((I (r0 + 130) x4))))
      have hw := hw z5 e6
      have hz5 : inR z5 := by rw [e6]; exact (hm.1 _ _)
      refine q_top e6 ?_
      refine q_istore (lv' := [(0, .ref (E.1 r0)), (1, .ref (E.1 a1)), (2, iV x2), (3, iV x3), (4, iV x4), (5, iV z5)]) F [1, 2, 3, 4, 5, 0] dX7_breaksProduct_25 (q_n hN (by decide)) rfl ?_
      refine q_iload F 5 dX7_breaksProduct_27 rfl ?_
      refine q_if_le F hz5 40 dX7_breaksProduct_29 (by decide) (fun hc => ?_) (fun hc => ?_)
      · have hw := hw.1 hc
        refine q_iconst F dX7_breaksProduct_40 ?_
        refine q_istore_n (lv' := [(0, .ref (E.1 r0)), (1, .ref (E.1 a1)), (2, iV x2), (3, iV 1), (4, iV x4), (5, iV z5)]) F [1, 2, 3, 0, 4, 5] dX7_breaksProduct_41 rfl (q_n hN (by decide)) rfl ?_
        obtain ⟨k9, hw⟩ := hw
        obtain ⟨z7, e8⟩ := ex1 (x4 + 1)
        have hw := hw z7 e8
        have hz7 : inR z7 := by rw [e8]; exact k9
        refine q_iinc (lv' := [(0, .ref (E.1 r0)), (1, .ref (E.1 a1)), (2, iV x2), (3, iV 1), (4, iV z7), (5, iV z5)]) F 4 [1, 2, 3, 4, 0, 5] dX7_breaksProduct_42 rfl (q_n hN (by decide)) e8.symm rfl ?_
        refine q_goto F 7 dX7_breaksProduct_45 (by decide) ?_
        refine q_lv [0, 1, 2, 3, 4] rfl ?_
        exact ih x2 1 z7 I R hx2 (⟨by decide, by decide⟩ : inR (1)) hz7 hm hw
      · have hw := hw.2 hc
        refine q_iload_n F 2 dX7_breaksProduct_32 rfl rfl ?_
        refine q_iload F 5 dX7_breaksProduct_33 rfl ?_
        refine q_imul F dX7_breaksProduct_35 ?_
        obtain ⟨k10, hw⟩ := hw
        obtain ⟨z11, e12⟩ := ex1 ((x2 * z5))
        have hw := hw z11 e12
        have hz11 : inR z11 := by rw [e12]; exact k10
        refine q_top e12 ?_
        refine q_istore_n (lv' := [(0, .ref (E.1 r0)), (1, .ref (E.1 a1)), (2, iV z11), (3, iV x3), (4, iV x4), (5, iV z5)]) F [1, 2, 0, 3, 4, 5] dX7_breaksProduct_36 rfl (q_n hN (by decide)) rfl ?_
        refine q_goto F 42 dX7_breaksProduct_37 (by decide) ?_
        obtain ⟨k15, hw⟩ := hw
        obtain ⟨z13, e14⟩ := ex1 (x4 + 1)
        have hw := hw z13 e14
        have hz13 : inR z13 := by rw [e14]; exact k15
        refine q_iinc (lv' := [(0, .ref (E.1 r0)), (1, .ref (E.1 a1)), (2, iV z11), (3, iV x3), (4, iV z13), (5, iV z5)]) F 4 [1, 2, 3, 4, 0, 5] dX7_breaksProduct_42 rfl (q_n hN (by decide)) e14.symm rfl ?_
        refine q_goto F 7 dX7_breaksProduct_45 (by decide) ?_
        refine q_lv [0, 1, 2, 3, 4] rfl ?_
        exact ih z11 x3 z13 I R hz11 hx3 hz13 hm hw
set_option maxHeartbeats 4000000 in
set_option maxRecDepth 100000 in
theorem kcX7_breaksProduct {l : Launch} {D : va_G} {E : cE} {r0 : Nat} {a1 : Nat} {I : cI} {R : cR} (hm : cM I R) (hr0 : isR r0) (ha1 : isA 25 a1) {Q : Int → cI → cR → Prop} (hw : wX7_breaksProduct r0 a1 I R Q) : gM l D E cIds yX7_breaksProduct vX7_breaksProduct (rmK 1 (0) (0)) [.ref (E.1 r0), .ref (E.1 a1)] (cef E (I, R)) (cef E) (pI Q) (0) (0) := by
  unfold wX7_breaksProduct at hw
  refine k_ofW (own := RX7) (cc := cX7_breaksProduct) (maxL := 6) (ret := (some .boolean)) (lv := [(0, .ref (E.1 r0)), (1, .ref (E.1 a1))]) (by decide) rfl rfl (Nat.le_of_ble_eq_true rfl) rfl ?_
  intro X hl hR hN hD F K
  subst hl; subst hD
  have hret := mk_rZ (Q := Q) F K
  refine q_iconst F dX7_breaksProduct_0 ?_
  refine q_istore_n (lv' := [(0, .ref (E.1 r0)), (1, .ref (E.1 a1)), (2, iV 1)]) F [1, 2, 0] dX7_breaksProduct_1 rfl (q_n hN (by decide)) rfl ?_
  refine q_iconst F dX7_breaksProduct_2 ?_
  refine q_istore_n (lv' := [(0, .ref (E.1 r0)), (1, .ref (E.1 a1)), (2, iV 1), (3, iV 0)]) F [1, 2, 3, 0] dX7_breaksProduct_3 rfl (q_n hN (by decide)) rfl ?_
  refine q_iconst F dX7_breaksProduct_4 ?_
  refine q_istore (lv' := [(0, .ref (E.1 r0)), (1, .ref (E.1 a1)), (2, iV 1), (3, iV 0), (4, iV 0)]) F [1, 2, 3, 4, 0] dX7_breaksProduct_5 (q_n hN (by decide)) rfl ?_
  obtain ⟨n1, hw⟩ := hw
  exact bX7_breaksProduct_7 F hR hN hret hr0 ha1 n1 1 0 0 I R (⟨by decide, by decide⟩ : inR (1)) (⟨by decide, by decide⟩ : inR (0)) (⟨by decide, by decide⟩ : inR (0)) hm hw
theorem ydX7_breaksOrder : yX7_breaksOrder.cls = RX7 ∧ yX7_breaksOrder.cls ≠ "java/lang/invoke/MethodHandle" ∧ yX7_breaksOrder.cls ≠ "java/lang/invoke/VarHandle" ∧ (parseMethodDescriptor yX7_breaksOrder.desc).map (fun d => d.parameters.length) = some 1 := by decide +kernel
def vX7_breaksOrder : List Cond := Cond.code yX7_breaksOrder cX7_breaksOrder 6 (some .boolean) :: bG
set_option maxHeartbeats 4000000 in
set_option maxRecDepth 100000 in
theorem bX7_breaksOrder_22 {X : xC} {E : cE} (F : mF X E RX7 cX7_breaksOrder bG) (hR : X.1.2.2.2 = rmK 1 (0) (0)) (hN : X.2.2.1.2.2.2 = 6) {Q : Int → cI → cR → Prop} (hret : rZ X E cX7_breaksOrder (0) (0) Q) {r0 : Nat} {a1 : Nat} (hr0 : isR r0) (ha1 : isA 25 a1) {K2 : Int → cI → cR → Prop} (hK2 : ∀ (x2 : Int) (I : cI) (R : cR), inR x2 → cM I R → K2 x2 I R → cW X (0) (0) 2 [(0, .ref (E.1 r0)), (1, .ref (E.1 a1)), (2, iV x2)] [] (gw E.1 cIds (cef E (I, R)) ++ [])) : ∀ n22 : Nat, ∀ (x2 : Int) (x3 : Int) (x4 : Int) (I : cI) (R : cR), inR x2 → inR x3 → inR x4 → cM I R → wX7_breaksOrder_22 Q r0 a1 K2 n22 x2 x3 x4 I R → cW X (0) (0) 22 [(0, .ref (E.1 r0)), (1, .ref (E.1 a1)), (2, iV x2), (3, iV x3), (4, iV x4)] [] (gw E.1 cIds (cef E (I, R)) ++ []) := by
  intro n22
  induction n22 with
  | zero => intro x2 x3 x4 I R hx2 hx3 hx4 hm hw; exact hw.elim
  | succ n22 ih =>
    intro x2 x3 x4 I R hx2 hx3 hx4 hm hw
    change wbX7_breaksOrder_22 Q r0 a1 K2 (wX7_breaksOrder_22 Q r0 a1 K2 n22) x2 x3 x4 I R at hw
    unfold wbX7_breaksOrder_22 at hw
    refine q_iload F 4 dX7_breaksOrder_22 rfl ?_
    refine q_iload_n F 2 dX7_breaksOrder_24 rfl rfl ?_
    refine q_icmp_ge F hx4 hx2 67 dX7_breaksOrder_25 (by decide) (fun hc => ?_) (fun hc => ?_)
    · have hw := hw.1 hc
      obtain ⟨k3, hw⟩ := hw
      obtain ⟨z1, e2⟩ := ex1 (x2 + 1)
      have hw := hw z1 e2
      have hz1 : inR z1 := by rw [e2]; exact k3
      refine q_iinc (lv' := [(0, .ref (E.1 r0)), (1, .ref (E.1 a1)), (2, iV z1), (3, iV x3), (4, iV x4)]) F 2 [1, 2, 0, 3, 4] dX7_breaksOrder_67 rfl (q_n hN (by decide)) e2.symm rfl ?_
      refine q_goto F 2 dX7_breaksOrder_70 (by decide) ?_
      refine q_lv [0, 1, 2] rfl ?_
      exact hK2 z1 I R hz1 hm hw
    · have hw := hw.2 hc
      refine q_iload_n F 3 dX7_breaksOrder_28 rfl rfl ?_
      refine q_if_eq F hx3 67 dX7_breaksOrder_29 (by decide) (fun hc => ?_) (fun hc => ?_)
      · have hw := hw.1 hc
        obtain ⟨k6, hw⟩ := hw
        obtain ⟨z4, e5⟩ := ex1 (x2 + 1)
        have hw := hw z4 e5
        have hz4 : inR z4 := by rw [e5]; exact k6
        refine q_iinc (lv' := [(0, .ref (E.1 r0)), (1, .ref (E.1 a1)), (2, iV z4), (3, iV x3), (4, iV x4)]) F 2 [1, 2, 0, 3, 4] dX7_breaksOrder_67 rfl (q_n hN (by decide)) e5.symm rfl ?_
        refine q_goto F 2 dX7_breaksOrder_70 (by decide) ?_
        refine q_lv [0, 1, 2] rfl ?_
        exact hK2 z4 I R hz4 hm hw
      · have hw := hw.2 hc
        refine q_aload_n F 1 dX7_breaksOrder_32 rfl rfl ?_
        refine q_aload_n F 0 dX7_breaksOrder_33 rfl rfl ?_
        refine t_g_Rule_cells F (kR0 hr0) ib7 wd161 (r0 + 130) rfl dX7_breaksOrder_34 ?_
        refine q_iload F 4 dX7_breaksOrder_37 rfl ?_
        obtain ⟨k7, hw⟩ := hw
        refine t_ald F 5 (kR4 hr0) k7 (by decide) dX7_breaksOrder_39 ?_
        obtain ⟨k8, hw⟩ := hw
        refine t_ald F 25 ha1 k8 (by decide) dX7_breaksOrder_40 ?_
        obtain ⟨z9, e10⟩ := ex1 ((I a1 ((I (r0 + 130) x4))))
        have hw := hw z9 e10
        have hz9 : inR z9 := by rw [e10]; exact (hm.1 _ _)
        refine q_top e10 ?_
        refine q_istore (lv' := [(0, .ref (E.1 r0)), (1, .ref (E.1 a1)), (2, iV x2), (3, iV x3), (4, iV x4), (5, iV z9)]) F [1, 2, 3, 4, 5, 0] dX7_breaksOrder_41 (q_n hN (by decide)) rfl ?_
        refine q_iload F 5 dX7_breaksOrder_43 rfl ?_
        refine q_if_eq F hz9 61 dX7_breaksOrder_45 (by decide) (fun hc => ?_) (fun hc => ?_)
        · have hw := hw.1 hc
          obtain ⟨k13, hw⟩ := hw
          obtain ⟨z11, e12⟩ := ex1 (x4 + 1)
          have hw := hw z11 e12
          have hz11 : inR z11 := by rw [e12]; exact k13
          refine q_iinc (lv' := [(0, .ref (E.1 r0)), (1, .ref (E.1 a1)), (2, iV x2), (3, iV x3), (4, iV z11), (5, iV z9)]) F 4 [1, 2, 3, 4, 0, 5] dX7_breaksOrder_61 rfl (q_n hN (by decide)) e12.symm rfl ?_
          refine q_goto F 22 dX7_breaksOrder_64 (by decide) ?_
          refine q_lv [0, 1, 2, 3, 4] rfl ?_
          exact ih x2 x3 z11 I R hx2 hx3 hz11 hm hw
        · have hw := hw.2 hc
          refine q_iload_n F 3 dX7_breaksOrder_48 rfl rfl ?_
          refine q_iload F 5 dX7_breaksOrder_49 rfl ?_
          refine q_isub F dX7_breaksOrder_51 ?_
          refine q_iload_n F 2 dX7_breaksOrder_52 rfl rfl ?_
          refine q_iload F 4 dX7_breaksOrder_53 rfl ?_
          refine q_isub F dX7_breaksOrder_55 ?_
          obtain ⟨k14, hw⟩ := hw
          obtain ⟨k15, hw⟩ := hw
          refine q_icmp_ge F k14 k15 61 dX7_breaksOrder_56 (by decide) (fun hc => ?_) (fun hc => ?_)
          · have hw := hw.1 hc
            obtain ⟨k18, hw⟩ := hw
            obtain ⟨z16, e17⟩ := ex1 (x4 + 1)
            have hw := hw z16 e17
            have hz16 : inR z16 := by rw [e17]; exact k18
            refine q_iinc (lv' := [(0, .ref (E.1 r0)), (1, .ref (E.1 a1)), (2, iV x2), (3, iV x3), (4, iV z16), (5, iV z9)]) F 4 [1, 2, 3, 4, 0, 5] dX7_breaksOrder_61 rfl (q_n hN (by decide)) e17.symm rfl ?_
            refine q_goto F 22 dX7_breaksOrder_64 (by decide) ?_
            refine q_lv [0, 1, 2, 3, 4] rfl ?_
            exact ih x2 x3 z16 I R hx2 hx3 hz16 hm hw
          · have hw := hw.2 hc
            refine q_iconst F dX7_breaksOrder_59 ?_
            exact hret _ _ _ _ _ _ dX7_breaksOrder_60 (Or.inr rfl) (⟨by decide, by decide⟩ : inR (1)) hm hw
set_option maxHeartbeats 4000000 in
set_option maxRecDepth 100000 in
theorem bX7_breaksOrder_2 {X : xC} {E : cE} (F : mF X E RX7 cX7_breaksOrder bG) (hR : X.1.2.2.2 = rmK 1 (0) (0)) (hN : X.2.2.1.2.2.2 = 6) {Q : Int → cI → cR → Prop} (hret : rZ X E cX7_breaksOrder (0) (0) Q) {r0 : Nat} {a1 : Nat} (hr0 : isR r0) (ha1 : isA 25 a1) : ∀ n2 : Nat, ∀ (x2 : Int) (I : cI) (R : cR), inR x2 → cM I R → wX7_breaksOrder_2 Q r0 a1 n2 x2 I R → cW X (0) (0) 2 [(0, .ref (E.1 r0)), (1, .ref (E.1 a1)), (2, iV x2)] [] (gw E.1 cIds (cef E (I, R)) ++ []) := by
  intro n2
  induction n2 with
  | zero => intro x2 I R hx2 hm hw; exact hw.elim
  | succ n2 ih =>
    intro x2 I R hx2 hm hw
    change wbX7_breaksOrder_2 Q r0 a1 (wX7_breaksOrder_2 Q r0 a1 n2) x2 I R at hw
    unfold wbX7_breaksOrder_2 at hw
    refine q_iload_n F 2 dX7_breaksOrder_2 rfl rfl ?_
    refine q_aload_n F 0 dX7_breaksOrder_3 rfl rfl ?_
    refine t_g_Rule_size F (kR0 hr0) ib7 wd156 dX7_breaksOrder_4 ?_
    refine q_icmp_ge F hx2 (hm.1 _ _) 73 dX7_breaksOrder_7 (by decide) (fun hc => ?_) (fun hc => ?_)
    · have hw := hw.1 hc
      refine q_iconst F dX7_breaksOrder_73 ?_
      exact hret _ _ _ _ _ _ dX7_breaksOrder_74 (Or.inl rfl) (⟨by decide, by decide⟩ : inR (0)) hm hw
    · have hw := hw.2 hc
      refine q_aload_n F 1 dX7_breaksOrder_10 rfl rfl ?_
      refine q_aload_n F 0 dX7_breaksOrder_11 rfl rfl ?_
      refine t_g_Rule_cells F (kR0 hr0) ib7 wd161 (r0 + 130) rfl dX7_breaksOrder_12 ?_
      refine q_iload_n F 2 dX7_breaksOrder_15 rfl rfl ?_
      obtain ⟨k1, hw⟩ := hw
      refine t_ald F 5 (kR4 hr0) k1 (by decide) dX7_breaksOrder_16 ?_
      obtain ⟨k2, hw⟩ := hw
      refine t_ald F 25 ha1 k2 (by decide) dX7_breaksOrder_17 ?_
      obtain ⟨z3, e4⟩ := ex1 ((I a1 ((I (r0 + 130) x2))))
      have hw := hw z3 e4
      have hz3 : inR z3 := by rw [e4]; exact (hm.1 _ _)
      refine q_top e4 ?_
      refine q_istore_n (lv' := [(0, .ref (E.1 r0)), (1, .ref (E.1 a1)), (2, iV x2), (3, iV z3)]) F [1, 2, 3, 0] dX7_breaksOrder_18 rfl (q_n hN (by decide)) rfl ?_
      refine q_iconst F dX7_breaksOrder_19 ?_
      refine q_istore (lv' := [(0, .ref (E.1 r0)), (1, .ref (E.1 a1)), (2, iV x2), (3, iV z3), (4, iV 0)]) F [1, 2, 3, 4, 0] dX7_breaksOrder_20 (q_n hN (by decide)) rfl ?_
      obtain ⟨n5, hw⟩ := hw
      exact bX7_breaksOrder_22 F hR hN hret hr0 ha1 ih n5 x2 z3 0 I R hx2 hz3 (⟨by decide, by decide⟩ : inR (0)) hm hw
set_option maxHeartbeats 4000000 in
set_option maxRecDepth 100000 in
theorem kcX7_breaksOrder {l : Launch} {D : va_G} {E : cE} {r0 : Nat} {a1 : Nat} {I : cI} {R : cR} (hm : cM I R) (hr0 : isR r0) (ha1 : isA 25 a1) {Q : Int → cI → cR → Prop} (hw : wX7_breaksOrder r0 a1 I R Q) : gM l D E cIds yX7_breaksOrder vX7_breaksOrder (rmK 1 (0) (0)) [.ref (E.1 r0), .ref (E.1 a1)] (cef E (I, R)) (cef E) (pI Q) (0) (0) := by
  unfold wX7_breaksOrder at hw
  refine k_ofW (own := RX7) (cc := cX7_breaksOrder) (maxL := 6) (ret := (some .boolean)) (lv := [(0, .ref (E.1 r0)), (1, .ref (E.1 a1))]) (by decide) rfl rfl (Nat.le_of_ble_eq_true rfl) rfl ?_
  intro X hl hR hN hD F K
  subst hl; subst hD
  have hret := mk_rZ (Q := Q) F K
  refine q_iconst F dX7_breaksOrder_0 ?_
  refine q_istore_n (lv' := [(0, .ref (E.1 r0)), (1, .ref (E.1 a1)), (2, iV 1)]) F [1, 2, 0] dX7_breaksOrder_1 rfl (q_n hN (by decide)) rfl ?_
  obtain ⟨n1, hw⟩ := hw
  exact bX7_breaksOrder_2 F hR hN hret hr0 ha1 n1 1 I R (⟨by decide, by decide⟩ : inR (1)) hm hw
