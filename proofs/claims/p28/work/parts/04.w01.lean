/-! ===== walks: X5_passesRule, X5_hasForm, X10_startAt, X5_fail, X4_emptyGrid, X4_begin, X5_readSizes, X5_rulesOf, X7_begin, X4_addRule, X7_addCell, X4_addRowRules, X4_addColumnRules, X5_isAllowed, X5_readNumber, X5_readTimes, X7_hasCell, X5_readCells ===== -/
theorem ydX5_passesRule : yX5_passesRule.cls = RX5 ∧ yX5_passesRule.cls ≠ "java/lang/invoke/MethodHandle" ∧ yX5_passesRule.cls ≠ "java/lang/invoke/VarHandle" ∧ (parseMethodDescriptor yX5_passesRule.desc).map (fun d => d.parameters.length) = some 0 := by decide +kernel
def vX5_passesRule : List Cond := Cond.code yX5_passesRule cX5_passesRule 3 (some .boolean) :: bG
set_option maxHeartbeats 4000000 in
set_option maxRecDepth 100000 in
theorem bX5_passesRule_102 {X : xC} {E : cE} (F : mF X E RX5 cX5_passesRule bG) (hR : X.1.2.2.2 = rmK 4 (0) (0)) (hN : X.2.2.1.2.2.2 = 3) {Q : Int → cI → cR → Prop} (hret : rZ X E cX5_passesRule (0) (0) Q)   : ∀ (y1 : Int) (y2 : Int) (I : cI) (R : cR), inR y1 → inR y2 → cM I R → wX5_passesRule_102 Q y1 y2 I R → cW X (0) (0) 102 [] [iV y2, iV y1, .ref (E.1 3)] (gw E.1 cIds (cef E (I, R)) ++ []) := by
  intro y1 y2 I R hy1 hy2 hm hw
  unfold wX5_passesRule_102 at hw
  refine q_Vi F (kcX5_passes hm hy1 hy2 hw) (cIds_in (show ckd 3 = 3 ∧ 3 < 353 by decide).2) (ceReader (show ckd 3 = 3 ∧ 3 < 353 by decide).1) (ci := 3) rfl (bV wd306 wd307 wd884 wd3 wd308) rfl ⟨rfl, rfl⟩ ydX5_passes (rmK_le hR (by omega) (by decide)) (av := [iV y1, iV y2]) rfl rfl (Nat.le_of_ble_eq_true rfl) dX5_passesRule_102 (rmK_cs hR (by omega) (by omega)) (fun r1 I2 R3 h4 m5 hw => ?_)
  refine q_if_eq F h4 112 dX5_passesRule_105 (by decide) (fun hc => ?_) (fun hc => ?_)
  · have hw := hw.1 hc
    refine q_iconst F dX5_passesRule_112 ?_
    exact hret _ _ _ _ _ _ dX5_passesRule_113 (Or.inl rfl) (⟨by decide, by decide⟩ : inR (0)) m5 hw
  · have hw := hw.2 hc
    refine q_iconst F dX5_passesRule_108 ?_
    refine q_goto F 113 dX5_passesRule_109 (by decide) ?_
    exact hret _ _ _ _ _ _ dX5_passesRule_113 (Or.inr rfl) (⟨by decide, by decide⟩ : inR (1)) m5 hw
set_option maxHeartbeats 4000000 in
set_option maxRecDepth 100000 in
theorem kcX5_passesRule {l : Launch} {D : va_G} {E : cE} {I : cI} {R : cR} (hm : cM I R)  {Q : Int → cI → cR → Prop} (hw : wX5_passesRule  I R Q) : gM l D E cIds yX5_passesRule vX5_passesRule (rmK 4 (0) (0)) [.ref (E.1 3)] (cef E (I, R)) (cef E) (pI Q) (0) (0) := by
  unfold wX5_passesRule at hw
  refine k_ofW (own := RX5) (cc := cX5_passesRule) (maxL := 3) (ret := (some .boolean)) (lv := [(0, .ref (E.1 3))]) (by decide) rfl rfl (Nat.le_of_ble_eq_true rfl) rfl ?_
  intro X hl hR hN hD F K
  subst hl; subst hD
  have hret := mk_rZ (Q := Q) F K
  refine q_aload_n F 0 dX5_passesRule_0 rfl rfl ?_
  refine t_g_Reader_tokens F (by decide) ib5 wd65 4 rfl dX5_passesRule_1 ?_
  refine q_aload_n F 0 dX5_passesRule_4 rfl rfl ?_
  refine t_g_Reader_place F (by decide) ib5 wd66 dX5_passesRule_5 ?_
  refine q_Vi F (kcX10_numberAt hm (hm.1 _ _) hw) (cIds_in (show ckd 4 = 8 ∧ 4 < 353 by decide).2) (ceTokens (show ckd 4 = 8 ∧ 4 < 353 by decide).1) (ci := 8) rfl (bV wd302 wd303 wd304 wd4 wd305) rfl ⟨rfl, rfl⟩ ydX10_numberAt (rmK_le hR (by omega) (by decide)) (av := [iV ((I 3 3))]) rfl rfl (Nat.le_of_ble_eq_true rfl) dX5_passesRule_8 (rmK_cs hR (by omega) (by omega)) (fun r1 I2 R3 h4 m5 hw => ?_)
  refine q_istore_n (lv' := [(0, .ref (E.1 3)), (1, iV r1)]) F [1, 0] dX5_passesRule_11 rfl (q_n hN (by decide)) rfl ?_
  refine q_aload_n F 0 dX5_passesRule_12 rfl rfl ?_
  refine t_g_Reader_tokens F (by decide) ib5 wd65 4 rfl dX5_passesRule_13 ?_
  refine q_aload_n F 0 dX5_passesRule_16 rfl rfl ?_
  refine t_g_Reader_place F (by decide) ib5 wd66 dX5_passesRule_17 ?_
  refine q_Vi F (kcX10_typeAt m5 (m5.1 _ _) hw) (cIds_in (show ckd 4 = 8 ∧ 4 < 353 by decide).2) (ceTokens (show ckd 4 = 8 ∧ 4 < 353 by decide).1) (ci := 8) rfl (bV wd309 wd310 wd311 wd4 wd312) rfl ⟨rfl, rfl⟩ ydX10_typeAt (rmK_le hR (by omega) (by decide)) (av := [iV ((I2 3 3))]) rfl rfl (Nat.le_of_ble_eq_true rfl) dX5_passesRule_20 (rmK_cs hR (by omega) (by omega)) (fun r6 I7 R8 h9 m10 hw => ?_)
  refine q_iconst F dX5_passesRule_23 ?_
  refine q_icmp_ne F h9 (⟨by decide, by decide⟩ : inR (1)) 33 dX5_passesRule_24 (by decide) (fun hc => ?_) (fun hc => ?_)
  · have hw := hw.1 hc
    refine q_iconst F dX5_passesRule_33 ?_
    exact hret _ _ _ _ _ _ dX5_passesRule_34 (Or.inl rfl) (⟨by decide, by decide⟩ : inR (0)) m10 hw
  · have hw := hw.2 hc
    refine q_iload_n F 1 dX5_passesRule_27 rfl rfl ?_
    refine q_bipush F dX5_passesRule_28 (by decide) ?_
    refine q_icmp_ne F h4 (⟨by decide, by decide⟩ : inR (14)) 35 dX5_passesRule_30 (by decide) (fun hc => ?_) (fun hc => ?_)
    · have hw := hw.1 hc
      refine q_aload_n F 0 dX5_passesRule_35 rfl rfl ?_
      refine q_dup F dX5_passesRule_36 rfl ?_
      refine t_g_Reader_place F (by decide) ib5 wd66 dX5_passesRule_37 ?_
      refine q_iconst F dX5_passesRule_40 ?_
      refine q_iadd F dX5_passesRule_41 ?_
      obtain ⟨k11, hw⟩ := hw
      obtain ⟨I12, e13⟩ := ex1 (up2 I7 3 3 (((I7 3 3) + 1)))
      have hw := hw I12 e13
      have m14 : cM I12 R8 := cM_I m10 e13 k11
      refine t_p_Reader_place F (by decide) ib5 wd66 e13 dX5_passesRule_42 ?_
      refine q_iload_n F 1 dX5_passesRule_45 rfl rfl ?_
      refine q_if_lt F h4 57 dX5_passesRule_46 (by decide) (fun hc => ?_) (fun hc => ?_)
      · have hw := hw.1 hc
        refine q_iconst F dX5_passesRule_57 ?_
        exact hret _ _ _ _ _ _ dX5_passesRule_58 (Or.inr rfl) (⟨by decide, by decide⟩ : inR (1)) m14 hw
      · have hw := hw.2 hc
        refine q_iload_n F 1 dX5_passesRule_49 rfl rfl ?_
        refine q_gsN F (sZ_ALL F) (sN_5 F) rfl dX5_passesRule_50 ?_
        refine q_lenALL F dX5_passesRule_53 ?_
        refine q_icmp_lt F h4 (⟨by decide, by decide⟩ : inR (12)) 59 dX5_passesRule_54 (by decide) (fun hc => ?_) (fun hc => ?_)
        · have hw := hw.1 hc
          refine q_gsN F (sZ_ALL F) (sN_5 F) rfl dX5_passesRule_59 ?_
          refine q_iload_n F 1 dX5_passesRule_62 rfl rfl ?_
          obtain ⟨k15, hw⟩ := hw
          refine q_ldALL F k15 dX5_passesRule_63 ?_
          refine q_astore_n (lv' := [(0, .ref (E.1 3)), (1, iV r1), (2, .ref (E.2.1 0 (Int.toNat (r1))))]) F [1, 2, 0] dX5_passesRule_64 rfl (q_n hN (by decide)) rfl ?_
          refine q_aload_n F 0 dX5_passesRule_65 rfl rfl ?_
          refine q_iconst F dX5_passesRule_66 ?_
          refine q_aload_n F 2 dX5_passesRule_67 rfl rfl ?_
          refine q_kAhd F (tN12 k15) wd836 dX5_passesRule_68 ?_
          refine q_Vi F (kcX5_passes m14 (⟨by decide, by decide⟩ : inR (2)) (kA_in (tN12 k15)) hw) (cIds_in (show ckd 3 = 3 ∧ 3 < 353 by decide).2) (ceReader (show ckd 3 = 3 ∧ 3 < 353 by decide).1) (ci := 3) rfl (bV wd306 wd307 wd884 wd3 wd308) rfl ⟨rfl, rfl⟩ ydX5_passes (rmK_le hR (by omega) (by decide)) (av := [iV 2, iV ((kA (Int.toNat (r1))))]) rfl rfl (Nat.le_of_ble_eq_true rfl) dX5_passesRule_71 (rmK_cs hR (by omega) (by omega)) (fun r16 I17 R18 h19 m20 hw => ?_)
          refine q_if_eq F h19 112 dX5_passesRule_74 (by decide) (fun hc => ?_) (fun hc => ?_)
          · have hw := hw.1 hc
            refine q_iconst F dX5_passesRule_112 ?_
            exact hret _ _ _ _ _ _ dX5_passesRule_113 (Or.inl rfl) (⟨by decide, by decide⟩ : inR (0)) m20 hw
          · have hw := hw.2 hc
            refine q_aload_n F 0 dX5_passesRule_77 rfl rfl ?_
            refine q_aload_n F 2 dX5_passesRule_78 rfl rfl ?_
            refine q_kExa F (tN12 k15) wd837 dX5_passesRule_79 ?_
            refine q_Vi F (kcX5_passesCells m20 (kE_in (tN12 k15)) hw) (cIds_in (show ckd 3 = 3 ∧ 3 < 353 by decide).2) (ceReader (show ckd 3 = 3 ∧ 3 < 353 by decide).1) (ci := 3) rfl (bV wd317 wd318 wd886 wd3 wd319) rfl ⟨rfl, rfl⟩ ydX5_passesCells (rmK_le hR (by omega) (by decide)) (av := [iV ((kE (Int.toNat (r1))))]) rfl rfl (Nat.le_of_ble_eq_true rfl) dX5_passesRule_82 (rmK_cs hR (by omega) (by omega)) (fun r21 I22 R23 h24 m25 hw => ?_)
            refine q_if_eq F h24 112 dX5_passesRule_85 (by decide) (fun hc => ?_) (fun hc => ?_)
            · have hw := hw.1 hc
              refine q_iconst F dX5_passesRule_112 ?_
              exact hret _ _ _ _ _ _ dX5_passesRule_113 (Or.inl rfl) (⟨by decide, by decide⟩ : inR (0)) m25 hw
            · have hw := hw.2 hc
              refine q_aload_n F 0 dX5_passesRule_88 rfl rfl ?_
              refine q_iconst F dX5_passesRule_89 ?_
              refine q_aload_n F 2 dX5_passesRule_90 rfl rfl ?_
              refine q_gs F (sZ_IS F) wd320 rfl dX5_passesRule_91 ?_
              refine q_acne F (tN12 k15) (by decide) 101 dX5_passesRule_94 (by decide) (fun hc => ?_) (fun hc => ?_)
              · have hw := hw.1 hc
                refine q_iconst F dX5_passesRule_101 ?_
                refine q_lv [] rfl ?_
                exact bX5_passesRule_102 F hR hN hret 2 0 I22 R23 (⟨by decide, by decide⟩ : inR (2)) (⟨by decide, by decide⟩ : inR (0)) m25 hw
              · have hw := hw.2 hc
                refine q_iconst F dX5_passesRule_97 ?_
                refine q_goto F 102 dX5_passesRule_98 (by decide) ?_
                refine q_lv [] rfl ?_
                exact bX5_passesRule_102 F hR hN hret 2 1 I22 R23 (⟨by decide, by decide⟩ : inR (2)) (⟨by decide, by decide⟩ : inR (1)) m25 hw
        · have hw := hw.2 hc
          refine q_iconst F dX5_passesRule_57 ?_
          exact hret _ _ _ _ _ _ dX5_passesRule_58 (Or.inr rfl) (⟨by decide, by decide⟩ : inR (1)) m14 hw
    · have hw := hw.2 hc
      refine q_iconst F dX5_passesRule_33 ?_
      exact hret _ _ _ _ _ _ dX5_passesRule_34 (Or.inl rfl) (⟨by decide, by decide⟩ : inR (0)) m10 hw
theorem ydX5_hasForm : yX5_hasForm.cls = RX5 ∧ yX5_hasForm.cls ≠ "java/lang/invoke/MethodHandle" ∧ yX5_hasForm.cls ≠ "java/lang/invoke/VarHandle" ∧ (parseMethodDescriptor yX5_hasForm.desc).map (fun d => d.parameters.length) = some 0 := by decide +kernel
def vX5_hasForm : List Cond := Cond.code yX5_hasForm cX5_hasForm 2 (some .boolean) :: bG
set_option maxHeartbeats 4000000 in
set_option maxRecDepth 100000 in
theorem bX5_hasForm_54 {X : xC} {E : cE} (F : mF X E RX5 cX5_hasForm bG) (hR : X.1.2.2.2 = rmK 5 (0) (0)) (hN : X.2.2.1.2.2.2 = 2) {Q : Int → cI → cR → Prop} (hret : rZ X E cX5_hasForm (0) (0) Q)   : ∀ n54 : Nat, ∀ (x1 : Int) (I : cI) (R : cR), inR x1 → cM I R → wX5_hasForm_54 Q n54 x1 I R → cW X (0) (0) 54 [(0, .ref (E.1 3)), (1, iV x1)] [] (gw E.1 cIds (cef E (I, R)) ++ []) := by
  intro n54
  induction n54 with
  | zero => intro x1 I R hx1 hm hw; exact hw.elim
  | succ n54 ih =>
    intro x1 I R hx1 hm hw
    change wbX5_hasForm_54 Q (wX5_hasForm_54 Q n54) x1 I R at hw
    unfold wbX5_hasForm_54 at hw
    refine q_iload_n F 1 dX5_hasForm_54 rfl rfl ?_
    refine q_aload_n F 0 dX5_hasForm_55 rfl rfl ?_
    refine t_g_Reader_tokens F (by decide) ib5 wd65 4 rfl dX5_hasForm_56 ?_
    refine t_g_Tokens_count F (by decide) ib10 wd58 dX5_hasForm_59 ?_
    refine q_icmp_ge F hx1 (hm.1 _ _) 103 dX5_hasForm_62 (by decide) (fun hc => ?_) (fun hc => ?_)
    · have hw := hw.1 hc
      refine q_iconst F dX5_hasForm_103 ?_
      exact hret _ _ _ _ _ _ dX5_hasForm_104 (Or.inr rfl) (⟨by decide, by decide⟩ : inR (1)) hm hw
    · have hw := hw.2 hc
      refine q_aload_n F 0 dX5_hasForm_65 rfl rfl ?_
      refine t_g_Reader_tokens F (by decide) ib5 wd65 4 rfl dX5_hasForm_66 ?_
      refine q_aload_n F 0 dX5_hasForm_69 rfl rfl ?_
      refine t_g_Reader_place F (by decide) ib5 wd66 dX5_hasForm_70 ?_
      refine q_Vi F (kcX10_typeAt hm (hm.1 _ _) hw) (cIds_in (show ckd 4 = 8 ∧ 4 < 353 by decide).2) (ceTokens (show ckd 4 = 8 ∧ 4 < 353 by decide).1) (ci := 8) rfl (bV wd309 wd310 wd311 wd4 wd312) rfl ⟨rfl, rfl⟩ ydX10_typeAt (rmK_le hR (by omega) (by decide)) (av := [iV ((I 3 3))]) rfl rfl (Nat.le_of_ble_eq_true rfl) dX5_hasForm_73 (rmK_cs hR (by omega) (by omega)) (fun r1 I2 R3 h4 m5 hw => ?_)
      refine q_if_eq F h4 103 dX5_hasForm_76 (by decide) (fun hc => ?_) (fun hc => ?_)
      · have hw := hw.1 hc
        refine q_iconst F dX5_hasForm_103 ?_
        exact hret _ _ _ _ _ _ dX5_hasForm_104 (Or.inr rfl) (⟨by decide, by decide⟩ : inR (1)) m5 hw
      · have hw := hw.2 hc
        refine q_aload_n F 0 dX5_hasForm_79 rfl rfl ?_
        refine q_Vi F (kcX5_passesRule m5 hw) (cIds_in (show ckd 3 = 3 ∧ 3 < 353 by decide).2) (ceReader (show ckd 3 = 3 ∧ 3 < 353 by decide).1) (ci := 3) rfl (bV wd313 wd314 wd885 wd3 wd315) rfl ⟨rfl, rfl⟩ ydX5_passesRule (rmK_le hR (by omega) (by decide)) (av := []) rfl rfl (Nat.le_of_ble_eq_true rfl) dX5_hasForm_80 (rmK_cs hR (by omega) (by omega)) (fun r6 I7 R8 h9 m10 hw => ?_)
        refine q_if_eq F h9 95 dX5_hasForm_83 (by decide) (fun hc => ?_) (fun hc => ?_)
        · have hw := hw.1 hc
          refine q_iconst F dX5_hasForm_95 ?_
          exact hret _ _ _ _ _ _ dX5_hasForm_96 (Or.inl rfl) (⟨by decide, by decide⟩ : inR (0)) m10 hw
        · have hw := hw.2 hc
          refine q_aload_n F 0 dX5_hasForm_86 rfl rfl ?_
          refine q_iconst F dX5_hasForm_87 ?_
          refine q_iconst F dX5_hasForm_88 ?_
          refine q_Vi F (kcX5_passes m10 (⟨by decide, by decide⟩ : inR (4)) (⟨by decide, by decide⟩ : inR (1)) hw) (cIds_in (show ckd 3 = 3 ∧ 3 < 353 by decide).2) (ceReader (show ckd 3 = 3 ∧ 3 < 353 by decide).1) (ci := 3) rfl (bV wd306 wd307 wd884 wd3 wd308) rfl ⟨rfl, rfl⟩ ydX5_passes (rmK_le hR (by omega) (by decide)) (av := [iV 4, iV 1]) rfl rfl (Nat.le_of_ble_eq_true rfl) dX5_hasForm_89 (rmK_cs hR (by omega) (by omega)) (fun r11 I12 R13 h14 m15 hw => ?_)
          refine q_if_ne F h14 97 dX5_hasForm_92 (by decide) (fun hc => ?_) (fun hc => ?_)
          · have hw := hw.1 hc
            obtain ⟨k18, hw⟩ := hw
            obtain ⟨z16, e17⟩ := ex1 (x1 + 1)
            have hw := hw z16 e17
            have hz16 : inR z16 := by rw [e17]; exact k18
            refine q_iinc (lv' := [(0, .ref (E.1 3)), (1, iV z16)]) F 1 [1, 0] dX5_hasForm_97 rfl (q_n hN (by decide)) e17.symm rfl ?_
            refine q_goto F 54 dX5_hasForm_100 (by decide) ?_
            exact ih z16 I12 R13 hz16 m15 hw
          · have hw := hw.2 hc
            refine q_iconst F dX5_hasForm_95 ?_
            exact hret _ _ _ _ _ _ dX5_hasForm_96 (Or.inl rfl) (⟨by decide, by decide⟩ : inR (0)) m15 hw
set_option maxHeartbeats 4000000 in
set_option maxRecDepth 100000 in
theorem kcX5_hasForm {l : Launch} {D : va_G} {E : cE} {I : cI} {R : cR} (hm : cM I R)  {Q : Int → cI → cR → Prop} (hw : wX5_hasForm  I R Q) : gM l D E cIds yX5_hasForm vX5_hasForm (rmK 5 (0) (0)) [.ref (E.1 3)] (cef E (I, R)) (cef E) (pI Q) (0) (0) := by
  unfold wX5_hasForm at hw
  refine k_ofW (own := RX5) (cc := cX5_hasForm) (maxL := 2) (ret := (some .boolean)) (lv := [(0, .ref (E.1 3))]) (by decide) rfl rfl (Nat.le_of_ble_eq_true rfl) rfl ?_
  intro X hl hR hN hD F K
  subst hl; subst hD
  have hret := mk_rZ (Q := Q) F K
  refine q_aload_n F 0 dX5_hasForm_0 rfl rfl ?_
  refine q_iconst F dX5_hasForm_1 ?_
  obtain ⟨I1, e2⟩ := ex1 (up2 I 3 3 0)
  have hw := hw I1 e2
  have m3 : cM I1 R := cM_I hm e2 (⟨by decide, by decide⟩ : inR (0))
  refine t_p_Reader_place F (by decide) ib5 wd66 e2 dX5_hasForm_2 ?_
  refine q_aload_n F 0 dX5_hasForm_5 rfl rfl ?_
  refine t_g_Reader_tokens F (by decide) ib5 wd65 4 rfl dX5_hasForm_6 ?_
  refine q_aload_n F 0 dX5_hasForm_9 rfl rfl ?_
  refine t_g_Reader_place F (by decide) ib5 wd66 dX5_hasForm_10 ?_
  refine q_Vi F (kcX10_numberAt m3 (m3.1 _ _) hw) (cIds_in (show ckd 4 = 8 ∧ 4 < 353 by decide).2) (ceTokens (show ckd 4 = 8 ∧ 4 < 353 by decide).1) (ci := 8) rfl (bV wd302 wd303 wd304 wd4 wd305) rfl ⟨rfl, rfl⟩ ydX10_numberAt (rmK_le hR (by omega) (by decide)) (av := [iV ((I1 3 3))]) rfl rfl (Nat.le_of_ble_eq_true rfl) dX5_hasForm_13 (rmK_cs hR (by omega) (by omega)) (fun r4 I5 R6 h7 m8 hw => ?_)
  refine q_bipush F dX5_hasForm_16 (by decide) ?_
  refine q_icmp_ne F h7 (⟨by decide, by decide⟩ : inR (14)) 30 dX5_hasForm_18 (by decide) (fun hc => ?_) (fun hc => ?_)
  · have hw := hw.1 hc
    refine q_iconst F dX5_hasForm_30 ?_
    exact hret _ _ _ _ _ _ dX5_hasForm_31 (Or.inl rfl) (⟨by decide, by decide⟩ : inR (0)) m8 hw
  · have hw := hw.2 hc
    refine q_aload_n F 0 dX5_hasForm_21 rfl rfl ?_
    refine q_iconst F dX5_hasForm_22 ?_
    refine q_iconst F dX5_hasForm_23 ?_
    refine q_Vi F (kcX5_passes m8 (⟨by decide, by decide⟩ : inR (1)) (⟨by decide, by decide⟩ : inR (1)) hw) (cIds_in (show ckd 3 = 3 ∧ 3 < 353 by decide).2) (ceReader (show ckd 3 = 3 ∧ 3 < 353 by decide).1) (ci := 3) rfl (bV wd306 wd307 wd884 wd3 wd308) rfl ⟨rfl, rfl⟩ ydX5_passes (rmK_le hR (by omega) (by decide)) (av := [iV 1, iV 1]) rfl rfl (Nat.le_of_ble_eq_true rfl) dX5_hasForm_24 (rmK_cs hR (by omega) (by omega)) (fun r9 I10 R11 h12 m13 hw => ?_)
    refine q_if_ne F h12 32 dX5_hasForm_27 (by decide) (fun hc => ?_) (fun hc => ?_)
    · have hw := hw.1 hc
      refine q_aload_n F 0 dX5_hasForm_32 rfl rfl ?_
      refine q_iconst F dX5_hasForm_33 ?_
      refine q_iconst F dX5_hasForm_34 ?_
      refine q_Vi F (kcX5_passes m13 (⟨by decide, by decide⟩ : inR (2)) (⟨by decide, by decide⟩ : inR (3)) hw) (cIds_in (show ckd 3 = 3 ∧ 3 < 353 by decide).2) (ceReader (show ckd 3 = 3 ∧ 3 < 353 by decide).1) (ci := 3) rfl (bV wd306 wd307 wd884 wd3 wd308) rfl ⟨rfl, rfl⟩ ydX5_passes (rmK_le hR (by omega) (by decide)) (av := [iV 2, iV 3]) rfl rfl (Nat.le_of_ble_eq_true rfl) dX5_hasForm_35 (rmK_cs hR (by omega) (by omega)) (fun r14 I15 R16 h17 m18 hw => ?_)
      refine q_if_eq F h17 50 dX5_hasForm_38 (by decide) (fun hc => ?_) (fun hc => ?_)
      · have hw := hw.1 hc
        refine q_iconst F dX5_hasForm_50 ?_
        exact hret _ _ _ _ _ _ dX5_hasForm_51 (Or.inl rfl) (⟨by decide, by decide⟩ : inR (0)) m18 hw
      · have hw := hw.2 hc
        refine q_aload_n F 0 dX5_hasForm_41 rfl rfl ?_
        refine q_iconst F dX5_hasForm_42 ?_
        refine q_iconst F dX5_hasForm_43 ?_
        refine q_Vi F (kcX5_passes m18 (⟨by decide, by decide⟩ : inR (4)) (⟨by decide, by decide⟩ : inR (1)) hw) (cIds_in (show ckd 3 = 3 ∧ 3 < 353 by decide).2) (ceReader (show ckd 3 = 3 ∧ 3 < 353 by decide).1) (ci := 3) rfl (bV wd306 wd307 wd884 wd3 wd308) rfl ⟨rfl, rfl⟩ ydX5_passes (rmK_le hR (by omega) (by decide)) (av := [iV 4, iV 1]) rfl rfl (Nat.le_of_ble_eq_true rfl) dX5_hasForm_44 (rmK_cs hR (by omega) (by omega)) (fun r19 I20 R21 h22 m23 hw => ?_)
        refine q_if_ne F h22 52 dX5_hasForm_47 (by decide) (fun hc => ?_) (fun hc => ?_)
        · have hw := hw.1 hc
          refine q_iconst F dX5_hasForm_52 ?_
          refine q_istore_n (lv' := [(0, .ref (E.1 3)), (1, iV 0)]) F [1, 0] dX5_hasForm_53 rfl (q_n hN (by decide)) rfl ?_
          obtain ⟨n24, hw⟩ := hw
          exact bX5_hasForm_54 F hR hN hret n24 0 I20 R21 (⟨by decide, by decide⟩ : inR (0)) m23 hw
        · have hw := hw.2 hc
          refine q_iconst F dX5_hasForm_50 ?_
          exact hret _ _ _ _ _ _ dX5_hasForm_51 (Or.inl rfl) (⟨by decide, by decide⟩ : inR (0)) m23 hw
    · have hw := hw.2 hc
      refine q_iconst F dX5_hasForm_30 ?_
      exact hret _ _ _ _ _ _ dX5_hasForm_31 (Or.inl rfl) (⟨by decide, by decide⟩ : inR (0)) m13 hw
theorem ydX10_startAt : yX10_startAt.cls = RX10 ∧ yX10_startAt.cls ≠ "java/lang/invoke/MethodHandle" ∧ yX10_startAt.cls ≠ "java/lang/invoke/VarHandle" ∧ (parseMethodDescriptor yX10_startAt.desc).map (fun d => d.parameters.length) = some 1 := by decide +kernel
def vX10_startAt : List Cond := Cond.code yX10_startAt cX10_startAt 2 (some .int) :: bG
set_option maxHeartbeats 4000000 in
set_option maxRecDepth 100000 in
theorem kcX10_startAt {l : Launch} {D : va_G} {E : cE} {a1 : Int} {I : cI} {R : cR} (hm : cM I R) (ha1 : inR a1) {Q : Int → cI → cR → Prop} (hw : wX10_startAt a1 I R Q) : gM l D E cIds yX10_startAt vX10_startAt (rmK 1 (0) (0)) [.ref (E.1 4), iV a1] (cef E (I, R)) (cef E) (pI Q) (0) (0) := by
  unfold wX10_startAt at hw
  refine k_ofW (own := RX10) (cc := cX10_startAt) (maxL := 2) (ret := (some .int)) (lv := [(0, .ref (E.1 4)), (1, iV a1)]) (by decide) rfl rfl (Nat.le_of_ble_eq_true rfl) rfl ?_
  intro X hl hR hN hD F K
  subst hl; subst hD
  have hret := mk_rI (Q := Q) F K
  refine q_iload_n F 1 dX10_startAt_0 rfl rfl ?_
  refine q_if_lt F ha1 21 dX10_startAt_1 (by decide) (fun hc => ?_) (fun hc => ?_)
  · have hw := hw.1 hc
    refine q_iconst F dX10_startAt_21 ?_
    exact hret _ _ _ _ _ _ dX10_startAt_22 (⟨by decide, by decide⟩ : inR (-1)) hm hw
  · have hw := hw.2 hc
    refine q_iload_n F 1 dX10_startAt_4 rfl rfl ?_
    refine q_aload_n F 0 dX10_startAt_5 rfl rfl ?_
    refine t_g_Tokens_count F (by decide) ib10 wd57 dX10_startAt_6 ?_
    refine q_icmp_ge F ha1 (hm.1 _ _) 21 dX10_startAt_9 (by decide) (fun hc => ?_) (fun hc => ?_)
    · have hw := hw.1 hc
      refine q_iconst F dX10_startAt_21 ?_
      exact hret _ _ _ _ _ _ dX10_startAt_22 (⟨by decide, by decide⟩ : inR (-1)) hm hw
    · have hw := hw.2 hc
      refine q_aload_n F 0 dX10_startAt_12 rfl rfl ?_
      refine t_g_Tokens_starts F (by decide) ib10 wd60 6 rfl dX10_startAt_13 ?_
      refine q_iload_n F 1 dX10_startAt_16 rfl rfl ?_
      obtain ⟨k1, hw⟩ := hw
      refine t_ald F 1601 kA_6 k1 (by decide) dX10_startAt_17 ?_
      refine q_goto F 22 dX10_startAt_18 (by decide) ?_
      exact hret _ _ _ _ _ _ dX10_startAt_22 (hm.1 _ _) hm hw
theorem ydX5_fail : yX5_fail.cls = RX5 ∧ yX5_fail.cls ≠ "java/lang/invoke/MethodHandle" ∧ yX5_fail.cls ≠ "java/lang/invoke/VarHandle" ∧ (parseMethodDescriptor yX5_fail.desc).map (fun d => d.parameters.length) = some 1 := by decide +kernel
def vX5_fail : List Cond := Cond.code yX5_fail cX5_fail 2 (some .boolean) :: bG
set_option maxHeartbeats 4000000 in
set_option maxRecDepth 100000 in
theorem kcX5_fail {l : Launch} {D : va_G} {E : cE} {a1 : Int} {I : cI} {R : cR} (hm : cM I R) (ha1 : inR a1) {Q : Int → cI → cR → Prop} (hw : wX5_fail a1 I R Q) : gM l D E cIds yX5_fail vX5_fail (rmK 2 (0) (0)) [.ref (E.1 3), iV a1] (cef E (I, R)) (cef E) (pI Q) (0) (0) := by
  unfold wX5_fail at hw
  refine k_ofW (own := RX5) (cc := cX5_fail) (maxL := 2) (ret := (some .boolean)) (lv := [(0, .ref (E.1 3)), (1, iV a1)]) (by decide) rfl rfl (Nat.le_of_ble_eq_true rfl) rfl ?_
  intro X hl hR hN hD F K
  subst hl; subst hD
  have hret := mk_rZ (Q := Q) F K
  refine q_aload_n F 0 dX5_fail_0 rfl rfl ?_
  refine q_iload_n F 1 dX5_fail_1 rfl rfl ?_
  obtain ⟨I1, e2⟩ := ex1 (up2 I 3 0 a1)
  have hw := hw I1 e2
  have m3 : cM I1 R := cM_I hm e2 ha1
  refine t_p_Reader_error F (by decide) ib5 wd62 e2 dX5_fail_2 ?_
  refine q_aload_n F 0 dX5_fail_5 rfl rfl ?_
  refine q_aload_n F 0 dX5_fail_6 rfl rfl ?_
  refine t_g_Reader_tokens F (by decide) ib5 wd65 4 rfl dX5_fail_7 ?_
  refine q_aload_n F 0 dX5_fail_10 rfl rfl ?_
  refine t_g_Reader_place F (by decide) ib5 wd66 dX5_fail_11 ?_
  refine q_Vi F (kcX10_startAt m3 (m3.1 _ _) hw) (cIds_in (show ckd 4 = 8 ∧ 4 < 353 by decide).2) (ceTokens (show ckd 4 = 8 ∧ 4 < 353 by decide).1) (ci := 8) rfl (bV wd325 wd326 wd327 wd4 wd328) rfl ⟨rfl, rfl⟩ ydX10_startAt (rmK_le hR (by omega) (by decide)) (av := [iV ((I1 3 3))]) rfl rfl (Nat.le_of_ble_eq_true rfl) dX5_fail_14 (rmK_cs hR (by omega) (by omega)) (fun r4 I5 R6 h7 m8 hw => ?_)
  obtain ⟨I9, e10⟩ := ex1 (up2 I5 3 1 r4)
  have hw := hw I9 e10
  have m11 : cM I9 R6 := cM_I m8 e10 h7
  refine t_p_Reader_errorAt F (by decide) ib5 wd64 e10 dX5_fail_17 ?_
  refine q_iconst F dX5_fail_20 ?_
  exact hret _ _ _ _ _ _ dX5_fail_21 (Or.inl rfl) (⟨by decide, by decide⟩ : inR (0)) m11 hw
theorem ydX4_emptyGrid : yX4_emptyGrid.cls = RX4 ∧ yX4_emptyGrid.cls ≠ "java/lang/invoke/MethodHandle" ∧ yX4_emptyGrid.cls ≠ "java/lang/invoke/VarHandle" ∧ (parseMethodDescriptor yX4_emptyGrid.desc).map (fun d => d.parameters.length) = some 0 := by decide +kernel
def vX4_emptyGrid : List Cond := Cond.code yX4_emptyGrid cX4_emptyGrid 2 none :: bG
set_option maxHeartbeats 4000000 in
set_option maxRecDepth 100000 in
theorem bX4_emptyGrid_2 {X : xC} {E : cE} (F : mF X E RX4 cX4_emptyGrid bG) (hR : X.1.2.2.2 = rmK 1 (0) (0)) (hN : X.2.2.1.2.2.2 = 2) {Q : cI → cR → Prop} (hret : rV X E cX4_emptyGrid (0) (0) Q) {p : Nat} (hp : isP p) : ∀ n2 : Nat, ∀ (x1 : Int) (I : cI) (R : cR), inR x1 → cM I R → wX4_emptyGrid_2 Q p n2 x1 I R → cW X (0) (0) 2 [(0, .ref (E.1 p)), (1, iV x1)] [] (gw E.1 cIds (cef E (I, R)) ++ []) := by
  intro n2
  induction n2 with
  | zero => intro x1 I R hx1 hm hw; exact hw.elim
  | succ n2 ih =>
    intro x1 I R hx1 hm hw
    change wbX4_emptyGrid_2 Q p (wX4_emptyGrid_2 Q p n2) x1 I R at hw
    unfold wbX4_emptyGrid_2 at hw
    refine q_iload_n F 1 dX4_emptyGrid_2 rfl rfl ?_
    refine q_aload_n F 0 dX4_emptyGrid_3 rfl rfl ?_
    refine t_g_Puzzle_grid F (kP0 hp) ib4 wd180 (p + 1) rfl dX4_emptyGrid_4 ?_
    refine t_alen F 25 (kP1 hp) dX4_emptyGrid_7 ?_
    refine q_icmp_ge F hx1 (⟨by decide, by decide⟩ : inR (25)) 24 dX4_emptyGrid_8 (by decide) (fun hc => ?_) (fun hc => ?_)
    · have hw := hw.1 hc
      exact hret _ _ _ _ _ dX4_emptyGrid_24 hm hw
    · have hw := hw.2 hc
      refine q_aload_n F 0 dX4_emptyGrid_11 rfl rfl ?_
      refine t_g_Puzzle_grid F (kP0 hp) ib4 wd180 (p + 1) rfl dX4_emptyGrid_12 ?_
      refine q_iload_n F 1 dX4_emptyGrid_15 rfl rfl ?_
      refine q_iconst F dX4_emptyGrid_16 ?_
      obtain ⟨k1, hw⟩ := hw
      obtain ⟨I2, e3⟩ := ex1 (up2 I (p + 1) x1 0)
      have hw := hw I2 e3
      have m4 : cM I2 R := cM_I hm e3 (⟨by decide, by decide⟩ : inR (0))
      refine t_ast F 25 (kP1 hp) k1 (by decide) e3 dX4_emptyGrid_17 ?_
      obtain ⟨k7, hw⟩ := hw
      obtain ⟨z5, e6⟩ := ex1 (x1 + 1)
      have hw := hw z5 e6
      have hz5 : inR z5 := by rw [e6]; exact k7
      refine q_iinc (lv' := [(0, .ref (E.1 p)), (1, iV z5)]) F 1 [1, 0] dX4_emptyGrid_18 rfl (q_n hN (by decide)) e6.symm rfl ?_
      refine q_goto F 2 dX4_emptyGrid_21 (by decide) ?_
      exact ih z5 I2 R hz5 m4 hw
set_option maxHeartbeats 4000000 in
set_option maxRecDepth 100000 in
theorem kcX4_emptyGrid {l : Launch} {D : va_G} {E : cE} {p : Nat} {I : cI} {R : cR} (hm : cM I R) (hp : isP p) {Q : cI → cR → Prop} (hw : wX4_emptyGrid p I R Q) : gM l D E cIds yX4_emptyGrid vX4_emptyGrid (rmK 1 (0) (0)) [.ref (E.1 p)] (cef E (I, R)) (cef E) (pV Q) (0) (0) := by
  unfold wX4_emptyGrid at hw
  refine k_ofW (own := RX4) (cc := cX4_emptyGrid) (maxL := 2) (ret := none) (lv := [(0, .ref (E.1 p))]) (by decide) rfl rfl (Nat.le_of_ble_eq_true rfl) rfl ?_
  intro X hl hR hN hD F K
  subst hl; subst hD
  have hret := mk_rV (Q := Q) F K
  refine q_iconst F dX4_emptyGrid_0 ?_
  refine q_istore_n (lv' := [(0, .ref (E.1 p)), (1, iV 0)]) F [1, 0] dX4_emptyGrid_1 rfl (q_n hN (by decide)) rfl ?_
  obtain ⟨n1, hw⟩ := hw
  exact bX4_emptyGrid_2 F hR hN hret hp n1 0 I R (⟨by decide, by decide⟩ : inR (0)) hm hw
theorem ydX4_begin : yX4_begin.cls = RX4 ∧ yX4_begin.cls ≠ "java/lang/invoke/MethodHandle" ∧ yX4_begin.cls ≠ "java/lang/invoke/VarHandle" ∧ (parseMethodDescriptor yX4_begin.desc).map (fun d => d.parameters.length) = some 3 := by decide +kernel
def vX4_begin : List Cond := Cond.code yX4_begin cX4_begin 4 none :: bG
set_option maxHeartbeats 4000000 in
set_option maxRecDepth 100000 in
theorem kcX4_begin {l : Launch} {D : va_G} {E : cE} {p : Nat} {a1 : Int} {a2 : Int} {a3 : Int} {I : cI} {R : cR} (hm : cM I R) (hp : isP p) (ha1 : inR a1) (ha2 : inR a2) (ha3 : inR a3) {Q : cI → cR → Prop} (hw : wX4_begin p a1 a2 a3 I R Q) : gM l D E cIds yX4_begin vX4_begin (rmK 2 (0) (0)) [.ref (E.1 p), iV a1, iV a2, iV a3] (cef E (I, R)) (cef E) (pV Q) (0) (0) := by
  unfold wX4_begin at hw
  refine k_ofW (own := RX4) (cc := cX4_begin) (maxL := 4) (ret := none) (lv := [(0, .ref (E.1 p)), (1, iV a1), (2, iV a2), (3, iV a3)]) (by decide) rfl rfl (Nat.le_of_ble_eq_true rfl) rfl ?_
  intro X hl hR hN hD F K
  subst hl; subst hD
  have hret := mk_rV (Q := Q) F K
  refine q_aload_n F 0 dX4_begin_0 rfl rfl ?_
  refine q_iload_n F 1 dX4_begin_1 rfl rfl ?_
  obtain ⟨I1, e2⟩ := ex1 (up2 I p 0 a1)
  have hw := hw I1 e2
  have m3 : cM I1 R := cM_I hm e2 ha1
  refine t_p_Puzzle_columns F (kP0 hp) ib4 wd165 e2 dX4_begin_2 ?_
  refine q_aload_n F 0 dX4_begin_5 rfl rfl ?_
  refine q_iload_n F 2 dX4_begin_6 rfl rfl ?_
  obtain ⟨I4, e5⟩ := ex1 (up2 I1 p 1 a2)
  have hw := hw I4 e5
  have m6 : cM I4 R := cM_I m3 e5 ha2
  refine t_p_Puzzle_rows F (kP0 hp) ib4 wd169 e5 dX4_begin_7 ?_
  refine q_aload_n F 0 dX4_begin_10 rfl rfl ?_
  refine q_iload_n F 3 dX4_begin_11 rfl rfl ?_
  obtain ⟨I7, e8⟩ := ex1 (up2 I4 p 2 a3)
  have hw := hw I7 e8
  have m9 : cM I7 R := cM_I m6 e8 ha3
  refine t_p_Puzzle_highest F (kP0 hp) ib4 wd173 e8 dX4_begin_12 ?_
  refine q_aload_n F 0 dX4_begin_15 rfl rfl ?_
  refine q_iconst F dX4_begin_16 ?_
  obtain ⟨I10, e11⟩ := ex1 (up2 I7 p 5 0)
  have hw := hw I10 e11
  have m12 : cM I10 R := cM_I m9 e11 (⟨by decide, by decide⟩ : inR (0))
  refine t_p_Puzzle_ruleCount F (kP0 hp) ib4 wd188 e11 dX4_begin_17 ?_
  refine q_aload_n F 0 dX4_begin_20 rfl rfl ?_
  refine q_Vv F (kcX4_emptyGrid m12 hp hw) (cIds_in (kP0 hp).2) (cePuzzle (kP0 hp).1) (ci := 2) rfl (bV wd336 wd337 wd338 wd9 wd339) rfl ⟨rfl, rfl⟩ ydX4_emptyGrid (rmK_le hR (by omega) (by decide)) (av := []) rfl rfl (Nat.le_of_ble_eq_true rfl) dX4_begin_21 (rmK_cs hR (by omega) (by omega)) (fun I14 R15 m17 hw => ?_)
  exact hret _ _ _ _ _ dX4_begin_24 m17 hw
theorem ydX5_readSizes : yX5_readSizes.cls = RX5 ∧ yX5_readSizes.cls ≠ "java/lang/invoke/MethodHandle" ∧ yX5_readSizes.cls ≠ "java/lang/invoke/VarHandle" ∧ (parseMethodDescriptor yX5_readSizes.desc).map (fun d => d.parameters.length) = some 1 := by decide +kernel
def vX5_readSizes : List Cond := Cond.code yX5_readSizes cX5_readSizes 3 (some .boolean) :: bG
set_option maxHeartbeats 4000000 in
set_option maxRecDepth 100000 in
theorem bX5_readSizes_35 {X : xC} {E : cE} (F : mF X E RX5 cX5_readSizes bG) (hR : X.1.2.2.2 = rmK 3 (0) (0)) (hN : X.2.2.1.2.2.2 = 3) {Q : Int → cI → cR → Prop} (hret : rZ X E cX5_readSizes (0) (0) Q) {a1 : Nat} (ha1 : isP a1) : ∀ (I : cI) (R : cR), cM I R → wX5_readSizes_35 Q a1 I R → cW X (0) (0) 35 [(0, .ref (E.1 3))] [] (gw E.1 cIds (cef E (I, R)) ++ []) := by
  intro I R hm hw
  unfold wX5_readSizes_35 at hw
  refine q_aload_n F 0 dX5_readSizes_35 rfl rfl ?_
  refine q_iconst F dX5_readSizes_36 ?_
  refine q_Vi F (kcX5_fail hm (⟨by decide, by decide⟩ : inR (2)) hw) (cIds_in (show ckd 3 = 3 ∧ 3 < 353 by decide).2) (ceReader (show ckd 3 = 3 ∧ 3 < 353 by decide).1) (ci := 3) rfl (bV wd322 wd323 wd887 wd3 wd324) rfl ⟨rfl, rfl⟩ ydX5_fail (rmK_le hR (by omega) (by decide)) (av := [iV 2]) rfl rfl (Nat.le_of_ble_eq_true rfl) dX5_readSizes_37 (rmK_cs hR (by omega) (by omega)) (fun r1 I2 R3 h4 m5 hw => ?_)
  obtain ⟨k6, hw⟩ := hw
  exact hret _ _ _ _ _ _ dX5_readSizes_40 k6 h4 m5 hw
set_option maxHeartbeats 4000000 in
set_option maxRecDepth 100000 in
theorem bX5_readSizes_5 {X : xC} {E : cE} (F : mF X E RX5 cX5_readSizes bG) (hR : X.1.2.2.2 = rmK 3 (0) (0)) (hN : X.2.2.1.2.2.2 = 3) {Q : Int → cI → cR → Prop} (hret : rZ X E cX5_readSizes (0) (0) Q) {a1 : Nat} (ha1 : isP a1) : ∀ n5 : Nat, ∀ (I : cI) (R : cR), cM I R → wX5_readSizes_5 Q a1 n5 I R → cW X (0) (0) 5 [(0, .ref (E.1 3)), (1, .ref (E.1 a1))] [] (gw E.1 cIds (cef E (I, R)) ++ []) := by
  intro n5
  induction n5 with
  | zero => intro I R hm hw; exact hw.elim
  | succ n5 ih =>
    intro I R hm hw
    change wbX5_readSizes_5 Q a1 (wX5_readSizes_5 Q a1 n5) I R at hw
    unfold wbX5_readSizes_5 at hw
    refine q_aload_n F 0 dX5_readSizes_5 rfl rfl ?_
    refine t_g_Reader_place F (by decide) ib5 wd66 dX5_readSizes_6 ?_
    refine q_iconst F dX5_readSizes_9 ?_
    refine q_icmp_gt F (hm.1 _ _) (⟨by decide, by decide⟩ : inR (3)) 54 dX5_readSizes_10 (by decide) (fun hc => ?_) (fun hc => ?_)
    · have hw := hw.1 hc
      refine q_aload_n F 1 dX5_readSizes_54 rfl rfl ?_
      refine q_aload_n F 0 dX5_readSizes_55 rfl rfl ?_
      refine t_g_Reader_tokens F (by decide) ib5 wd65 4 rfl dX5_readSizes_56 ?_
      refine q_iconst F dX5_readSizes_59 ?_
      refine q_Vi F (kcX10_numberAt hm (⟨by decide, by decide⟩ : inR (1)) hw) (cIds_in (show ckd 4 = 8 ∧ 4 < 353 by decide).2) (ceTokens (show ckd 4 = 8 ∧ 4 < 353 by decide).1) (ci := 8) rfl (bV wd302 wd303 wd304 wd4 wd305) rfl ⟨rfl, rfl⟩ ydX10_numberAt (rmK_le hR (by omega) (by decide)) (av := [iV 1]) rfl rfl (Nat.le_of_ble_eq_true rfl) dX5_readSizes_60 (rmK_cs hR (by omega) (by omega)) (fun r1 I2 R3 h4 m5 hw => ?_)
      refine q_aload_n F 0 dX5_readSizes_63 rfl rfl ?_
      refine t_g_Reader_tokens F (by decide) ib5 wd65 4 rfl dX5_readSizes_64 ?_
      refine q_iconst F dX5_readSizes_67 ?_
      refine q_Vi F (kcX10_numberAt m5 (⟨by decide, by decide⟩ : inR (2)) hw) (cIds_in (show ckd 4 = 8 ∧ 4 < 353 by decide).2) (ceTokens (show ckd 4 = 8 ∧ 4 < 353 by decide).1) (ci := 8) rfl (bV wd302 wd303 wd304 wd4 wd305) rfl ⟨rfl, rfl⟩ ydX10_numberAt (rmK_le hR (by omega) (by decide)) (av := [iV 2]) rfl rfl (Nat.le_of_ble_eq_true rfl) dX5_readSizes_68 (rmK_cs hR (by omega) (by omega)) (fun r6 I7 R8 h9 m10 hw => ?_)
      refine q_aload_n F 0 dX5_readSizes_71 rfl rfl ?_
      refine t_g_Reader_tokens F (by decide) ib5 wd65 4 rfl dX5_readSizes_72 ?_
      refine q_iconst F dX5_readSizes_75 ?_
      refine q_Vi F (kcX10_numberAt m10 (⟨by decide, by decide⟩ : inR (3)) hw) (cIds_in (show ckd 4 = 8 ∧ 4 < 353 by decide).2) (ceTokens (show ckd 4 = 8 ∧ 4 < 353 by decide).1) (ci := 8) rfl (bV wd302 wd303 wd304 wd4 wd305) rfl ⟨rfl, rfl⟩ ydX10_numberAt (rmK_le hR (by omega) (by decide)) (av := [iV 3]) rfl rfl (Nat.le_of_ble_eq_true rfl) dX5_readSizes_76 (rmK_cs hR (by omega) (by omega)) (fun r11 I12 R13 h14 m15 hw => ?_)
      refine q_Vv F (kcX4_begin m15 ha1 h4 h9 h14 hw) (cIds_in (kP0 ha1).2) (cePuzzle (kP0 ha1).1) (ci := 2) rfl (bV wd332 wd333 wd334 wd9 wd335) rfl ⟨rfl, rfl⟩ ydX4_begin (rmK_le hR (by omega) (by decide)) (av := [iV r1, iV r6, iV r11]) rfl rfl (Nat.le_of_ble_eq_true rfl) dX5_readSizes_79 (rmK_cs hR (by omega) (by omega)) (fun I17 R18 m20 hw => ?_)
      refine q_iconst F dX5_readSizes_82 ?_
      exact hret _ _ _ _ _ _ dX5_readSizes_83 (Or.inr rfl) (⟨by decide, by decide⟩ : inR (1)) m20 hw
    · have hw := hw.2 hc
      refine q_aload_n F 0 dX5_readSizes_13 rfl rfl ?_
      refine t_g_Reader_tokens F (by decide) ib5 wd65 4 rfl dX5_readSizes_14 ?_
      refine q_aload_n F 0 dX5_readSizes_17 rfl rfl ?_
      refine t_g_Reader_place F (by decide) ib5 wd66 dX5_readSizes_18 ?_
      refine q_Vi F (kcX10_numberAt hm (hm.1 _ _) hw) (cIds_in (show ckd 4 = 8 ∧ 4 < 353 by decide).2) (ceTokens (show ckd 4 = 8 ∧ 4 < 353 by decide).1) (ci := 8) rfl (bV wd302 wd303 wd304 wd4 wd305) rfl ⟨rfl, rfl⟩ ydX10_numberAt (rmK_le hR (by omega) (by decide)) (av := [iV ((I 3 3))]) rfl rfl (Nat.le_of_ble_eq_true rfl) dX5_readSizes_21 (rmK_cs hR (by omega) (by omega)) (fun r21 I22 R23 h24 m25 hw => ?_)
      refine q_istore_n (lv' := [(0, .ref (E.1 3)), (1, .ref (E.1 a1)), (2, iV r21)]) F [1, 2, 0] dX5_readSizes_24 rfl (q_n hN (by decide)) rfl ?_
      refine q_iload_n F 2 dX5_readSizes_25 rfl rfl ?_
      refine q_iconst F dX5_readSizes_26 ?_
      refine q_icmp_lt F h24 (⟨by decide, by decide⟩ : inR (2)) 35 dX5_readSizes_27 (by decide) (fun hc => ?_) (fun hc => ?_)
      · have hw := hw.1 hc
        refine q_lv [0] rfl ?_
        exact bX5_readSizes_35 F hR hN hret ha1 I22 R23 m25 hw
      · have hw := hw.2 hc
        refine q_iload_n F 2 dX5_readSizes_30 rfl rfl ?_
        refine q_iconst F dX5_readSizes_31 ?_
        refine q_icmp_le F h24 (⟨by decide, by decide⟩ : inR (5)) 41 dX5_readSizes_32 (by decide) (fun hc => ?_) (fun hc => ?_)
        · have hw := hw.1 hc
          refine q_aload_n F 0 dX5_readSizes_41 rfl rfl ?_
          refine q_dup F dX5_readSizes_42 rfl ?_
          refine t_g_Reader_place F (by decide) ib5 wd66 dX5_readSizes_43 ?_
          refine q_iconst F dX5_readSizes_46 ?_
          refine q_iadd F dX5_readSizes_47 ?_
          obtain ⟨k26, hw⟩ := hw
          obtain ⟨I27, e28⟩ := ex1 (up2 I22 3 3 (((I22 3 3) + 1)))
          have hw := hw I27 e28
          have m29 : cM I27 R23 := cM_I m25 e28 k26
          refine t_p_Reader_place F (by decide) ib5 wd66 e28 dX5_readSizes_48 ?_
          refine q_goto F 5 dX5_readSizes_51 (by decide) ?_
          refine q_lv [0, 1] rfl ?_
          exact ih I27 R23 m29 hw
        · have hw := hw.2 hc
          refine q_lv [0] rfl ?_
          exact bX5_readSizes_35 F hR hN hret ha1 I22 R23 m25 hw
set_option maxHeartbeats 4000000 in
set_option maxRecDepth 100000 in
theorem kcX5_readSizes {l : Launch} {D : va_G} {E : cE} {a1 : Nat} {I : cI} {R : cR} (hm : cM I R) (ha1 : isP a1) {Q : Int → cI → cR → Prop} (hw : wX5_readSizes a1 I R Q) : gM l D E cIds yX5_readSizes vX5_readSizes (rmK 3 (0) (0)) [.ref (E.1 3), .ref (E.1 a1)] (cef E (I, R)) (cef E) (pI Q) (0) (0) := by
  unfold wX5_readSizes at hw
  refine k_ofW (own := RX5) (cc := cX5_readSizes) (maxL := 3) (ret := (some .boolean)) (lv := [(0, .ref (E.1 3)), (1, .ref (E.1 a1))]) (by decide) rfl rfl (Nat.le_of_ble_eq_true rfl) rfl ?_
  intro X hl hR hN hD F K
  subst hl; subst hD
  have hret := mk_rZ (Q := Q) F K
  refine q_aload_n F 0 dX5_readSizes_0 rfl rfl ?_
  refine q_iconst F dX5_readSizes_1 ?_
  obtain ⟨I1, e2⟩ := ex1 (up2 I 3 3 1)
  have hw := hw I1 e2
  have m3 : cM I1 R := cM_I hm e2 (⟨by decide, by decide⟩ : inR (1))
  refine t_p_Reader_place F (by decide) ib5 wd66 e2 dX5_readSizes_2 ?_
  obtain ⟨n4, hw⟩ := hw
  exact bX5_readSizes_5 F hR hN hret ha1 n4 I1 R m3 hw
theorem ydX5_rulesOf : yX5_rulesOf.cls = RX5 ∧ yX5_rulesOf.cls ≠ "java/lang/invoke/MethodHandle" ∧ yX5_rulesOf.cls ≠ "java/lang/invoke/VarHandle" ∧ (parseMethodDescriptor yX5_rulesOf.desc).map (fun d => d.parameters.length) = some 2 := by decide +kernel
def vX5_rulesOf : List Cond := Cond.code yX5_rulesOf cX5_rulesOf 2 (some .int) :: bG
set_option maxHeartbeats 4000000 in
set_option maxRecDepth 100000 in
theorem kcX5_rulesOf {l : Launch} {D : va_G} {E : cE} {a0 : Int} {a1 : Nat} {I : cI} {R : cR} (hm : cM I R) (ha0 : inR a0) (ha1 : isP a1) {Q : Int → cI → cR → Prop} (hw : wX5_rulesOf a0 a1 I R Q) : gM l D E cIds yX5_rulesOf vX5_rulesOf (rmK 1 (0) (0)) [iV a0, .ref (E.1 a1)] (cef E (I, R)) (cef E) (pI Q) (0) (0) := by
  unfold wX5_rulesOf at hw
  refine k_ofW (own := RX5) (cc := cX5_rulesOf) (maxL := 2) (ret := (some .int)) (lv := [(0, iV a0), (1, .ref (E.1 a1))]) (by decide) rfl rfl (Nat.le_of_ble_eq_true rfl) rfl ?_
  intro X hl hR hN hD F K
  subst hl; subst hD
  have hret := mk_rI (Q := Q) F K
  refine q_iload_n F 0 dX5_rulesOf_0 rfl rfl ?_
  refine q_bipush F dX5_rulesOf_1 (by decide) ?_
  refine q_icmp_ne F ha0 (⟨by decide, by decide⟩ : inR (12)) 11 dX5_rulesOf_3 (by decide) (fun hc => ?_) (fun hc => ?_)
  · have hw := hw.1 hc
    refine q_iload_n F 0 dX5_rulesOf_11 rfl rfl ?_
    refine q_bipush F dX5_rulesOf_12 (by decide) ?_
    refine q_icmp_ne F ha0 (⟨by decide, by decide⟩ : inR (13)) 24 dX5_rulesOf_14 (by decide) (fun hc => ?_) (fun hc => ?_)
    · have hw := hw.1 hc
      refine q_iconst F dX5_rulesOf_24 ?_
      exact hret _ _ _ _ _ _ dX5_rulesOf_25 (⟨by decide, by decide⟩ : inR (1)) hm hw
    · have hw := hw.2 hc
      refine q_aload_n F 1 dX5_rulesOf_17 rfl rfl ?_
      refine t_g_Puzzle_columns F (kP0 ha1) ib4 wd168 dX5_rulesOf_18 ?_
      refine q_goto F 25 dX5_rulesOf_21 (by decide) ?_
      exact hret _ _ _ _ _ _ dX5_rulesOf_25 (hm.1 _ _) hm hw
  · have hw := hw.2 hc
    refine q_aload_n F 1 dX5_rulesOf_6 rfl rfl ?_
    refine t_g_Puzzle_rows F (kP0 ha1) ib4 wd172 dX5_rulesOf_7 ?_
    exact hret _ _ _ _ _ _ dX5_rulesOf_10 (hm.1 _ _) hm hw
theorem ydX7_begin : yX7_begin.cls = RX7 ∧ yX7_begin.cls ≠ "java/lang/invoke/MethodHandle" ∧ yX7_begin.cls ≠ "java/lang/invoke/VarHandle" ∧ (parseMethodDescriptor yX7_begin.desc).map (fun d => d.parameters.length) = some 1 := by decide +kernel
def vX7_begin : List Cond := Cond.code yX7_begin cX7_begin 2 none :: bG
set_option maxHeartbeats 4000000 in
set_option maxRecDepth 100000 in
theorem kcX7_begin {l : Launch} {D : va_G} {E : cE} {r0 : Nat} {a1 : Nat} {I : cI} {R : cR} (hm : cM I R) (hr0 : isR r0) (ha1 : a1 < 12) {Q : cI → cR → Prop} (hw : wX7_begin r0 a1 I R Q) : gM l D E cIds yX7_begin vX7_begin (rmK 1 (0) (0)) [.ref (E.1 r0), .ref (E.2.1 0 a1)] (cef E (I, R)) (cef E) (pV Q) (0) (0) := by
  unfold wX7_begin at hw
  refine k_ofW (own := RX7) (cc := cX7_begin) (maxL := 2) (ret := none) (lv := [(0, .ref (E.1 r0)), (1, .ref (E.2.1 0 a1))]) (by decide) rfl rfl (Nat.le_of_ble_eq_true rfl) rfl ?_
  intro X hl hR hN hD F K
  subst hl; subst hD
  have hret := mk_rV (Q := Q) F K
  refine q_aload_n F 0 dX7_begin_0 rfl rfl ?_
  refine q_aload_n F 1 dX7_begin_1 rfl rfl ?_
  obtain ⟨R1, e2⟩ := ex1 (up2 R r0 0 a1)
  have hw := hw R1 e2
  have m3 : cM I R1 := cM_kind hm hr0 e2 ha1
  refine t_p_Rule_kind F (kR0 hr0) ib7 wd142 e2 dX7_begin_2 ?_
  refine q_aload_n F 0 dX7_begin_5 rfl rfl ?_
  refine q_iconst F dX7_begin_6 ?_
  obtain ⟨I4, e5⟩ := ex1 (up2 I r0 1 0)
  have hw := hw I4 e5
  have m6 : cM I4 R1 := cM_I m3 e5 (⟨by decide, by decide⟩ : inR (0))
  refine t_p_Rule_number F (kR0 hr0) ib7 wd147 e5 dX7_begin_7 ?_
  refine q_aload_n F 0 dX7_begin_10 rfl rfl ?_
  refine q_iconst F dX7_begin_11 ?_
  obtain ⟨I7, e8⟩ := ex1 (up2 I4 r0 2 0)
  have hw := hw I7 e8
  have m9 : cM I7 R1 := cM_I m6 e8 (⟨by decide, by decide⟩ : inR (0))
  refine t_p_Rule_times F (kR0 hr0) ib7 wd152 e8 dX7_begin_12 ?_
  refine q_aload_n F 0 dX7_begin_15 rfl rfl ?_
  refine q_iconst F dX7_begin_16 ?_
  obtain ⟨I10, e11⟩ := ex1 (up2 I7 r0 3 0)
  have hw := hw I10 e11
  have m12 : cM I10 R1 := cM_I m9 e11 (⟨by decide, by decide⟩ : inR (0))
  refine t_p_Rule_size F (kR0 hr0) ib7 wd156 e11 dX7_begin_17 ?_
  refine q_aload_n F 0 dX7_begin_20 rfl rfl ?_
  refine q_iconst F dX7_begin_21 ?_
  obtain ⟨I13, e14⟩ := ex1 (up2 I10 r0 5 0)
  have hw := hw I13 e14
  have m15 : cM I13 R1 := cM_I m12 e14 (⟨by decide, by decide⟩ : inR (0))
  refine t_p_Rule_mask F (kR0 hr0) ib7 wd164 e14 dX7_begin_22 ?_
  exact hret _ _ _ _ _ dX7_begin_25 m15 hw
theorem ydX4_addRule : yX4_addRule.cls = RX4 ∧ yX4_addRule.cls ≠ "java/lang/invoke/MethodHandle" ∧ yX4_addRule.cls ≠ "java/lang/invoke/VarHandle" ∧ (parseMethodDescriptor yX4_addRule.desc).map (fun d => d.parameters.length) = some 1 := by decide +kernel
def vX4_addRule : List Cond := Cond.code yX4_addRule cX4_addRule 3 (some (.object "RiddleMill$Rule")) :: bG
set_option maxHeartbeats 4000000 in
set_option maxRecDepth 100000 in
theorem bX4_addRule_26 {X : xC} {E : cE} (F : mF X E RX4 cX4_addRule bG) (hR : X.1.2.2.2 = rmK 2 (0) (0)) (hN : X.2.2.1.2.2.2 = 3) {Q : Nat → cI → cR → Prop} (hret : rR X E cX4_addRule (0) (0) Q) {p : Nat} {a1 : Nat} (hp : isP p) (ha1 : a1 < 12) : ∀ (y0 : Int) (I : cI) (R : cR), inR y0 → cM I R → wX4_addRule_26 Q p a1 y0 I R → cW X (0) (0) 26 [(0, .ref (E.1 p)), (1, .ref (E.2.1 0 a1))] [iV y0] (gw E.1 cIds (cef E (I, R)) ++ []) := by
  intro y0 I R hy0 hm hw
  unfold wX4_addRule_26 at hw
  refine q_istore_n (lv' := [(0, .ref (E.1 p)), (1, .ref (E.2.1 0 a1)), (2, iV y0)]) F [1, 2, 0] dX4_addRule_26 rfl (q_n hN (by decide)) rfl ?_
  refine q_aload_n F 0 dX4_addRule_27 rfl rfl ?_
  refine q_iload_n F 2 dX4_addRule_28 rfl rfl ?_
  refine q_iconst F dX4_addRule_29 ?_
  refine q_iadd F dX4_addRule_30 ?_
  obtain ⟨k1, hw⟩ := hw
  obtain ⟨I2, e3⟩ := ex1 (up2 I p 5 ((y0 + 1)))
  have hw := hw I2 e3
  have m4 : cM I2 R := cM_I hm e3 k1
  refine t_p_Puzzle_ruleCount F (kP0 hp) ib4 wd188 e3 dX4_addRule_31 ?_
  refine q_aload_n F 0 dX4_addRule_34 rfl rfl ?_
  refine t_g_Puzzle_rules F (kP0 hp) ib4 wd184 (p + 2) rfl dX4_addRule_35 ?_
  refine q_iload_n F 2 dX4_addRule_38 rfl rfl ?_
  obtain ⟨k5, hw⟩ := hw
  refine t_rld F (kP2 hp) k5 dX4_addRule_39 ?_
  refine q_aload_n F 1 dX4_addRule_40 rfl rfl ?_
  refine q_Vv F (kcX7_begin m4 (m4.2.2.2.1 _ hp _ k5) ha1 hw) (cIds_in (kR0 (m4.2.2.2.1 _ hp _ k5)).2) (ceRule (kR0 (m4.2.2.2.1 _ hp _ k5)).1) (ci := 5) rfl (bV wd358 wd359 wd360 wd10 wd361) rfl ⟨rfl, rfl⟩ ydX7_begin (rmK_le hR (by omega) (by decide)) (av := [.ref (E.2.1 0 a1)]) rfl rfl (Nat.le_of_ble_eq_true rfl) dX4_addRule_41 (rmK_cs hR (by omega) (by omega)) (fun I7 R8 m10 hw => ?_)
  refine q_aload_n F 0 dX4_addRule_44 rfl rfl ?_
  refine t_g_Puzzle_rules F (kP0 hp) ib4 wd184 (p + 2) rfl dX4_addRule_45 ?_
  refine q_iload_n F 2 dX4_addRule_48 rfl rfl ?_
  obtain ⟨k11, hw⟩ := hw
  refine t_rld F (kP2 hp) k11 dX4_addRule_49 ?_
  exact hret _ _ _ _ _ _ dX4_addRule_50 (m10.2.2.2.1 _ hp _ k11) m10 hw
set_option maxHeartbeats 4000000 in
set_option maxRecDepth 100000 in
theorem kcX4_addRule {l : Launch} {D : va_G} {E : cE} {p : Nat} {a1 : Nat} {I : cI} {R : cR} (hm : cM I R) (hp : isP p) (ha1 : a1 < 12) {Q : Nat → cI → cR → Prop} (hw : wX4_addRule p a1 I R Q) : gM l D E cIds yX4_addRule vX4_addRule (rmK 2 (0) (0)) [.ref (E.1 p), .ref (E.2.1 0 a1)] (cef E (I, R)) (cef E) (pR E Q) (0) (0) := by
  unfold wX4_addRule at hw
  refine k_ofW (own := RX4) (cc := cX4_addRule) (maxL := 3) (ret := (some (.object "RiddleMill$Rule"))) (lv := [(0, .ref (E.1 p)), (1, .ref (E.2.1 0 a1))]) (by decide) rfl rfl (Nat.le_of_ble_eq_true rfl) rfl ?_
  intro X hl hR hN hD F K
  subst hl; subst hD
  have hret := mk_rR (Q := Q) F K
  refine q_aload_n F 0 dX4_addRule_0 rfl rfl ?_
  refine t_g_Puzzle_ruleCount F (kP0 hp) ib4 wd188 dX4_addRule_1 ?_
  refine q_aload_n F 0 dX4_addRule_4 rfl rfl ?_
  refine t_g_Puzzle_rules F (kP0 hp) ib4 wd184 (p + 2) rfl dX4_addRule_5 ?_
  refine t_rlen F (kP2 hp) dX4_addRule_8 ?_
  refine q_icmp_ge F (hm.1 _ _) (⟨by decide, by decide⟩ : inR (65)) 19 dX4_addRule_9 (by decide) (fun hc => ?_) (fun hc => ?_)
  · have hw := hw.1 hc
    refine q_aload_n F 0 dX4_addRule_19 rfl rfl ?_
    refine t_g_Puzzle_rules F (kP0 hp) ib4 wd184 (p + 2) rfl dX4_addRule_20 ?_
    refine t_rlen F (kP2 hp) dX4_addRule_23 ?_
    refine q_iconst F dX4_addRule_24 ?_
    refine q_isub F dX4_addRule_25 ?_
    obtain ⟨k1, hw⟩ := hw
    exact bX4_addRule_26 F hR hN hret hp ha1 ((65 - 1)) I R k1 hm hw
  · have hw := hw.2 hc
    refine q_aload_n F 0 dX4_addRule_12 rfl rfl ?_
    refine t_g_Puzzle_ruleCount F (kP0 hp) ib4 wd188 dX4_addRule_13 ?_
    refine q_goto F 26 dX4_addRule_16 (by decide) ?_
    exact bX4_addRule_26 F hR hN hret hp ha1 ((I p 5)) I R (hm.1 _ _) hm hw
theorem ydX7_addCell : yX7_addCell.cls = RX7 ∧ yX7_addCell.cls ≠ "java/lang/invoke/MethodHandle" ∧ yX7_addCell.cls ≠ "java/lang/invoke/VarHandle" ∧ (parseMethodDescriptor yX7_addCell.desc).map (fun d => d.parameters.length) = some 1 := by decide +kernel
def vX7_addCell : List Cond := Cond.code yX7_addCell cX7_addCell 2 none :: bG
set_option maxHeartbeats 4000000 in
set_option maxRecDepth 100000 in
theorem kcX7_addCell {l : Launch} {D : va_G} {E : cE} {r0 : Nat} {a1 : Int} {I : cI} {R : cR} (hm : cM I R) (hr0 : isR r0) (ha1 : inR a1) {Q : cI → cR → Prop} (hw : wX7_addCell r0 a1 I R Q) : gM l D E cIds yX7_addCell vX7_addCell (rmK 1 (0) (0)) [.ref (E.1 r0), iV a1] (cef E (I, R)) (cef E) (pV Q) (0) (0) := by
  unfold wX7_addCell at hw
  refine k_ofW (own := RX7) (cc := cX7_addCell) (maxL := 2) (ret := none) (lv := [(0, .ref (E.1 r0)), (1, iV a1)]) (by decide) rfl rfl (Nat.le_of_ble_eq_true rfl) rfl ?_
  intro X hl hR hN hD F K
  subst hl; subst hD
  have hret := mk_rV (Q := Q) F K
  refine q_aload_n F 0 dX7_addCell_0 rfl rfl ?_
  refine t_g_Rule_size F (kR0 hr0) ib7 wd156 dX7_addCell_1 ?_
  refine q_aload_n F 0 dX7_addCell_4 rfl rfl ?_
  refine t_g_Rule_cells F (kR0 hr0) ib7 wd161 (r0 + 130) rfl dX7_addCell_5 ?_
  refine t_alen F 5 (kR4 hr0) dX7_addCell_8 ?_
  refine q_icmp_ge F (hm.1 _ _) (⟨by decide, by decide⟩ : inR (5)) 44 dX7_addCell_9 (by decide) (fun hc => ?_) (fun hc => ?_)
  · have hw := hw.1 hc
    exact hret _ _ _ _ _ dX7_addCell_44 hm hw
  · have hw := hw.2 hc
    refine q_aload_n F 0 dX7_addCell_12 rfl rfl ?_
    refine t_g_Rule_cells F (kR0 hr0) ib7 wd161 (r0 + 130) rfl dX7_addCell_13 ?_
    refine q_aload_n F 0 dX7_addCell_16 rfl rfl ?_
    refine t_g_Rule_size F (kR0 hr0) ib7 wd156 dX7_addCell_17 ?_
    refine q_iload_n F 1 dX7_addCell_20 rfl rfl ?_
    obtain ⟨k1, hw⟩ := hw
    obtain ⟨I2, e3⟩ := ex1 (up2 I (r0 + 130) ((I r0 3)) a1)
    have hw := hw I2 e3
    have m4 : cM I2 R := cM_I hm e3 ha1
    refine t_ast F 5 (kR4 hr0) k1 (by decide) e3 dX7_addCell_21 ?_
    refine q_aload_n F 0 dX7_addCell_22 rfl rfl ?_
    refine q_dup F dX7_addCell_23 rfl ?_
    refine t_g_Rule_size F (kR0 hr0) ib7 wd156 dX7_addCell_24 ?_
    refine q_iconst F dX7_addCell_27 ?_
    refine q_iadd F dX7_addCell_28 ?_
    obtain ⟨k5, hw⟩ := hw
    obtain ⟨I6, e7⟩ := ex1 (up2 I2 r0 3 (((I2 r0 3) + 1)))
    have hw := hw I6 e7
    have m8 : cM I6 R := cM_I m4 e7 k5
    refine t_p_Rule_size F (kR0 hr0) ib7 wd156 e7 dX7_addCell_29 ?_
    refine q_aload_n F 0 dX7_addCell_32 rfl rfl ?_
    refine q_dup F dX7_addCell_33 rfl ?_
    refine t_g_Rule_mask F (kR0 hr0) ib7 wd164 dX7_addCell_34 ?_
    refine q_iconst F dX7_addCell_37 ?_
    refine q_iload_n F 1 dX7_addCell_38 rfl rfl ?_
    refine q_ishl F dX7_addCell_39 ?_
    refine q_ior F dX7_addCell_40 ?_
    obtain ⟨I9, e10⟩ := ex1 (up2 I6 r0 5 ((iOr ((I6 r0 5)) ((iShl 1 a1)))))
    have hw := hw I9 e10
    have m11 : cM I9 R := cM_I m8 e10 (ti_rng _)
    refine t_p_Rule_mask F (kR0 hr0) ib7 wd164 e10 dX7_addCell_41 ?_
    exact hret _ _ _ _ _ dX7_addCell_44 m11 hw
theorem ydX4_addRowRules : yX4_addRowRules.cls = RX4 ∧ yX4_addRowRules.cls ≠ "java/lang/invoke/MethodHandle" ∧ yX4_addRowRules.cls ≠ "java/lang/invoke/VarHandle" ∧ (parseMethodDescriptor yX4_addRowRules.desc).map (fun d => d.parameters.length) = some 0 := by decide +kernel
def vX4_addRowRules : List Cond := Cond.code yX4_addRowRules cX4_addRowRules 4 none :: bG
set_option maxHeartbeats 4000000 in
set_option maxRecDepth 100000 in
theorem bX4_addRowRules_20 {X : xC} {E : cE} (F : mF X E RX4 cX4_addRowRules bG) (hR : X.1.2.2.2 = rmK 3 (0) (0)) (hN : X.2.2.1.2.2.2 = 4) {Q : cI → cR → Prop} (hret : rV X E cX4_addRowRules (0) (0) Q) {p : Nat} (hp : isP p) {K2 : Int → cI → cR → Prop} (hK2 : ∀ (x1 : Int) (I : cI) (R : cR), inR x1 → cM I R → K2 x1 I R → cW X (0) (0) 2 [(0, .ref (E.1 p)), (1, iV x1)] [] (gw E.1 cIds (cef E (I, R)) ++ [])) : ∀ n20 : Nat, ∀ (x1 : Int) (x2 : Nat) (x3 : Int) (I : cI) (R : cR), inR x1 → isR x2 → inR x3 → cM I R → wX4_addRowRules_20 Q p K2 n20 x1 x2 x3 I R → cW X (0) (0) 20 [(0, .ref (E.1 p)), (1, iV x1), (2, .ref (E.1 x2)), (3, iV x3)] [] (gw E.1 cIds (cef E (I, R)) ++ []) := by
  intro n20
  induction n20 with
  | zero => intro x1 x2 x3 I R hx1 hx2 hx3 hm hw; exact hw.elim
  | succ n20 ih =>
    intro x1 x2 x3 I R hx1 hx2 hx3 hm hw
    change wbX4_addRowRules_20 Q p K2 (wX4_addRowRules_20 Q p K2 n20) x1 x2 x3 I R at hw
    unfold wbX4_addRowRules_20 at hw
    refine q_iload_n F 3 dX4_addRowRules_20 rfl rfl ?_
    refine q_aload_n F 0 dX4_addRowRules_21 rfl rfl ?_
    refine t_g_Puzzle_columns F (kP0 hp) ib4 wd165 dX4_addRowRules_22 ?_
    refine q_icmp_ge F hx3 (hm.1 _ _) 46 dX4_addRowRules_25 (by decide) (fun hc => ?_) (fun hc => ?_)
    · have hw := hw.1 hc
      obtain ⟨k3, hw⟩ := hw
      obtain ⟨z1, e2⟩ := ex1 (x1 + 1)
      have hw := hw z1 e2
      have hz1 : inR z1 := by rw [e2]; exact k3
      refine q_iinc (lv' := [(0, .ref (E.1 p)), (1, iV z1), (2, .ref (E.1 x2)), (3, iV x3)]) F 1 [1, 0, 2, 3] dX4_addRowRules_46 rfl (q_n hN (by decide)) e2.symm rfl ?_
      refine q_goto F 2 dX4_addRowRules_49 (by decide) ?_
      refine q_lv [0, 1] rfl ?_
      exact hK2 z1 I R hz1 hm hw
    · have hw := hw.2 hc
      refine q_aload_n F 2 dX4_addRowRules_28 rfl rfl ?_
      refine q_iload_n F 3 dX4_addRowRules_29 rfl rfl ?_
      refine q_aload_n F 0 dX4_addRowRules_30 rfl rfl ?_
      refine t_g_Puzzle_columns F (kP0 hp) ib4 wd165 dX4_addRowRules_31 ?_
      refine q_iload_n F 1 dX4_addRowRules_34 rfl rfl ?_
      refine q_imul F dX4_addRowRules_35 ?_
      refine q_iadd F dX4_addRowRules_36 ?_
      obtain ⟨k4, hw⟩ := hw
      refine q_Vv F (kcX7_addCell hm hx2 k4 hw) (cIds_in (kR0 hx2).2) (ceRule (kR0 hx2).1) (ci := 5) rfl (bV wd362 wd363 wd364 wd10 wd365) rfl ⟨rfl, rfl⟩ ydX7_addCell (rmK_le hR (by omega) (by decide)) (av := [iV ((x3 + ((I p 0) * x1)))]) rfl rfl (Nat.le_of_ble_eq_true rfl) dX4_addRowRules_37 (rmK_cs hR (by omega) (by omega)) (fun I6 R7 m9 hw => ?_)
      obtain ⟨k12, hw⟩ := hw
      obtain ⟨z10, e11⟩ := ex1 (x3 + 1)
      have hw := hw z10 e11
      have hz10 : inR z10 := by rw [e11]; exact k12
      refine q_iinc (lv' := [(0, .ref (E.1 p)), (1, iV x1), (2, .ref (E.1 x2)), (3, iV z10)]) F 3 [1, 2, 3, 0] dX4_addRowRules_40 rfl (q_n hN (by decide)) e11.symm rfl ?_
      refine q_goto F 20 dX4_addRowRules_43 (by decide) ?_
      exact ih x1 x2 z10 I6 R7 hx1 hx2 hz10 m9 hw
set_option maxHeartbeats 4000000 in
set_option maxRecDepth 100000 in
theorem bX4_addRowRules_2 {X : xC} {E : cE} (F : mF X E RX4 cX4_addRowRules bG) (hR : X.1.2.2.2 = rmK 3 (0) (0)) (hN : X.2.2.1.2.2.2 = 4) {Q : cI → cR → Prop} (hret : rV X E cX4_addRowRules (0) (0) Q) {p : Nat} (hp : isP p) : ∀ n2 : Nat, ∀ (x1 : Int) (I : cI) (R : cR), inR x1 → cM I R → wX4_addRowRules_2 Q p n2 x1 I R → cW X (0) (0) 2 [(0, .ref (E.1 p)), (1, iV x1)] [] (gw E.1 cIds (cef E (I, R)) ++ []) := by
  intro n2
  induction n2 with
  | zero => intro x1 I R hx1 hm hw; exact hw.elim
  | succ n2 ih =>
    intro x1 I R hx1 hm hw
    change wbX4_addRowRules_2 Q p (wX4_addRowRules_2 Q p n2) x1 I R at hw
    unfold wbX4_addRowRules_2 at hw
    refine q_iload_n F 1 dX4_addRowRules_2 rfl rfl ?_
    refine q_aload_n F 0 dX4_addRowRules_3 rfl rfl ?_
    refine t_g_Puzzle_rows F (kP0 hp) ib4 wd169 dX4_addRowRules_4 ?_
    refine q_icmp_ge F hx1 (hm.1 _ _) 52 dX4_addRowRules_7 (by decide) (fun hc => ?_) (fun hc => ?_)
    · have hw := hw.1 hc
      exact hret _ _ _ _ _ dX4_addRowRules_52 hm hw
    · have hw := hw.2 hc
      refine q_aload_n F 0 dX4_addRowRules_10 rfl rfl ?_
      refine q_gs F (sZ_DIFFER F) wd353 rfl dX4_addRowRules_11 ?_
      refine q_Vr F (kcX4_addRule hm hp (by decide) hw) (cIds_in (kP0 hp).2) (cePuzzle (kP0 hp).1) (ci := 2) rfl (bV wd354 wd355 wd356 wd9 wd357) rfl ⟨rfl, rfl⟩ ydX4_addRule (rmK_le hR (by omega) (by decide)) (av := [.ref (E.2.1 0 0)]) rfl rfl (Nat.le_of_ble_eq_true rfl) dX4_addRowRules_14 (rmK_cs hR (by omega) (by omega)) (fun r1 I2 R3 h4 m5 hw => ?_)
      refine q_astore_n (lv' := [(0, .ref (E.1 p)), (1, iV x1), (2, .ref (E.1 r1))]) F [1, 2, 0] dX4_addRowRules_17 rfl (q_n hN (by decide)) rfl ?_
      refine q_iconst F dX4_addRowRules_18 ?_
      refine q_istore_n (lv' := [(0, .ref (E.1 p)), (1, iV x1), (2, .ref (E.1 r1)), (3, iV 0)]) F [1, 2, 3, 0] dX4_addRowRules_19 rfl (q_n hN (by decide)) rfl ?_
      obtain ⟨n6, hw⟩ := hw
      exact bX4_addRowRules_20 F hR hN hret hp ih n6 x1 r1 0 I2 R3 hx1 h4 (⟨by decide, by decide⟩ : inR (0)) m5 hw
set_option maxHeartbeats 4000000 in
set_option maxRecDepth 100000 in
theorem kcX4_addRowRules {l : Launch} {D : va_G} {E : cE} {p : Nat} {I : cI} {R : cR} (hm : cM I R) (hp : isP p) {Q : cI → cR → Prop} (hw : wX4_addRowRules p I R Q) : gM l D E cIds yX4_addRowRules vX4_addRowRules (rmK 3 (0) (0)) [.ref (E.1 p)] (cef E (I, R)) (cef E) (pV Q) (0) (0) := by
  unfold wX4_addRowRules at hw
  refine k_ofW (own := RX4) (cc := cX4_addRowRules) (maxL := 4) (ret := none) (lv := [(0, .ref (E.1 p))]) (by decide) rfl rfl (Nat.le_of_ble_eq_true rfl) rfl ?_
  intro X hl hR hN hD F K
  subst hl; subst hD
  have hret := mk_rV (Q := Q) F K
  refine q_iconst F dX4_addRowRules_0 ?_
  refine q_istore_n (lv' := [(0, .ref (E.1 p)), (1, iV 0)]) F [1, 0] dX4_addRowRules_1 rfl (q_n hN (by decide)) rfl ?_
  obtain ⟨n1, hw⟩ := hw
  exact bX4_addRowRules_2 F hR hN hret hp n1 0 I R (⟨by decide, by decide⟩ : inR (0)) hm hw
theorem ydX4_addColumnRules : yX4_addColumnRules.cls = RX4 ∧ yX4_addColumnRules.cls ≠ "java/lang/invoke/MethodHandle" ∧ yX4_addColumnRules.cls ≠ "java/lang/invoke/VarHandle" ∧ (parseMethodDescriptor yX4_addColumnRules.desc).map (fun d => d.parameters.length) = some 0 := by decide +kernel
def vX4_addColumnRules : List Cond := Cond.code yX4_addColumnRules cX4_addColumnRules 4 none :: bG
set_option maxHeartbeats 4000000 in
set_option maxRecDepth 100000 in
theorem bX4_addColumnRules_20 {X : xC} {E : cE} (F : mF X E RX4 cX4_addColumnRules bG) (hR : X.1.2.2.2 = rmK 3 (0) (0)) (hN : X.2.2.1.2.2.2 = 4) {Q : cI → cR → Prop} (hret : rV X E cX4_addColumnRules (0) (0) Q) {p : Nat} (hp : isP p) {K2 : Int → cI → cR → Prop} (hK2 : ∀ (x1 : Int) (I : cI) (R : cR), inR x1 → cM I R → K2 x1 I R → cW X (0) (0) 2 [(0, .ref (E.1 p)), (1, iV x1)] [] (gw E.1 cIds (cef E (I, R)) ++ [])) : ∀ n20 : Nat, ∀ (x1 : Int) (x2 : Nat) (x3 : Int) (I : cI) (R : cR), inR x1 → isR x2 → inR x3 → cM I R → wX4_addColumnRules_20 Q p K2 n20 x1 x2 x3 I R → cW X (0) (0) 20 [(0, .ref (E.1 p)), (1, iV x1), (2, .ref (E.1 x2)), (3, iV x3)] [] (gw E.1 cIds (cef E (I, R)) ++ []) := by
  intro n20
  induction n20 with
  | zero => intro x1 x2 x3 I R hx1 hx2 hx3 hm hw; exact hw.elim
  | succ n20 ih =>
    intro x1 x2 x3 I R hx1 hx2 hx3 hm hw
    change wbX4_addColumnRules_20 Q p K2 (wX4_addColumnRules_20 Q p K2 n20) x1 x2 x3 I R at hw
    unfold wbX4_addColumnRules_20 at hw
    refine q_iload_n F 3 dX4_addColumnRules_20 rfl rfl ?_
    refine q_aload_n F 0 dX4_addColumnRules_21 rfl rfl ?_
    refine t_g_Puzzle_rows F (kP0 hp) ib4 wd169 dX4_addColumnRules_22 ?_
    refine q_icmp_ge F hx3 (hm.1 _ _) 46 dX4_addColumnRules_25 (by decide) (fun hc => ?_) (fun hc => ?_)
    · have hw := hw.1 hc
      obtain ⟨k3, hw⟩ := hw
      obtain ⟨z1, e2⟩ := ex1 (x1 + 1)
      have hw := hw z1 e2
      have hz1 : inR z1 := by rw [e2]; exact k3
      refine q_iinc (lv' := [(0, .ref (E.1 p)), (1, iV z1), (2, .ref (E.1 x2)), (3, iV x3)]) F 1 [1, 0, 2, 3] dX4_addColumnRules_46 rfl (q_n hN (by decide)) e2.symm rfl ?_
      refine q_goto F 2 dX4_addColumnRules_49 (by decide) ?_
      refine q_lv [0, 1] rfl ?_
      exact hK2 z1 I R hz1 hm hw
    · have hw := hw.2 hc
      refine q_aload_n F 2 dX4_addColumnRules_28 rfl rfl ?_
      refine q_iload_n F 1 dX4_addColumnRules_29 rfl rfl ?_
      refine q_aload_n F 0 dX4_addColumnRules_30 rfl rfl ?_
      refine t_g_Puzzle_columns F (kP0 hp) ib4 wd165 dX4_addColumnRules_31 ?_
      refine q_iload_n F 3 dX4_addColumnRules_34 rfl rfl ?_
      refine q_imul F dX4_addColumnRules_35 ?_
      refine q_iadd F dX4_addColumnRules_36 ?_
      obtain ⟨k4, hw⟩ := hw
      refine q_Vv F (kcX7_addCell hm hx2 k4 hw) (cIds_in (kR0 hx2).2) (ceRule (kR0 hx2).1) (ci := 5) rfl (bV wd362 wd363 wd364 wd10 wd365) rfl ⟨rfl, rfl⟩ ydX7_addCell (rmK_le hR (by omega) (by decide)) (av := [iV ((x1 + ((I p 0) * x3)))]) rfl rfl (Nat.le_of_ble_eq_true rfl) dX4_addColumnRules_37 (rmK_cs hR (by omega) (by omega)) (fun I6 R7 m9 hw => ?_)
      obtain ⟨k12, hw⟩ := hw
      obtain ⟨z10, e11⟩ := ex1 (x3 + 1)
      have hw := hw z10 e11
      have hz10 : inR z10 := by rw [e11]; exact k12
      refine q_iinc (lv' := [(0, .ref (E.1 p)), (1, iV x1), (2, .ref (E.1 x2)), (3, iV z10)]) F 3 [1, 2, 3, 0] dX4_addColumnRules_40 rfl (q_n hN (by decide)) e11.symm rfl ?_
      refine q_goto F 20 dX4_addColumnRules_43 (by decide) ?_
      exact ih x1 x2 z10 I6 R7 hx1 hx2 hz10 m9 hw
set_option maxHeartbeats 4000000 in
set_option maxRecDepth 100000 in
theorem bX4_addColumnRules_2 {X : xC} {E : cE} (F : mF X E RX4 cX4_addColumnRules bG) (hR : X.1.2.2.2 = rmK 3 (0) (0)) (hN : X.2.2.1.2.2.2 = 4) {Q : cI → cR → Prop} (hret : rV X E cX4_addColumnRules (0) (0) Q) {p : Nat} (hp : isP p) : ∀ n2 : Nat, ∀ (x1 : Int) (I : cI) (R : cR), inR x1 → cM I R → wX4_addColumnRules_2 Q p n2 x1 I R → cW X (0) (0) 2 [(0, .ref (E.1 p)), (1, iV x1)] [] (gw E.1 cIds (cef E (I, R)) ++ []) := by
  intro n2
  induction n2 with
  | zero => intro x1 I R hx1 hm hw; exact hw.elim
  | succ n2 ih =>
    intro x1 I R hx1 hm hw
    change wbX4_addColumnRules_2 Q p (wX4_addColumnRules_2 Q p n2) x1 I R at hw
    unfold wbX4_addColumnRules_2 at hw
    refine q_iload_n F 1 dX4_addColumnRules_2 rfl rfl ?_
    refine q_aload_n F 0 dX4_addColumnRules_3 rfl rfl ?_
    refine t_g_Puzzle_columns F (kP0 hp) ib4 wd165 dX4_addColumnRules_4 ?_
    refine q_icmp_ge F hx1 (hm.1 _ _) 52 dX4_addColumnRules_7 (by decide) (fun hc => ?_) (fun hc => ?_)
    · have hw := hw.1 hc
      exact hret _ _ _ _ _ dX4_addColumnRules_52 hm hw
    · have hw := hw.2 hc
      refine q_aload_n F 0 dX4_addColumnRules_10 rfl rfl ?_
      refine q_gs F (sZ_DIFFER F) wd353 rfl dX4_addColumnRules_11 ?_
      refine q_Vr F (kcX4_addRule hm hp (by decide) hw) (cIds_in (kP0 hp).2) (cePuzzle (kP0 hp).1) (ci := 2) rfl (bV wd354 wd355 wd356 wd9 wd357) rfl ⟨rfl, rfl⟩ ydX4_addRule (rmK_le hR (by omega) (by decide)) (av := [.ref (E.2.1 0 0)]) rfl rfl (Nat.le_of_ble_eq_true rfl) dX4_addColumnRules_14 (rmK_cs hR (by omega) (by omega)) (fun r1 I2 R3 h4 m5 hw => ?_)
      refine q_astore_n (lv' := [(0, .ref (E.1 p)), (1, iV x1), (2, .ref (E.1 r1))]) F [1, 2, 0] dX4_addColumnRules_17 rfl (q_n hN (by decide)) rfl ?_
      refine q_iconst F dX4_addColumnRules_18 ?_
      refine q_istore_n (lv' := [(0, .ref (E.1 p)), (1, iV x1), (2, .ref (E.1 r1)), (3, iV 0)]) F [1, 2, 3, 0] dX4_addColumnRules_19 rfl (q_n hN (by decide)) rfl ?_
      obtain ⟨n6, hw⟩ := hw
      exact bX4_addColumnRules_20 F hR hN hret hp ih n6 x1 r1 0 I2 R3 hx1 h4 (⟨by decide, by decide⟩ : inR (0)) m5 hw
set_option maxHeartbeats 4000000 in
set_option maxRecDepth 100000 in
theorem kcX4_addColumnRules {l : Launch} {D : va_G} {E : cE} {p : Nat} {I : cI} {R : cR} (hm : cM I R) (hp : isP p) {Q : cI → cR → Prop} (hw : wX4_addColumnRules p I R Q) : gM l D E cIds yX4_addColumnRules vX4_addColumnRules (rmK 3 (0) (0)) [.ref (E.1 p)] (cef E (I, R)) (cef E) (pV Q) (0) (0) := by
  unfold wX4_addColumnRules at hw
  refine k_ofW (own := RX4) (cc := cX4_addColumnRules) (maxL := 4) (ret := none) (lv := [(0, .ref (E.1 p))]) (by decide) rfl rfl (Nat.le_of_ble_eq_true rfl) rfl ?_
  intro X hl hR hN hD F K
  subst hl; subst hD
  have hret := mk_rV (Q := Q) F K
  refine q_iconst F dX4_addColumnRules_0 ?_
  refine q_istore_n (lv' := [(0, .ref (E.1 p)), (1, iV 0)]) F [1, 0] dX4_addColumnRules_1 rfl (q_n hN (by decide)) rfl ?_
  obtain ⟨n1, hw⟩ := hw
  exact bX4_addColumnRules_2 F hR hN hret hp n1 0 I R (⟨by decide, by decide⟩ : inR (0)) hm hw
theorem ydX5_isAllowed : yX5_isAllowed.cls = RX5 ∧ yX5_isAllowed.cls ≠ "java/lang/invoke/MethodHandle" ∧ yX5_isAllowed.cls ≠ "java/lang/invoke/VarHandle" ∧ (parseMethodDescriptor yX5_isAllowed.desc).map (fun d => d.parameters.length) = some 3 := by decide +kernel
def vX5_isAllowed : List Cond := Cond.code yX5_isAllowed cX5_isAllowed 3 (some .boolean) :: bG
set_option maxHeartbeats 4000000 in
set_option maxRecDepth 100000 in
theorem kcX5_isAllowed {l : Launch} {D : va_G} {E : cE} {a0 : Nat} {a1 : Int} {a2 : Int} {I : cI} {R : cR} (hm : cM I R) (ha0 : a0 < 12) (ha1 : inR a1) (ha2 : inR a2) {Q : Int → cI → cR → Prop} (hw : wX5_isAllowed a0 a1 a2 I R Q) : gM l D E cIds yX5_isAllowed vX5_isAllowed (rmK 2 (0) (0)) [.ref (E.2.1 0 a0), iV a1, iV a2] (cef E (I, R)) (cef E) (pI Q) (0) (0) := by
  unfold wX5_isAllowed at hw
  refine k_ofW (own := RX5) (cc := cX5_isAllowed) (maxL := 3) (ret := (some .boolean)) (lv := [(0, .ref (E.2.1 0 a0)), (1, iV a1), (2, iV a2)]) (by decide) rfl rfl (Nat.le_of_ble_eq_true rfl) rfl ?_
  intro X hl hR hN hD F K
  subst hl; subst hD
  have hret := mk_rZ (Q := Q) F K
  refine q_gs F (sZ_SW F) wd377 rfl dX5_isAllowed_0 ?_
  refine q_aload_n F 0 dX5_isAllowed_3 rfl rfl ?_
  refine q_ord F hR (by omega) ha0 wd379 dX5_isAllowed_4 (Nat.le_of_ble_eq_true rfl) ?_
  obtain ⟨k1, hw⟩ := hw
  refine q_ldSW F k1 dX5_isAllowed_7 ?_
  by_cases c6 : (swT ((kN a0))) = 6
  · have hw := hw.1 c6
    refine q_swIn F 0 (swT_in _) 64 dX5_isAllowed_8 (c6.trans (by decide)) (by decide) rfl (by decide) ?_
    refine q_iload_n F 1 dX5_isAllowed_64 rfl rfl ?_
    refine q_iconst F dX5_isAllowed_65 ?_
    refine q_icmp_lt F ha1 (⟨by decide, by decide⟩ : inR (1)) 78 dX5_isAllowed_66 (by decide) (fun hc => ?_) (fun hc => ?_)
    · have hw := hw.1 hc
      refine q_iconst F dX5_isAllowed_78 ?_
      exact hret _ _ _ _ _ _ dX5_isAllowed_79 (Or.inl rfl) (⟨by decide, by decide⟩ : inR (0)) hm hw
    · have hw := hw.2 hc
      refine q_iload_n F 1 dX5_isAllowed_69 rfl rfl ?_
      refine q_iconst F dX5_isAllowed_70 ?_
      refine q_icmp_gt F ha1 (⟨by decide, by decide⟩ : inR (5)) 78 dX5_isAllowed_71 (by decide) (fun hc => ?_) (fun hc => ?_)
      · have hw := hw.1 hc
        refine q_iconst F dX5_isAllowed_78 ?_
        exact hret _ _ _ _ _ _ dX5_isAllowed_79 (Or.inl rfl) (⟨by decide, by decide⟩ : inR (0)) hm hw
      · have hw := hw.2 hc
        refine q_iconst F dX5_isAllowed_74 ?_
        refine q_goto F 79 dX5_isAllowed_75 (by decide) ?_
        exact hret _ _ _ _ _ _ dX5_isAllowed_79 (Or.inr rfl) (⟨by decide, by decide⟩ : inR (1)) hm hw
  by_cases c7 : (swT ((kN a0))) = 7
  · have hw := hw.2.1 c7
    refine q_swIn F 1 (swT_in _) 96 dX5_isAllowed_8 (c7.trans (by decide)) (by decide) rfl (by decide) ?_
    refine q_iconst F dX5_isAllowed_96 ?_
    exact hret _ _ _ _ _ _ dX5_isAllowed_97 (Or.inr rfl) (⟨by decide, by decide⟩ : inR (1)) hm hw
  by_cases c8 : (swT ((kN a0))) = 8
  · have hw := hw.2.2.1 c8
    refine q_swIn F 2 (swT_in _) 96 dX5_isAllowed_8 (c8.trans (by decide)) (by decide) rfl (by decide) ?_
    refine q_iconst F dX5_isAllowed_96 ?_
    exact hret _ _ _ _ _ _ dX5_isAllowed_97 (Or.inr rfl) (⟨by decide, by decide⟩ : inR (1)) hm hw
  by_cases c9 : (swT ((kN a0))) = 9
  · have hw := hw.2.2.2.1 c9
    refine q_swIn F 3 (swT_in _) 48 dX5_isAllowed_8 (c9.trans (by decide)) (by decide) rfl (by decide) ?_
    refine q_iload_n F 1 dX5_isAllowed_48 rfl rfl ?_
    refine q_iconst F dX5_isAllowed_49 ?_
    refine q_icmp_lt F ha1 (⟨by decide, by decide⟩ : inR (1)) 62 dX5_isAllowed_50 (by decide) (fun hc => ?_) (fun hc => ?_)
    · have hw := hw.1 hc
      refine q_iconst F dX5_isAllowed_62 ?_
      exact hret _ _ _ _ _ _ dX5_isAllowed_63 (Or.inl rfl) (⟨by decide, by decide⟩ : inR (0)) hm hw
    · have hw := hw.2 hc
      refine q_iload_n F 1 dX5_isAllowed_53 rfl rfl ?_
      refine q_iload_n F 2 dX5_isAllowed_54 rfl rfl ?_
      refine q_icmp_gt F ha1 ha2 62 dX5_isAllowed_55 (by decide) (fun hc => ?_) (fun hc => ?_)
      · have hw := hw.1 hc
        refine q_iconst F dX5_isAllowed_62 ?_
        exact hret _ _ _ _ _ _ dX5_isAllowed_63 (Or.inl rfl) (⟨by decide, by decide⟩ : inR (0)) hm hw
      · have hw := hw.2 hc
        refine q_iconst F dX5_isAllowed_58 ?_
        refine q_goto F 63 dX5_isAllowed_59 (by decide) ?_
        exact hret _ _ _ _ _ _ dX5_isAllowed_63 (Or.inr rfl) (⟨by decide, by decide⟩ : inR (1)) hm hw
  by_cases c10 : (swT ((kN a0))) = 10
  · have hw := hw.2.2.2.2.1 c10
    refine q_swIn F 4 (swT_in _) 48 dX5_isAllowed_8 (c10.trans (by decide)) (by decide) rfl (by decide) ?_
    refine q_iload_n F 1 dX5_isAllowed_48 rfl rfl ?_
    refine q_iconst F dX5_isAllowed_49 ?_
    refine q_icmp_lt F ha1 (⟨by decide, by decide⟩ : inR (1)) 62 dX5_isAllowed_50 (by decide) (fun hc => ?_) (fun hc => ?_)
    · have hw := hw.1 hc
      refine q_iconst F dX5_isAllowed_62 ?_
      exact hret _ _ _ _ _ _ dX5_isAllowed_63 (Or.inl rfl) (⟨by decide, by decide⟩ : inR (0)) hm hw
    · have hw := hw.2 hc
      refine q_iload_n F 1 dX5_isAllowed_53 rfl rfl ?_
      refine q_iload_n F 2 dX5_isAllowed_54 rfl rfl ?_
      refine q_icmp_gt F ha1 ha2 62 dX5_isAllowed_55 (by decide) (fun hc => ?_) (fun hc => ?_)
      · have hw := hw.1 hc
        refine q_iconst F dX5_isAllowed_62 ?_
        exact hret _ _ _ _ _ _ dX5_isAllowed_63 (Or.inl rfl) (⟨by decide, by decide⟩ : inR (0)) hm hw
      · have hw := hw.2 hc
        refine q_iconst F dX5_isAllowed_58 ?_
        refine q_goto F 63 dX5_isAllowed_59 (by decide) ?_
        exact hret _ _ _ _ _ _ dX5_isAllowed_63 (Or.inr rfl) (⟨by decide, by decide⟩ : inR (1)) hm hw
  by_cases c11 : (swT ((kN a0))) = 11
  · have hw := hw.2.2.2.2.2.1 c11
    refine q_swIn F 5 (swT_in _) 80 dX5_isAllowed_8 (c11.trans (by decide)) (by decide) rfl (by decide) ?_
    refine q_iload_n F 1 dX5_isAllowed_80 rfl rfl ?_
    refine q_iconst F dX5_isAllowed_81 ?_
    refine q_icmp_lt F ha1 (⟨by decide, by decide⟩ : inR (1)) 94 dX5_isAllowed_82 (by decide) (fun hc => ?_) (fun hc => ?_)
    · have hw := hw.1 hc
      refine q_iconst F dX5_isAllowed_94 ?_
      exact hret _ _ _ _ _ _ dX5_isAllowed_95 (Or.inl rfl) (⟨by decide, by decide⟩ : inR (0)) hm hw
    · have hw := hw.2 hc
      refine q_iload_n F 1 dX5_isAllowed_85 rfl rfl ?_
      refine q_iconst F dX5_isAllowed_86 ?_
      refine q_icmp_gt F ha1 (⟨by decide, by decide⟩ : inR (4)) 94 dX5_isAllowed_87 (by decide) (fun hc => ?_) (fun hc => ?_)
      · have hw := hw.1 hc
        refine q_iconst F dX5_isAllowed_94 ?_
        exact hret _ _ _ _ _ _ dX5_isAllowed_95 (Or.inl rfl) (⟨by decide, by decide⟩ : inR (0)) hm hw
      · have hw := hw.2 hc
        refine q_iconst F dX5_isAllowed_90 ?_
        refine q_goto F 95 dX5_isAllowed_91 (by decide) ?_
        exact hret _ _ _ _ _ _ dX5_isAllowed_95 (Or.inr rfl) (⟨by decide, by decide⟩ : inR (1)) hm hw
  have hw := hw.2.2.2.2.2.2 c6 c7 c8 c9 c10 c11
  refine q_swOut F (swT_in _) 96 dX5_isAllowed_8 (by omega) (by decide) ?_
  refine q_iconst F dX5_isAllowed_96 ?_
  exact hret _ _ _ _ _ _ dX5_isAllowed_97 (Or.inr rfl) (⟨by decide, by decide⟩ : inR (1)) hm hw
theorem ydX5_readNumber : yX5_readNumber.cls = RX5 ∧ yX5_readNumber.cls ≠ "java/lang/invoke/MethodHandle" ∧ yX5_readNumber.cls ≠ "java/lang/invoke/VarHandle" ∧ (parseMethodDescriptor yX5_readNumber.desc).map (fun d => d.parameters.length) = some 2 := by decide +kernel
def vX5_readNumber : List Cond := Cond.code yX5_readNumber cX5_readNumber 3 (some .boolean) :: bG
set_option maxHeartbeats 4000000 in
set_option maxRecDepth 100000 in
theorem kcX5_readNumber {l : Launch} {D : va_G} {E : cE} {a1 : Nat} {a2 : Nat} {I : cI} {R : cR} (hm : cM I R) (ha1 : isP a1) (ha2 : isR a2) {Q : Int → cI → cR → Prop} (hw : wX5_readNumber a1 a2 I R Q) : gM l D E cIds yX5_readNumber vX5_readNumber (rmK 3 (0) (0)) [.ref (E.1 3), .ref (E.1 a1), .ref (E.1 a2)] (cef E (I, R)) (cef E) (pI Q) (0) (0) := by
  unfold wX5_readNumber at hw
  refine k_ofW (own := RX5) (cc := cX5_readNumber) (maxL := 3) (ret := (some .boolean)) (lv := [(0, .ref (E.1 3)), (1, .ref (E.1 a1)), (2, .ref (E.1 a2))]) (by decide) rfl rfl (Nat.le_of_ble_eq_true rfl) rfl ?_
  intro X hl hR hN hD F K
  subst hl; subst hD
  have hret := mk_rZ (Q := Q) F K
  refine q_aload_n F 2 dX5_readNumber_0 rfl rfl ?_
  refine q_aload_n F 0 dX5_readNumber_1 rfl rfl ?_
  refine t_g_Reader_tokens F (by decide) ib5 wd65 4 rfl dX5_readNumber_2 ?_
  refine q_aload_n F 0 dX5_readNumber_5 rfl rfl ?_
  refine t_g_Reader_place F (by decide) ib5 wd66 dX5_readNumber_6 ?_
  refine q_Vi F (kcX10_numberAt hm (hm.1 _ _) hw) (cIds_in (show ckd 4 = 8 ∧ 4 < 353 by decide).2) (ceTokens (show ckd 4 = 8 ∧ 4 < 353 by decide).1) (ci := 8) rfl (bV wd302 wd303 wd304 wd4 wd305) rfl ⟨rfl, rfl⟩ ydX10_numberAt (rmK_le hR (by omega) (by decide)) (av := [iV ((I 3 3))]) rfl rfl (Nat.le_of_ble_eq_true rfl) dX5_readNumber_9 (rmK_cs hR (by omega) (by omega)) (fun r1 I2 R3 h4 m5 hw => ?_)
  obtain ⟨I6, e7⟩ := ex1 (up2 I2 a2 1 r1)
  have hw := hw I6 e7
  have m8 : cM I6 R3 := cM_I m5 e7 h4
  refine t_p_Rule_number F (kR0 ha2) ib7 wd151 e7 dX5_readNumber_12 ?_
  refine q_aload_n F 2 dX5_readNumber_15 rfl rfl ?_
  refine t_g_Rule_kind F (kR0 ha2) ib7 wd145 dX5_readNumber_16 ?_
  refine q_aload_n F 2 dX5_readNumber_19 rfl rfl ?_
  refine t_g_Rule_number F (kR0 ha2) ib7 wd151 dX5_readNumber_20 ?_
  refine q_aload_n F 1 dX5_readNumber_23 rfl rfl ?_
  refine t_g_Puzzle_highest F (kP0 ha1) ib4 wd179 dX5_readNumber_24 ?_
  refine q_Si F (kcX5_isAllowed m8 (m8.2.2.2.2 _ ha2) (m8.1 _ _) (m8.1 _ _) hw) (bS wd374 wd375 wd3 wd376) rfl ⟨rfl, rfl⟩ ydX5_isAllowed (rmK_le hR (by omega) (by decide)) (av := [.ref (E.2.1 0 ((R3 a2 0))), iV ((I6 a2 1)), iV ((I6 a1 2))]) rfl rfl (Nat.le_of_ble_eq_true rfl) dX5_readNumber_27 (rmK_cs hR (by omega) (by omega)) (fun r9 I10 R11 h12 m13 hw => ?_)
  refine q_if_ne F h12 39 dX5_readNumber_30 (by decide) (fun hc => ?_) (fun hc => ?_)
  · have hw := hw.1 hc
    refine q_aload_n F 0 dX5_readNumber_39 rfl rfl ?_
    refine q_dup F dX5_readNumber_40 rfl ?_
    refine t_g_Reader_place F (by decide) ib5 wd66 dX5_readNumber_41 ?_
    refine q_iconst F dX5_readNumber_44 ?_
    refine q_iadd F dX5_readNumber_45 ?_
    obtain ⟨k14, hw⟩ := hw
    obtain ⟨I15, e16⟩ := ex1 (up2 I10 3 3 (((I10 3 3) + 1)))
    have hw := hw I15 e16
    have m17 : cM I15 R11 := cM_I m13 e16 k14
    refine t_p_Reader_place F (by decide) ib5 wd66 e16 dX5_readNumber_46 ?_
    refine q_iconst F dX5_readNumber_49 ?_
    exact hret _ _ _ _ _ _ dX5_readNumber_50 (Or.inr rfl) (⟨by decide, by decide⟩ : inR (1)) m17 hw
  · have hw := hw.2 hc
    refine q_aload_n F 0 dX5_readNumber_33 rfl rfl ?_
    refine q_iconst F dX5_readNumber_34 ?_
    refine q_Vi F (kcX5_fail m13 (⟨by decide, by decide⟩ : inR (2)) hw) (cIds_in (show ckd 3 = 3 ∧ 3 < 353 by decide).2) (ceReader (show ckd 3 = 3 ∧ 3 < 353 by decide).1) (ci := 3) rfl (bV wd322 wd323 wd887 wd3 wd324) rfl ⟨rfl, rfl⟩ ydX5_fail (rmK_le hR (by omega) (by decide)) (av := [iV 2]) rfl rfl (Nat.le_of_ble_eq_true rfl) dX5_readNumber_35 (rmK_cs hR (by omega) (by omega)) (fun r18 I19 R20 h21 m22 hw => ?_)
    obtain ⟨k23, hw⟩ := hw
    exact hret _ _ _ _ _ _ dX5_readNumber_38 k23 h21 m22 hw
theorem ydX5_readTimes : yX5_readTimes.cls = RX5 ∧ yX5_readTimes.cls ≠ "java/lang/invoke/MethodHandle" ∧ yX5_readTimes.cls ≠ "java/lang/invoke/VarHandle" ∧ (parseMethodDescriptor yX5_readTimes.desc).map (fun d => d.parameters.length) = some 1 := by decide +kernel
def vX5_readTimes : List Cond := Cond.code yX5_readTimes cX5_readTimes 2 (some .boolean) :: bG
set_option maxHeartbeats 4000000 in
set_option maxRecDepth 100000 in
theorem kcX5_readTimes {l : Launch} {D : va_G} {E : cE} {a1 : Nat} {I : cI} {R : cR} (hm : cM I R) (ha1 : isR a1) {Q : Int → cI → cR → Prop} (hw : wX5_readTimes a1 I R Q) : gM l D E cIds yX5_readTimes vX5_readTimes (rmK 3 (0) (0)) [.ref (E.1 3), .ref (E.1 a1)] (cef E (I, R)) (cef E) (pI Q) (0) (0) := by
  unfold wX5_readTimes at hw
  refine k_ofW (own := RX5) (cc := cX5_readTimes) (maxL := 2) (ret := (some .boolean)) (lv := [(0, .ref (E.1 3)), (1, .ref (E.1 a1))]) (by decide) rfl rfl (Nat.le_of_ble_eq_true rfl) rfl ?_
  intro X hl hR hN hD F K
  subst hl; subst hD
  have hret := mk_rZ (Q := Q) F K
  refine q_aload_n F 1 dX5_readTimes_0 rfl rfl ?_
  refine q_aload_n F 0 dX5_readTimes_1 rfl rfl ?_
  refine t_g_Reader_tokens F (by decide) ib5 wd65 4 rfl dX5_readTimes_2 ?_
  refine q_aload_n F 0 dX5_readTimes_5 rfl rfl ?_
  refine t_g_Reader_place F (by decide) ib5 wd66 dX5_readTimes_6 ?_
  refine q_Vi F (kcX10_numberAt hm (hm.1 _ _) hw) (cIds_in (show ckd 4 = 8 ∧ 4 < 353 by decide).2) (ceTokens (show ckd 4 = 8 ∧ 4 < 353 by decide).1) (ci := 8) rfl (bV wd302 wd303 wd304 wd4 wd305) rfl ⟨rfl, rfl⟩ ydX10_numberAt (rmK_le hR (by omega) (by decide)) (av := [iV ((I 3 3))]) rfl rfl (Nat.le_of_ble_eq_true rfl) dX5_readTimes_9 (rmK_cs hR (by omega) (by omega)) (fun r1 I2 R3 h4 m5 hw => ?_)
  obtain ⟨I6, e7⟩ := ex1 (up2 I2 a1 2 r1)
  have hw := hw I6 e7
  have m8 : cM I6 R3 := cM_I m5 e7 h4
  refine t_p_Rule_times F (kR0 ha1) ib7 wd155 e7 dX5_readTimes_12 ?_
  refine q_aload_n F 1 dX5_readTimes_15 rfl rfl ?_
  refine t_g_Rule_times F (kR0 ha1) ib7 wd155 dX5_readTimes_16 ?_
  refine q_iconst F dX5_readTimes_19 ?_
  refine q_icmp_le F (m8.1 _ _) (⟨by decide, by decide⟩ : inR (5)) 29 dX5_readTimes_20 (by decide) (fun hc => ?_) (fun hc => ?_)
  · have hw := hw.1 hc
    refine q_aload_n F 0 dX5_readTimes_29 rfl rfl ?_
    refine q_dup F dX5_readTimes_30 rfl ?_
    refine t_g_Reader_place F (by decide) ib5 wd66 dX5_readTimes_31 ?_
    refine q_iconst F dX5_readTimes_34 ?_
    refine q_iadd F dX5_readTimes_35 ?_
    obtain ⟨k9, hw⟩ := hw
    obtain ⟨I10, e11⟩ := ex1 (up2 I6 3 3 (((I6 3 3) + 1)))
    have hw := hw I10 e11
    have m12 : cM I10 R3 := cM_I m8 e11 k9
    refine t_p_Reader_place F (by decide) ib5 wd66 e11 dX5_readTimes_36 ?_
    refine q_iconst F dX5_readTimes_39 ?_
    exact hret _ _ _ _ _ _ dX5_readTimes_40 (Or.inr rfl) (⟨by decide, by decide⟩ : inR (1)) m12 hw
  · have hw := hw.2 hc
    refine q_aload_n F 0 dX5_readTimes_23 rfl rfl ?_
    refine q_iconst F dX5_readTimes_24 ?_
    refine q_Vi F (kcX5_fail m8 (⟨by decide, by decide⟩ : inR (2)) hw) (cIds_in (show ckd 3 = 3 ∧ 3 < 353 by decide).2) (ceReader (show ckd 3 = 3 ∧ 3 < 353 by decide).1) (ci := 3) rfl (bV wd322 wd323 wd887 wd3 wd324) rfl ⟨rfl, rfl⟩ ydX5_fail (rmK_le hR (by omega) (by decide)) (av := [iV 2]) rfl rfl (Nat.le_of_ble_eq_true rfl) dX5_readTimes_25 (rmK_cs hR (by omega) (by omega)) (fun r13 I14 R15 h16 m17 hw => ?_)
    obtain ⟨k18, hw⟩ := hw
    exact hret _ _ _ _ _ _ dX5_readTimes_28 k18 h16 m17 hw
theorem ydX7_hasCell : yX7_hasCell.cls = RX7 ∧ yX7_hasCell.cls ≠ "java/lang/invoke/MethodHandle" ∧ yX7_hasCell.cls ≠ "java/lang/invoke/VarHandle" ∧ (parseMethodDescriptor yX7_hasCell.desc).map (fun d => d.parameters.length) = some 1 := by decide +kernel
def vX7_hasCell : List Cond := Cond.code yX7_hasCell cX7_hasCell 2 (some .boolean) :: bG
set_option maxHeartbeats 4000000 in
set_option maxRecDepth 100000 in
theorem kcX7_hasCell {l : Launch} {D : va_G} {E : cE} {r0 : Nat} {a1 : Int} {I : cI} {R : cR} (hm : cM I R) (hr0 : isR r0) (ha1 : inR a1) {Q : Int → cI → cR → Prop} (hw : wX7_hasCell r0 a1 I R Q) : gM l D E cIds yX7_hasCell vX7_hasCell (rmK 1 (0) (0)) [.ref (E.1 r0), iV a1] (cef E (I, R)) (cef E) (pI Q) (0) (0) := by
  unfold wX7_hasCell at hw
  refine k_ofW (own := RX7) (cc := cX7_hasCell) (maxL := 2) (ret := (some .boolean)) (lv := [(0, .ref (E.1 r0)), (1, iV a1)]) (by decide) rfl rfl (Nat.le_of_ble_eq_true rfl) rfl ?_
  intro X hl hR hN hD F K
  subst hl; subst hD
  have hret := mk_rZ (Q := Q) F K
  refine q_aload_n F 0 dX7_hasCell_0 rfl rfl ?_
  refine t_g_Rule_mask F (kR0 hr0) ib7 wd164 dX7_hasCell_1 ?_
  refine q_iload_n F 1 dX7_hasCell_4 rfl rfl ?_
  refine q_ishr F dX7_hasCell_5 ?_
  refine q_iconst F dX7_hasCell_6 ?_
  refine q_iand F dX7_hasCell_7 ?_
  refine q_if_eq F (ti_rng _) 15 dX7_hasCell_8 (by decide) (fun hc => ?_) (fun hc => ?_)
  · have hw := hw.1 hc
    refine q_iconst F dX7_hasCell_15 ?_
    exact hret _ _ _ _ _ _ dX7_hasCell_16 (Or.inl rfl) (⟨by decide, by decide⟩ : inR (0)) hm hw
  · have hw := hw.2 hc
    refine q_iconst F dX7_hasCell_11 ?_
    refine q_goto F 16 dX7_hasCell_12 (by decide) ?_
    exact hret _ _ _ _ _ _ dX7_hasCell_16 (Or.inr rfl) (⟨by decide, by decide⟩ : inR (1)) hm hw
theorem ydX5_readCells : yX5_readCells.cls = RX5 ∧ yX5_readCells.cls ≠ "java/lang/invoke/MethodHandle" ∧ yX5_readCells.cls ≠ "java/lang/invoke/VarHandle" ∧ (parseMethodDescriptor yX5_readCells.desc).map (fun d => d.parameters.length) = some 2 := by decide +kernel
def vX5_readCells : List Cond := Cond.code yX5_readCells cX5_readCells 7 (some .boolean) :: bG
set_option maxHeartbeats 4000000 in
set_option maxRecDepth 100000 in
theorem bX5_readCells_85 {X : xC} {E : cE} (F : mF X E RX5 cX5_readCells bG) (hR : X.1.2.2.2 = rmK 3 (0) (0)) (hN : X.2.2.1.2.2.2 = 7) {Q : Int → cI → cR → Prop} (hret : rZ X E cX5_readCells (0) (0) Q) {a1 : Nat} {a2 : Nat} (ha1 : isP a1) (ha2 : isR a2) : ∀ (I : cI) (R : cR), cM I R → wX5_readCells_85 Q a1 a2 I R → cW X (0) (0) 85 [(0, .ref (E.1 3))] [] (gw E.1 cIds (cef E (I, R)) ++ []) := by
  intro I R hm hw
  unfold wX5_readCells_85 at hw
  refine q_aload_n F 0 dX5_readCells_85 rfl rfl ?_
  refine q_iconst F dX5_readCells_86 ?_
  refine q_Vi F (kcX5_fail hm (⟨by decide, by decide⟩ : inR (2)) hw) (cIds_in (show ckd 3 = 3 ∧ 3 < 353 by decide).2) (ceReader (show ckd 3 = 3 ∧ 3 < 353 by decide).1) (ci := 3) rfl (bV wd322 wd323 wd887 wd3 wd324) rfl ⟨rfl, rfl⟩ ydX5_fail (rmK_le hR (by omega) (by decide)) (av := [iV 2]) rfl rfl (Nat.le_of_ble_eq_true rfl) dX5_readCells_87 (rmK_cs hR (by omega) (by omega)) (fun r1 I2 R3 h4 m5 hw => ?_)
  obtain ⟨k6, hw⟩ := hw
  exact hret _ _ _ _ _ _ dX5_readCells_90 k6 h4 m5 hw
set_option maxHeartbeats 4000000 in
set_option maxRecDepth 100000 in
theorem bX5_readCells_2 {X : xC} {E : cE} (F : mF X E RX5 cX5_readCells bG) (hR : X.1.2.2.2 = rmK 3 (0) (0)) (hN : X.2.2.1.2.2.2 = 7) {Q : Int → cI → cR → Prop} (hret : rZ X E cX5_readCells (0) (0) Q) {a1 : Nat} {a2 : Nat} (ha1 : isP a1) (ha2 : isR a2) : ∀ n2 : Nat, ∀ (x3 : Int) (I : cI) (R : cR), inR x3 → cM I R → wX5_readCells_2 Q a1 a2 n2 x3 I R → cW X (0) (0) 2 [(0, .ref (E.1 3)), (1, .ref (E.1 a1)), (2, .ref (E.1 a2)), (3, iV x3)] [] (gw E.1 cIds (cef E (I, R)) ++ []) := by
  intro n2
  induction n2 with
  | zero => intro x3 I R hx3 hm hw; exact hw.elim
  | succ n2 ih =>
    intro x3 I R hx3 hm hw
    change wbX5_readCells_2 Q a1 a2 (wX5_readCells_2 Q a1 a2 n2) x3 I R at hw
    unfold wbX5_readCells_2 at hw
    refine q_iload_n F 3 dX5_readCells_2 rfl rfl ?_
    refine q_aload_n F 0 dX5_readCells_3 rfl rfl ?_
    refine t_g_Reader_tokens F (by decide) ib5 wd65 4 rfl dX5_readCells_4 ?_
    refine t_g_Tokens_count F (by decide) ib10 wd58 dX5_readCells_7 ?_
    refine q_icmp_ge F hx3 (hm.1 _ _) 154 dX5_readCells_10 (by decide) (fun hc => ?_) (fun hc => ?_)
    · have hw := hw.1 hc
      refine q_iconst F dX5_readCells_154 ?_
      exact hret _ _ _ _ _ _ dX5_readCells_155 (Or.inr rfl) (⟨by decide, by decide⟩ : inR (1)) hm hw
    · have hw := hw.2 hc
      refine q_aload_n F 0 dX5_readCells_13 rfl rfl ?_
      refine t_g_Reader_tokens F (by decide) ib5 wd65 4 rfl dX5_readCells_14 ?_
      refine q_aload_n F 0 dX5_readCells_17 rfl rfl ?_
      refine t_g_Reader_place F (by decide) ib5 wd66 dX5_readCells_18 ?_
      refine q_Vi F (kcX10_typeAt hm (hm.1 _ _) hw) (cIds_in (show ckd 4 = 8 ∧ 4 < 353 by decide).2) (ceTokens (show ckd 4 = 8 ∧ 4 < 353 by decide).1) (ci := 8) rfl (bV wd309 wd310 wd311 wd4 wd312) rfl ⟨rfl, rfl⟩ ydX10_typeAt (rmK_le hR (by omega) (by decide)) (av := [iV ((I 3 3))]) rfl rfl (Nat.le_of_ble_eq_true rfl) dX5_readCells_21 (rmK_cs hR (by omega) (by omega)) (fun r1 I2 R3 h4 m5 hw => ?_)
      refine q_iconst F dX5_readCells_24 ?_
      refine q_icmp_ne F h4 (⟨by decide, by decide⟩ : inR (3)) 154 dX5_readCells_25 (by decide) (fun hc => ?_) (fun hc => ?_)
      · have hw := hw.1 hc
        refine q_iconst F dX5_readCells_154 ?_
        exact hret _ _ _ _ _ _ dX5_readCells_155 (Or.inr rfl) (⟨by decide, by decide⟩ : inR (1)) m5 hw
      · have hw := hw.2 hc
        refine q_aload_n F 0 dX5_readCells_28 rfl rfl ?_
        refine t_g_Reader_tokens F (by decide) ib5 wd65 4 rfl dX5_readCells_29 ?_
        refine q_aload_n F 0 dX5_readCells_32 rfl rfl ?_
        refine t_g_Reader_place F (by decide) ib5 wd66 dX5_readCells_33 ?_
        refine q_Vi F (kcX10_numberAt m5 (m5.1 _ _) hw) (cIds_in (show ckd 4 = 8 ∧ 4 < 353 by decide).2) (ceTokens (show ckd 4 = 8 ∧ 4 < 353 by decide).1) (ci := 8) rfl (bV wd302 wd303 wd304 wd4 wd305) rfl ⟨rfl, rfl⟩ ydX10_numberAt (rmK_le hR (by omega) (by decide)) (av := [iV ((I2 3 3))]) rfl rfl (Nat.le_of_ble_eq_true rfl) dX5_readCells_36 (rmK_cs hR (by omega) (by omega)) (fun r6 I7 R8 h9 m10 hw => ?_)
        refine q_bipush F dX5_readCells_39 (by decide) ?_
        obtain ⟨k11, hw⟩ := hw
        refine q_idiv F ⟨⟨k11, (h9).2⟩, by decide, by decide⟩ dX5_readCells_41 ?_
        obtain ⟨k12, hw⟩ := hw
        obtain ⟨z13, e14⟩ := ex1 ((r6 / 10))
        have hw := hw z13 e14
        have hz13 : inR z13 := by rw [e14]; exact k12
        refine q_top e14 ?_
        refine q_istore (lv' := [(0, .ref (E.1 3)), (1, .ref (E.1 a1)), (2, .ref (E.1 a2)), (3, iV x3), (4, iV z13)]) F [1, 2, 3, 4, 0] dX5_readCells_42 (q_n hN (by decide)) rfl ?_
        refine q_aload_n F 0 dX5_readCells_44 rfl rfl ?_
        refine t_g_Reader_tokens F (by decide) ib5 wd65 4 rfl dX5_readCells_45 ?_
        refine q_aload_n F 0 dX5_readCells_48 rfl rfl ?_
        refine t_g_Reader_place F (by decide) ib5 wd66 dX5_readCells_49 ?_
        refine q_Vi F (kcX10_numberAt m10 (m10.1 _ _) hw) (cIds_in (show ckd 4 = 8 ∧ 4 < 353 by decide).2) (ceTokens (show ckd 4 = 8 ∧ 4 < 353 by decide).1) (ci := 8) rfl (bV wd302 wd303 wd304 wd4 wd305) rfl ⟨rfl, rfl⟩ ydX10_numberAt (rmK_le hR (by omega) (by decide)) (av := [iV ((I7 3 3))]) rfl rfl (Nat.le_of_ble_eq_true rfl) dX5_readCells_52 (rmK_cs hR (by omega) (by omega)) (fun r15 I16 R17 h18 m19 hw => ?_)
        refine q_bipush F dX5_readCells_55 (by decide) ?_
        obtain ⟨k20, hw⟩ := hw
        refine q_irem F ⟨⟨k20, (h18).2⟩, by decide, by decide⟩ dX5_readCells_57 ?_
        refine q_iconst F dX5_readCells_58 ?_
        refine q_isub F dX5_readCells_59 ?_
        obtain ⟨k21, hw⟩ := hw
        obtain ⟨z22, e23⟩ := ex1 (((r15 % 10) - 1))
        have hw := hw z22 e23
        have hz22 : inR z22 := by rw [e23]; exact k21
        refine q_top e23 ?_
        refine q_istore (lv' := [(0, .ref (E.1 3)), (1, .ref (E.1 a1)), (2, .ref (E.1 a2)), (3, iV x3), (4, iV z13), (5, iV z22)]) F [1, 2, 3, 4, 5, 0] dX5_readCells_60 (q_n hN (by decide)) rfl ?_
        refine q_iload F 4 dX5_readCells_62 rfl ?_
        refine q_aload_n F 1 dX5_readCells_64 rfl rfl ?_
        refine t_g_Puzzle_columns F (kP0 ha1) ib4 wd168 dX5_readCells_65 ?_
        refine q_icmp_ge F hz13 (m19.1 _ _) 85 dX5_readCells_68 (by decide) (fun hc => ?_) (fun hc => ?_)
        · have hw := hw.1 hc
          refine q_lv [0] rfl ?_
          exact bX5_readCells_85 F hR hN hret ha1 ha2 I16 R17 m19 hw
        · have hw := hw.2 hc
          refine q_iload F 5 dX5_readCells_71 rfl ?_
          refine q_if_lt F hz22 85 dX5_readCells_73 (by decide) (fun hc => ?_) (fun hc => ?_)
          · have hw := hw.1 hc
            refine q_lv [0] rfl ?_
            exact bX5_readCells_85 F hR hN hret ha1 ha2 I16 R17 m19 hw
          · have hw := hw.2 hc
            refine q_iload F 5 dX5_readCells_76 rfl ?_
            refine q_aload_n F 1 dX5_readCells_78 rfl rfl ?_
            refine t_g_Puzzle_rows F (kP0 ha1) ib4 wd172 dX5_readCells_79 ?_
            refine q_icmp_lt F hz22 (m19.1 _ _) 91 dX5_readCells_82 (by decide) (fun hc => ?_) (fun hc => ?_)
            · have hw := hw.1 hc
              refine q_iload F 4 dX5_readCells_91 rfl ?_
              refine q_aload_n F 1 dX5_readCells_93 rfl rfl ?_
              refine t_g_Puzzle_columns F (kP0 ha1) ib4 wd168 dX5_readCells_94 ?_
              refine q_iload F 5 dX5_readCells_97 rfl ?_
              refine q_imul F dX5_readCells_99 ?_
              refine q_iadd F dX5_readCells_100 ?_
              obtain ⟨k24, hw⟩ := hw
              obtain ⟨z25, e26⟩ := ex1 ((z13 + ((I16 a1 0) * z22)))
              have hw := hw z25 e26
              have hz25 : inR z25 := by rw [e26]; exact k24
              refine q_top e26 ?_
              refine q_istore (lv' := [(0, .ref (E.1 3)), (1, .ref (E.1 a1)), (2, .ref (E.1 a2)), (3, iV x3), (4, iV z13), (5, iV z22), (6, iV z25)]) F [1, 2, 3, 4, 5, 6, 0] dX5_readCells_101 (q_n hN (by decide)) rfl ?_
              refine q_aload_n F 2 dX5_readCells_103 rfl rfl ?_
              refine q_iload F 6 dX5_readCells_104 rfl ?_
              refine q_Vi F (kcX7_hasCell m19 ha2 hz25 hw) (cIds_in (kR0 ha2).2) (ceRule (kR0 ha2).1) (ci := 5) rfl (bV wd391 wd392 wd393 wd10 wd394) rfl ⟨rfl, rfl⟩ ydX7_hasCell (rmK_le hR (by omega) (by decide)) (av := [iV z25]) rfl rfl (Nat.le_of_ble_eq_true rfl) dX5_readCells_106 (rmK_cs hR (by omega) (by omega)) (fun r27 I28 R29 h30 m31 hw => ?_)
              refine q_if_eq F h30 118 dX5_readCells_109 (by decide) (fun hc => ?_) (fun hc => ?_)
              · have hw := hw.1 hc
                refine q_aload_n F 2 dX5_readCells_118 rfl rfl ?_
                refine t_g_Rule_size F (kR0 ha2) ib7 wd160 dX5_readCells_119 ?_
                refine q_iconst F dX5_readCells_122 ?_
                refine q_icmp_lt F (m31.1 _ _) (⟨by decide, by decide⟩ : inR (5)) 132 dX5_readCells_123 (by decide) (fun hc => ?_) (fun hc => ?_)
                · have hw := hw.1 hc
                  refine q_aload_n F 2 dX5_readCells_132 rfl rfl ?_
                  refine q_iload F 6 dX5_readCells_133 rfl ?_
                  refine q_Vv F (kcX7_addCell m31 ha2 hz25 hw) (cIds_in (kR0 ha2).2) (ceRule (kR0 ha2).1) (ci := 5) rfl (bV wd395 wd363 wd364 wd10 wd365) rfl ⟨rfl, rfl⟩ ydX7_addCell (rmK_le hR (by omega) (by decide)) (av := [iV z25]) rfl rfl (Nat.le_of_ble_eq_true rfl) dX5_readCells_135 (rmK_cs hR (by omega) (by omega)) (fun I33 R34 m36 hw => ?_)
                  refine q_aload_n F 0 dX5_readCells_138 rfl rfl ?_
                  refine q_dup F dX5_readCells_139 rfl ?_
                  refine t_g_Reader_place F (by decide) ib5 wd66 dX5_readCells_140 ?_
                  refine q_iconst F dX5_readCells_143 ?_
                  refine q_iadd F dX5_readCells_144 ?_
                  obtain ⟨k37, hw⟩ := hw
                  obtain ⟨I38, e39⟩ := ex1 (up2 I33 3 3 (((I33 3 3) + 1)))
                  have hw := hw I38 e39
                  have m40 : cM I38 R34 := cM_I m36 e39 k37
                  refine t_p_Reader_place F (by decide) ib5 wd66 e39 dX5_readCells_145 ?_
                  obtain ⟨k43, hw⟩ := hw
                  obtain ⟨z41, e42⟩ := ex1 (x3 + 1)
                  have hw := hw z41 e42
                  have hz41 : inR z41 := by rw [e42]; exact k43
                  refine q_iinc (lv' := [(0, .ref (E.1 3)), (1, .ref (E.1 a1)), (2, .ref (E.1 a2)), (3, iV z41), (4, iV z13), (5, iV z22), (6, iV z25)]) F 3 [1, 2, 3, 0, 4, 5, 6] dX5_readCells_148 rfl (q_n hN (by decide)) e42.symm rfl ?_
                  refine q_goto F 2 dX5_readCells_151 (by decide) ?_
                  refine q_lv [0, 1, 2, 3] rfl ?_
                  exact ih z41 I38 R34 hz41 m40 hw
                · have hw := hw.2 hc
                  refine q_aload_n F 0 dX5_readCells_126 rfl rfl ?_
                  refine q_iconst F dX5_readCells_127 ?_
                  refine q_Vi F (kcX5_fail m31 (⟨by decide, by decide⟩ : inR (4)) hw) (cIds_in (show ckd 3 = 3 ∧ 3 < 353 by decide).2) (ceReader (show ckd 3 = 3 ∧ 3 < 353 by decide).1) (ci := 3) rfl (bV wd322 wd323 wd887 wd3 wd324) rfl ⟨rfl, rfl⟩ ydX5_fail (rmK_le hR (by omega) (by decide)) (av := [iV 4]) rfl rfl (Nat.le_of_ble_eq_true rfl) dX5_readCells_128 (rmK_cs hR (by omega) (by omega)) (fun r44 I45 R46 h47 m48 hw => ?_)
                  obtain ⟨k49, hw⟩ := hw
                  exact hret _ _ _ _ _ _ dX5_readCells_131 k49 h47 m48 hw
              · have hw := hw.2 hc
                refine q_aload_n F 0 dX5_readCells_112 rfl rfl ?_
                refine q_iconst F dX5_readCells_113 ?_
                refine q_Vi F (kcX5_fail m31 (⟨by decide, by decide⟩ : inR (3)) hw) (cIds_in (show ckd 3 = 3 ∧ 3 < 353 by decide).2) (ceReader (show ckd 3 = 3 ∧ 3 < 353 by decide).1) (ci := 3) rfl (bV wd322 wd323 wd887 wd3 wd324) rfl ⟨rfl, rfl⟩ ydX5_fail (rmK_le hR (by omega) (by decide)) (av := [iV 3]) rfl rfl (Nat.le_of_ble_eq_true rfl) dX5_readCells_114 (rmK_cs hR (by omega) (by omega)) (fun r50 I51 R52 h53 m54 hw => ?_)
                obtain ⟨k55, hw⟩ := hw
                exact hret _ _ _ _ _ _ dX5_readCells_117 k55 h53 m54 hw
            · have hw := hw.2 hc
              refine q_lv [0] rfl ?_
              exact bX5_readCells_85 F hR hN hret ha1 ha2 I16 R17 m19 hw
set_option maxHeartbeats 4000000 in
set_option maxRecDepth 100000 in
theorem kcX5_readCells {l : Launch} {D : va_G} {E : cE} {a1 : Nat} {a2 : Nat} {I : cI} {R : cR} (hm : cM I R) (ha1 : isP a1) (ha2 : isR a2) {Q : Int → cI → cR → Prop} (hw : wX5_readCells a1 a2 I R Q) : gM l D E cIds yX5_readCells vX5_readCells (rmK 3 (0) (0)) [.ref (E.1 3), .ref (E.1 a1), .ref (E.1 a2)] (cef E (I, R)) (cef E) (pI Q) (0) (0) := by
  unfold wX5_readCells at hw
  refine k_ofW (own := RX5) (cc := cX5_readCells) (maxL := 7) (ret := (some .boolean)) (lv := [(0, .ref (E.1 3)), (1, .ref (E.1 a1)), (2, .ref (E.1 a2))]) (by decide) rfl rfl (Nat.le_of_ble_eq_true rfl) rfl ?_
  intro X hl hR hN hD F K
  subst hl; subst hD
  have hret := mk_rZ (Q := Q) F K
  refine q_iconst F dX5_readCells_0 ?_
  refine q_istore_n (lv' := [(0, .ref (E.1 3)), (1, .ref (E.1 a1)), (2, .ref (E.1 a2)), (3, iV 0)]) F [1, 2, 3, 0] dX5_readCells_1 rfl (q_n hN (by decide)) rfl ?_
  obtain ⟨n1, hw⟩ := hw
  exact bX5_readCells_2 F hR hN hret ha1 ha2 n1 0 I R (⟨by decide, by decide⟩ : inR (0)) hm hw
