/-! ===== walks: X12_form, X12_wrong, X12_lay, X12_layCell, X12_isNumber, X12_ruleMeaning, X12_meaning, X12_copyRule, X12_lookAnew ===== -/
theorem ydX12_form : yX12_form.cls = RX12 ∧ yX12_form.cls ≠ "java/lang/invoke/MethodHandle" ∧ yX12_form.cls ≠ "java/lang/invoke/VarHandle" ∧ (parseMethodDescriptor yX12_form.desc).map (fun d => d.parameters.length) = some 0 := by decide +kernel
def vX12_form : List Cond := Cond.code yX12_form cX12_form 1 (some .boolean) :: bG
set_option maxHeartbeats 4000000 in
set_option maxRecDepth 100000 in
theorem bX12_form_56 {X : xC} {E : cE} (F : mF X E RX12 cX12_form bG) (hR : X.1.2.2.2 = rmK 8 (0) (0)) (hN : X.2.2.1.2.2.2 = 1) {Q : Int → cI → Prop} (hret : rZM X E cX12_form (0) (0) Q)   : ∀ n56 : Nat, ∀ (J : cI), mM J → wX12_form_56 Q n56 J → cW X (0) (0) 56 [(0, .ref (E.1 1000))] [] (gw E.1 mIds (mef E J) ++ []) := by
  intro n56
  induction n56 with
  | zero => intro J hm hw; exact hw.elim
  | succ n56 ih =>
    intro J hm hw
    change wbX12_form_56 Q (wX12_form_56 Q n56) J at hw
    unfold wbX12_form_56 at hw
    refine q_aload_n F 0 dX12_form_56 rfl rfl ?_
    refine s_g_kinds F ib12 wd877 dX12_form_57 ?_
    refine q_aload_n F 0 dX12_form_60 rfl rfl ?_
    refine s_g_at F ib12 wd880 dX12_form_61 ?_
    obtain ⟨k1, hw⟩ := hw
    refine s_ald F 1601 kM_kinds k1 (by decide) dX12_form_64 ?_
    refine q_if_eq F (hm _ _) 85 dX12_form_65 (by decide) (fun hc => ?_) (fun hc => ?_)
    · have hw := hw.1 hc
      refine q_iconst F dX12_form_85 ?_
      exact hret _ _ _ _ _ dX12_form_86 (Or.inr rfl) (⟨by decide, by decide⟩ : inR (1)) hm hw
    · have hw := hw.2 hc
      refine q_aload_n F 0 dX12_form_68 rfl rfl ?_
      refine q_ViM F (kcX12_ruleForm hm hw) (by decide) meObj (ci := 10) rfl (bV wd963 wd964 wd1293 wd13 wd965) rfl ⟨rfl, rfl⟩ ydX12_ruleForm (rmK_le hR (by omega) (by decide)) (av := []) rfl rfl (Nat.le_of_ble_eq_true rfl) dX12_form_69 (rmK_cs hR (by omega) (by omega)) (fun r2 J3 h4 m5 hw => ?_)
      refine q_if_eq F h4 83 dX12_form_72 (by decide) (fun hc => ?_) (fun hc => ?_)
      · have hw := hw.1 hc
        refine q_iconst F dX12_form_83 ?_
        exact hret _ _ _ _ _ dX12_form_84 (Or.inl rfl) (⟨by decide, by decide⟩ : inR (0)) m5 hw
      · have hw := hw.2 hc
        refine q_aload_n F 0 dX12_form_75 rfl rfl ?_
        refine q_iconst F dX12_form_76 ?_
        refine q_ViM F (kcX12_takes m5 (⟨by decide, by decide⟩ : inR (4)) hw) (by decide) meObj (ci := 10) rfl (bV wd960 wd961 wd1292 wd13 wd962) rfl ⟨rfl, rfl⟩ ydX12_takes (rmK_le hR (by omega) (by decide)) (av := [iV 4]) rfl rfl (Nat.le_of_ble_eq_true rfl) dX12_form_77 (rmK_cs hR (by omega) (by omega)) (fun r6 J7 h8 m9 hw => ?_)
        refine q_if_ne F h8 56 dX12_form_80 (by decide) (fun hc => ?_) (fun hc => ?_)
        · have hw := hw.1 hc
          exact ih J7 m9 hw
        · have hw := hw.2 hc
          refine q_iconst F dX12_form_83 ?_
          exact hret _ _ _ _ _ dX12_form_84 (Or.inl rfl) (⟨by decide, by decide⟩ : inR (0)) m9 hw
set_option maxHeartbeats 4000000 in
set_option maxRecDepth 100000 in
theorem kcX12_form {l : Launch} {D : va_G} {E : cE} {J : cI} (hm : mM J)  {Q : Int → cI → Prop} (hw : wX12_form  J Q) : gM l D E mIds yX12_form vX12_form (rmK 8 (0) (0)) [.ref (E.1 1000)] (mef E J) (mef E) (oI Q) (0) (0) := by
  unfold wX12_form at hw
  refine k_ofW (own := RX12) (cc := cX12_form) (maxL := 1) (ret := (some .boolean)) (lv := [(0, .ref (E.1 1000))]) (by decide) rfl rfl (Nat.le_of_ble_eq_true rfl) rfl ?_
  intro X hl hR hN hD F K
  subst hl; subst hD
  have hret := mk_rZM (Q := Q) F K
  refine q_aload_n F 0 dX12_form_0 rfl rfl ?_
  refine q_iconst F dX12_form_1 ?_
  obtain ⟨J1, e2⟩ := ex1 (up2 J 1000 7 0)
  have hw := hw J1 e2
  have m3 : mM J1 := mM_I hm e2 (⟨by decide, by decide⟩ : inR (0))
  refine s_p_at F ib12 wd880 e2 dX12_form_2 ?_
  refine q_aload_n F 0 dX12_form_5 rfl rfl ?_
  refine q_iconst F dX12_form_6 ?_
  refine q_ldcT F (sR_RX12_grid F) dX12_form_7 ?_
  refine q_ViM F (kcX12_is m3 (⟨by decide, by decide⟩ : inR (0)) (by decide) hw) (by decide) meObj (ci := 10) rfl (bV wd955 wd956 wd1291 wd13 wd957) rfl ⟨rfl, rfl⟩ ydX12_is (rmK_le hR (by omega) (by decide)) (av := [iV 0, .ref (E.2.1 1 14)]) rfl rfl (Nat.le_of_ble_eq_true rfl) dX12_form_9 (rmK_cs hR (by omega) (by omega)) (fun r4 J5 h6 m7 hw => ?_)
  refine q_if_ne F h6 17 dX12_form_12 (by decide) (fun hc => ?_) (fun hc => ?_)
  · have hw := hw.1 hc
    refine q_aload_n F 0 dX12_form_17 rfl rfl ?_
    refine q_iconst F dX12_form_18 ?_
    obtain ⟨J8, e9⟩ := ex1 (up2 J5 1000 7 1)
    have hw := hw J8 e9
    have m10 : mM J8 := mM_I m7 e9 (⟨by decide, by decide⟩ : inR (1))
    refine s_p_at F ib12 wd880 e9 dX12_form_19 ?_
    refine q_aload_n F 0 dX12_form_22 rfl rfl ?_
    refine q_iconst F dX12_form_23 ?_
    refine q_ViM F (kcX12_takes m10 (⟨by decide, by decide⟩ : inR (3)) hw) (by decide) meObj (ci := 10) rfl (bV wd960 wd961 wd1292 wd13 wd962) rfl ⟨rfl, rfl⟩ ydX12_takes (rmK_le hR (by omega) (by decide)) (av := [iV 3]) rfl rfl (Nat.le_of_ble_eq_true rfl) dX12_form_24 (rmK_cs hR (by omega) (by omega)) (fun r11 J12 h13 m14 hw => ?_)
    refine q_if_eq F h13 54 dX12_form_27 (by decide) (fun hc => ?_) (fun hc => ?_)
    · have hw := hw.1 hc
      refine q_iconst F dX12_form_54 ?_
      exact hret _ _ _ _ _ dX12_form_55 (Or.inl rfl) (⟨by decide, by decide⟩ : inR (0)) m14 hw
    · have hw := hw.2 hc
      refine q_aload_n F 0 dX12_form_30 rfl rfl ?_
      refine q_iconst F dX12_form_31 ?_
      refine q_ViM F (kcX12_takes m14 (⟨by decide, by decide⟩ : inR (3)) hw) (by decide) meObj (ci := 10) rfl (bV wd960 wd961 wd1292 wd13 wd962) rfl ⟨rfl, rfl⟩ ydX12_takes (rmK_le hR (by omega) (by decide)) (av := [iV 3]) rfl rfl (Nat.le_of_ble_eq_true rfl) dX12_form_32 (rmK_cs hR (by omega) (by omega)) (fun r15 J16 h17 m18 hw => ?_)
      refine q_if_eq F h17 54 dX12_form_35 (by decide) (fun hc => ?_) (fun hc => ?_)
      · have hw := hw.1 hc
        refine q_iconst F dX12_form_54 ?_
        exact hret _ _ _ _ _ dX12_form_55 (Or.inl rfl) (⟨by decide, by decide⟩ : inR (0)) m18 hw
      · have hw := hw.2 hc
        refine q_aload_n F 0 dX12_form_38 rfl rfl ?_
        refine q_iconst F dX12_form_39 ?_
        refine q_ViM F (kcX12_takes m18 (⟨by decide, by decide⟩ : inR (3)) hw) (by decide) meObj (ci := 10) rfl (bV wd960 wd961 wd1292 wd13 wd962) rfl ⟨rfl, rfl⟩ ydX12_takes (rmK_le hR (by omega) (by decide)) (av := [iV 3]) rfl rfl (Nat.le_of_ble_eq_true rfl) dX12_form_40 (rmK_cs hR (by omega) (by omega)) (fun r19 J20 h21 m22 hw => ?_)
        refine q_if_eq F h21 54 dX12_form_43 (by decide) (fun hc => ?_) (fun hc => ?_)
        · have hw := hw.1 hc
          refine q_iconst F dX12_form_54 ?_
          exact hret _ _ _ _ _ dX12_form_55 (Or.inl rfl) (⟨by decide, by decide⟩ : inR (0)) m22 hw
        · have hw := hw.2 hc
          refine q_aload_n F 0 dX12_form_46 rfl rfl ?_
          refine q_iconst F dX12_form_47 ?_
          refine q_ViM F (kcX12_takes m22 (⟨by decide, by decide⟩ : inR (4)) hw) (by decide) meObj (ci := 10) rfl (bV wd960 wd961 wd1292 wd13 wd962) rfl ⟨rfl, rfl⟩ ydX12_takes (rmK_le hR (by omega) (by decide)) (av := [iV 4]) rfl rfl (Nat.le_of_ble_eq_true rfl) dX12_form_48 (rmK_cs hR (by omega) (by omega)) (fun r23 J24 h25 m26 hw => ?_)
          refine q_if_ne F h25 56 dX12_form_51 (by decide) (fun hc => ?_) (fun hc => ?_)
          · have hw := hw.1 hc
            obtain ⟨n27, hw⟩ := hw
            exact bX12_form_56 F hR hN hret n27 J24 m26 hw
          · have hw := hw.2 hc
            refine q_iconst F dX12_form_54 ?_
            exact hret _ _ _ _ _ dX12_form_55 (Or.inl rfl) (⟨by decide, by decide⟩ : inR (0)) m26 hw
  · have hw := hw.2 hc
    refine q_iconst F dX12_form_15 ?_
    exact hret _ _ _ _ _ dX12_form_16 (Or.inl rfl) (⟨by decide, by decide⟩ : inR (0)) m7 hw
theorem ydX12_wrong : yX12_wrong.cls = RX12 ∧ yX12_wrong.cls ≠ "java/lang/invoke/MethodHandle" ∧ yX12_wrong.cls ≠ "java/lang/invoke/VarHandle" ∧ (parseMethodDescriptor yX12_wrong.desc).map (fun d => d.parameters.length) = some 2 := by decide +kernel
def vX12_wrong : List Cond := Cond.code yX12_wrong cX12_wrong 3 (some .boolean) :: bG
set_option maxHeartbeats 4000000 in
set_option maxRecDepth 100000 in
theorem kcX12_wrong {l : Launch} {D : va_G} {E : cE} {a1 : Int} {a2 : Int} {J : cI} (hm : mM J) (ha1 : inR a1) (ha2 : inR a2) {Q : Int → cI → Prop} (hw : wX12_wrong a1 a2 J Q) : gM l D E mIds yX12_wrong vX12_wrong (rmK 1 (0) (0)) [.ref (E.1 1000), iV a1, iV a2] (mef E J) (mef E) (oI Q) (0) (0) := by
  unfold wX12_wrong at hw
  refine k_ofW (own := RX12) (cc := cX12_wrong) (maxL := 3) (ret := (some .boolean)) (lv := [(0, .ref (E.1 1000)), (1, iV a1), (2, iV a2)]) (by decide) rfl rfl (Nat.le_of_ble_eq_true rfl) rfl ?_
  intro X hl hR hN hD F K
  subst hl; subst hD
  have hret := mk_rZM (Q := Q) F K
  refine q_aload_n F 0 dX12_wrong_0 rfl rfl ?_
  refine q_iload_n F 1 dX12_wrong_1 rfl rfl ?_
  obtain ⟨J1, e2⟩ := ex1 (up2 J 1000 8 a1)
  have hw := hw J1 e2
  have m3 : mM J1 := mM_I hm e2 ha1
  refine s_p_error F ib12 wd881 e2 dX12_wrong_2 ?_
  refine q_aload_n F 0 dX12_wrong_5 rfl rfl ?_
  refine q_aload_n F 0 dX12_wrong_6 rfl rfl ?_
  refine s_g_froms F ib12 wd878 dX12_wrong_7 ?_
  refine q_iload_n F 2 dX12_wrong_10 rfl rfl ?_
  obtain ⟨k4, hw⟩ := hw
  refine s_ald F 1601 kM_froms k4 (by decide) dX12_wrong_11 ?_
  obtain ⟨J5, e6⟩ := ex1 (up2 J1 1000 3 ((J1 1005 a2)))
  have hw := hw J5 e6
  have m7 : mM J5 := mM_I m3 e6 (m3 _ _)
  refine s_p_errorAt F ib12 wd876 e6 dX12_wrong_12 ?_
  refine q_iconst F dX12_wrong_15 ?_
  exact hret _ _ _ _ _ dX12_wrong_16 (Or.inl rfl) (⟨by decide, by decide⟩ : inR (0)) m7 hw
theorem ydX12_lay : yX12_lay.cls = RX12 ∧ yX12_lay.cls ≠ "java/lang/invoke/MethodHandle" ∧ yX12_lay.cls ≠ "java/lang/invoke/VarHandle" ∧ (parseMethodDescriptor yX12_lay.desc).map (fun d => d.parameters.length) = some 3 := by decide +kernel
def vX12_lay : List Cond := Cond.code yX12_lay cX12_lay 4 none :: bG
set_option maxHeartbeats 4000000 in
set_option maxRecDepth 100000 in
theorem kcX12_lay {l : Launch} {D : va_G} {E : cE} {a1 : Int} {a2 : Int} {a3 : Int} {J : cI} (hm : mM J) (ha1 : inR a1) (ha2 : inR a2) (ha3 : inR a3) {Q : cI → Prop} (hw : wX12_lay a1 a2 a3 J Q) : gM l D E mIds yX12_lay vX12_lay (rmK 1 (0) (0)) [.ref (E.1 1000), iV a1, iV a2, iV a3] (mef E J) (mef E) (oV Q) (0) (0) := by
  unfold wX12_lay at hw
  refine k_ofW (own := RX12) (cc := cX12_lay) (maxL := 4) (ret := none) (lv := [(0, .ref (E.1 1000)), (1, iV a1), (2, iV a2), (3, iV a3)]) (by decide) rfl rfl (Nat.le_of_ble_eq_true rfl) rfl ?_
  intro X hl hR hN hD F K
  subst hl; subst hD
  have hret := mk_rVM (Q := Q) F K
  refine q_aload_n F 0 dX12_lay_0 rfl rfl ?_
  refine s_g_newKind F ib12 wd910 dX12_lay_1 ?_
  refine q_aload_n F 0 dX12_lay_4 rfl rfl ?_
  refine s_g_many F ib12 wd909 dX12_lay_5 ?_
  refine q_iload_n F 1 dX12_lay_8 rfl rfl ?_
  obtain ⟨k1, hw⟩ := hw
  obtain ⟨J2, e3⟩ := ex1 (up2 J 1037 ((J 1000 36)) a1)
  have hw := hw J2 e3
  have m4 : mM J2 := mM_I hm e3 ha1
  refine s_ast F 70 kM_newKind k1 (by decide) e3 dX12_lay_9 ?_
  refine q_aload_n F 0 dX12_lay_10 rfl rfl ?_
  refine s_g_newNumber F ib12 wd911 dX12_lay_11 ?_
  refine q_aload_n F 0 dX12_lay_14 rfl rfl ?_
  refine s_g_many F ib12 wd909 dX12_lay_15 ?_
  refine q_iload_n F 2 dX12_lay_18 rfl rfl ?_
  obtain ⟨k5, hw⟩ := hw
  obtain ⟨J6, e7⟩ := ex1 (up2 J2 1038 ((J2 1000 36)) a2)
  have hw := hw J6 e7
  have m8 : mM J6 := mM_I m4 e7 ha2
  refine s_ast F 70 kM_newNumber k5 (by decide) e7 dX12_lay_19 ?_
  refine q_aload_n F 0 dX12_lay_20 rfl rfl ?_
  refine s_g_newOften F ib12 wd912 dX12_lay_21 ?_
  refine q_aload_n F 0 dX12_lay_24 rfl rfl ?_
  refine s_g_many F ib12 wd909 dX12_lay_25 ?_
  refine q_iload_n F 3 dX12_lay_28 rfl rfl ?_
  obtain ⟨k9, hw⟩ := hw
  obtain ⟨J10, e11⟩ := ex1 (up2 J6 1039 ((J6 1000 36)) a3)
  have hw := hw J10 e11
  have m12 : mM J10 := mM_I m8 e11 ha3
  refine s_ast F 70 kM_newOften k9 (by decide) e11 dX12_lay_29 ?_
  refine q_aload_n F 0 dX12_lay_30 rfl rfl ?_
  refine s_g_newSize F ib12 wd913 dX12_lay_31 ?_
  refine q_aload_n F 0 dX12_lay_34 rfl rfl ?_
  refine s_g_many F ib12 wd909 dX12_lay_35 ?_
  refine q_iconst F dX12_lay_38 ?_
  obtain ⟨k13, hw⟩ := hw
  obtain ⟨J14, e15⟩ := ex1 (up2 J10 1040 ((J10 1000 36)) 0)
  have hw := hw J14 e15
  have m16 : mM J14 := mM_I m12 e15 (⟨by decide, by decide⟩ : inR (0))
  refine s_ast F 70 kM_newSize k13 (by decide) e15 dX12_lay_39 ?_
  exact hret _ _ _ _ dX12_lay_40 m16 hw
theorem ydX12_layCell : yX12_layCell.cls = RX12 ∧ yX12_layCell.cls ≠ "java/lang/invoke/MethodHandle" ∧ yX12_layCell.cls ≠ "java/lang/invoke/VarHandle" ∧ (parseMethodDescriptor yX12_layCell.desc).map (fun d => d.parameters.length) = some 1 := by decide +kernel
def vX12_layCell : List Cond := Cond.code yX12_layCell cX12_layCell 2 none :: bG
set_option maxHeartbeats 4000000 in
set_option maxRecDepth 100000 in
theorem kcX12_layCell {l : Launch} {D : va_G} {E : cE} {a1 : Int} {J : cI} (hm : mM J) (ha1 : inR a1) {Q : cI → Prop} (hw : wX12_layCell a1 J Q) : gM l D E mIds yX12_layCell vX12_layCell (rmK 1 (0) (0)) [.ref (E.1 1000), iV a1] (mef E J) (mef E) (oV Q) (0) (0) := by
  unfold wX12_layCell at hw
  refine k_ofW (own := RX12) (cc := cX12_layCell) (maxL := 2) (ret := none) (lv := [(0, .ref (E.1 1000)), (1, iV a1)]) (by decide) rfl rfl (Nat.le_of_ble_eq_true rfl) rfl ?_
  intro X hl hR hN hD F K
  subst hl; subst hD
  have hret := mk_rVM (Q := Q) F K
  refine q_aload_n F 0 dX12_layCell_0 rfl rfl ?_
  refine s_g_newCells F ib12 wd914 dX12_layCell_1 ?_
  refine q_iconst F dX12_layCell_4 ?_
  refine q_aload_n F 0 dX12_layCell_5 rfl rfl ?_
  refine s_g_many F ib12 wd909 dX12_layCell_6 ?_
  refine q_imul F dX12_layCell_9 ?_
  refine q_aload_n F 0 dX12_layCell_10 rfl rfl ?_
  refine s_g_newSize F ib12 wd913 dX12_layCell_11 ?_
  refine q_aload_n F 0 dX12_layCell_14 rfl rfl ?_
  refine s_g_many F ib12 wd909 dX12_layCell_15 ?_
  obtain ⟨k1, hw⟩ := hw
  refine s_ald F 70 kM_newSize k1 (by decide) dX12_layCell_18 ?_
  refine q_iadd F dX12_layCell_19 ?_
  refine q_iload_n F 1 dX12_layCell_20 rfl rfl ?_
  obtain ⟨k2, hw⟩ := hw
  obtain ⟨J3, e4⟩ := ex1 (up2 J 1041 (((5 * (J 1000 36)) + (J 1040 ((J 1000 36))))) a1)
  have hw := hw J3 e4
  have m5 : mM J3 := mM_I hm e4 ha1
  refine s_ast F 350 kM_newCells k2 (by decide) e4 dX12_layCell_21 ?_
  refine q_aload_n F 0 dX12_layCell_22 rfl rfl ?_
  refine s_g_newSize F ib12 wd913 dX12_layCell_23 ?_
  refine q_aload_n F 0 dX12_layCell_26 rfl rfl ?_
  refine s_g_many F ib12 wd909 dX12_layCell_27 ?_
  refine q_dup2 F dX12_layCell_30 rfl rfl ?_
  obtain ⟨k6, hw⟩ := hw
  refine s_ald F 70 kM_newSize k6 (by decide) dX12_layCell_31 ?_
  refine q_iconst F dX12_layCell_32 ?_
  refine q_iadd F dX12_layCell_33 ?_
  obtain ⟨k7, hw⟩ := hw
  obtain ⟨k8, hw⟩ := hw
  obtain ⟨J9, e10⟩ := ex1 (up2 J3 1040 ((J3 1000 36)) (((J3 1040 ((J3 1000 36))) + 1)))
  have hw := hw J9 e10
  have m11 : mM J9 := mM_I m5 e10 k7
  refine s_ast F 70 kM_newSize k8 (by decide) e10 dX12_layCell_34 ?_
  exact hret _ _ _ _ dX12_layCell_35 m11 hw
theorem ydX12_isNumber : yX12_isNumber.cls = RX12 ∧ yX12_isNumber.cls ≠ "java/lang/invoke/MethodHandle" ∧ yX12_isNumber.cls ≠ "java/lang/invoke/VarHandle" ∧ (parseMethodDescriptor yX12_isNumber.desc).map (fun d => d.parameters.length) = some 3 := by decide +kernel
def vX12_isNumber : List Cond := Cond.code yX12_isNumber cX12_isNumber 4 (some .boolean) :: bG
set_option maxHeartbeats 4000000 in
set_option maxRecDepth 100000 in
theorem kcX12_isNumber {l : Launch} {D : va_G} {E : cE} {a1 : Int} {a2 : Int} {a3 : Int} {J : cI} (hm : mM J) (ha1 : inR a1) (ha2 : inR a2) (ha3 : inR a3) {Q : Int → cI → Prop} (hw : wX12_isNumber a1 a2 a3 J Q) : gM l D E mIds yX12_isNumber vX12_isNumber (rmK 2 (0) (0)) [.ref (E.1 1000), iV a1, iV a2, iV a3] (mef E J) (mef E) (oI Q) (0) (0) := by
  unfold wX12_isNumber at hw
  refine k_ofW (own := RX12) (cc := cX12_isNumber) (maxL := 4) (ret := (some .boolean)) (lv := [(0, .ref (E.1 1000)), (1, iV a1), (2, iV a2), (3, iV a3)]) (by decide) rfl rfl (Nat.le_of_ble_eq_true rfl) rfl ?_
  intro X hl hR hN hD F K
  subst hl; subst hD
  have hret := mk_rZM (Q := Q) F K
  refine q_iload_n F 1 dX12_isNumber_0 rfl rfl ?_
  refine q_bipush F dX12_isNumber_1 (by decide) ?_
  refine q_icmp_ne F ha1 (⟨by decide, by decide⟩ : inR (8)) 29 dX12_isNumber_3 (by decide) (fun hc => ?_) (fun hc => ?_)
  · have hw := hw.1 hc
    refine q_iload_n F 1 dX12_isNumber_29 rfl rfl ?_
    refine q_iconst F dX12_isNumber_30 ?_
    refine q_icmp_ne F ha1 (⟨by decide, by decide⟩ : inR (5)) 43 dX12_isNumber_31 (by decide) (fun hc => ?_) (fun hc => ?_)
    · have hw := hw.1 hc
      refine q_iload_n F 1 dX12_isNumber_43 rfl rfl ?_
      refine q_bipush F dX12_isNumber_44 (by decide) ?_
      refine q_icmp_ne F ha1 (⟨by decide, by decide⟩ : inR (10)) 58 dX12_isNumber_46 (by decide) (fun hc => ?_) (fun hc => ?_)
      · have hw := hw.1 hc
        refine q_iconst F dX12_isNumber_58 ?_
        refine q_goto F 63 dX12_isNumber_59 (by decide) ?_
        exact hret _ _ _ _ _ dX12_isNumber_63 (Or.inr rfl) (⟨by decide, by decide⟩ : inR (1)) hm hw
      · have hw := hw.2 hc
        refine q_iload_n F 3 dX12_isNumber_49 rfl rfl ?_
        refine q_iconst F dX12_isNumber_50 ?_
        refine q_iconst F dX12_isNumber_51 ?_
        refine q_SiM F (kcX12_isIn hm ha3 (⟨by decide, by decide⟩ : inR (1)) (⟨by decide, by decide⟩ : inR (4)) hw) (bS wd932 wd933 wd13 wd934) rfl ⟨rfl, rfl⟩ ydX12_isIn (rmK_le hR (by omega) (by decide)) (av := [iV a3, iV 1, iV 4]) rfl rfl (Nat.le_of_ble_eq_true rfl) dX12_isNumber_52 (rmK_cs hR (by omega) (by omega)) (fun r1 J2 h3 m4 hw => ?_)
        refine q_if_eq F h3 62 dX12_isNumber_55 (by decide) (fun hc => ?_) (fun hc => ?_)
        · have hw := hw.1 hc
          refine q_iconst F dX12_isNumber_62 ?_
          exact hret _ _ _ _ _ dX12_isNumber_63 (Or.inl rfl) (⟨by decide, by decide⟩ : inR (0)) m4 hw
        · have hw := hw.2 hc
          refine q_iconst F dX12_isNumber_58 ?_
          refine q_goto F 63 dX12_isNumber_59 (by decide) ?_
          exact hret _ _ _ _ _ dX12_isNumber_63 (Or.inr rfl) (⟨by decide, by decide⟩ : inR (1)) m4 hw
    · have hw := hw.2 hc
      refine q_iload_n F 3 dX12_isNumber_34 rfl rfl ?_
      refine q_iconst F dX12_isNumber_35 ?_
      refine q_iconst F dX12_isNumber_36 ?_
      refine q_SiM F (kcX12_isIn hm ha3 (⟨by decide, by decide⟩ : inR (1)) (⟨by decide, by decide⟩ : inR (5)) hw) (bS wd932 wd933 wd13 wd934) rfl ⟨rfl, rfl⟩ ydX12_isIn (rmK_le hR (by omega) (by decide)) (av := [iV a3, iV 1, iV 5]) rfl rfl (Nat.le_of_ble_eq_true rfl) dX12_isNumber_37 (rmK_cs hR (by omega) (by omega)) (fun r5 J6 h7 m8 hw => ?_)
      refine q_goto F 63 dX12_isNumber_40 (by decide) ?_
      obtain ⟨k9, hw⟩ := hw
      exact hret _ _ _ _ _ dX12_isNumber_63 k9 h7 m8 hw
  · have hw := hw.2 hc
    refine q_iload_n F 2 dX12_isNumber_6 rfl rfl ?_
    refine q_if_ne F ha2 22 dX12_isNumber_7 (by decide) (fun hc => ?_) (fun hc => ?_)
    · have hw := hw.1 hc
      refine q_iload_n F 3 dX12_isNumber_22 rfl rfl ?_
      refine q_iconst F dX12_isNumber_23 ?_
      refine q_iconst F dX12_isNumber_24 ?_
      refine q_SiM F (kcX12_isIn hm ha3 (⟨by decide, by decide⟩ : inR (0)) (⟨by decide, by decide⟩ : inR (5)) hw) (bS wd932 wd933 wd13 wd934) rfl ⟨rfl, rfl⟩ ydX12_isIn (rmK_le hR (by omega) (by decide)) (av := [iV a3, iV 0, iV 5]) rfl rfl (Nat.le_of_ble_eq_true rfl) dX12_isNumber_25 (rmK_cs hR (by omega) (by omega)) (fun r10 J11 h12 m13 hw => ?_)
      obtain ⟨k14, hw⟩ := hw
      exact hret _ _ _ _ _ dX12_isNumber_28 k14 h12 m13 hw
    · have hw := hw.2 hc
      refine q_iload_n F 3 dX12_isNumber_10 rfl rfl ?_
      refine q_iconst F dX12_isNumber_11 ?_
      refine q_aload_n F 0 dX12_isNumber_12 rfl rfl ?_
      refine s_g_newK F ib12 wd908 dX12_isNumber_13 ?_
      refine q_SiM F (kcX12_isIn hm ha3 (⟨by decide, by decide⟩ : inR (1)) (hm _ _) hw) (bS wd932 wd933 wd13 wd934) rfl ⟨rfl, rfl⟩ ydX12_isIn (rmK_le hR (by omega) (by decide)) (av := [iV a3, iV 1, iV ((J 1000 35))]) rfl rfl (Nat.le_of_ble_eq_true rfl) dX12_isNumber_16 (rmK_cs hR (by omega) (by omega)) (fun r15 J16 h17 m18 hw => ?_)
      refine q_goto F 28 dX12_isNumber_19 (by decide) ?_
      obtain ⟨k19, hw⟩ := hw
      exact hret _ _ _ _ _ dX12_isNumber_28 k19 h17 m18 hw
theorem ydX12_ruleMeaning : yX12_ruleMeaning.cls = RX12 ∧ yX12_ruleMeaning.cls ≠ "java/lang/invoke/MethodHandle" ∧ yX12_ruleMeaning.cls ≠ "java/lang/invoke/VarHandle" ∧ (parseMethodDescriptor yX12_ruleMeaning.desc).map (fun d => d.parameters.length) = some 1 := by decide +kernel
def vX12_ruleMeaning : List Cond := Cond.code yX12_ruleMeaning cX12_ruleMeaning 7 (some .boolean) :: bG
set_option maxHeartbeats 4000000 in
set_option maxRecDepth 100000 in
theorem bX12_ruleMeaning_519 {X : xC} {E : cE} (F : mF X E RX12 cX12_ruleMeaning bG) (hR : X.1.2.2.2 = rmK 3 (0) (0)) (hN : X.2.2.1.2.2.2 = 7) {Q : Int → cI → Prop} (hret : rZM X E cX12_ruleMeaning (0) (0) Q) {a1 : Int} (ha1 : inR a1) : ∀ (J : cI), mM J → wX12_ruleMeaning_519 Q a1 J → cW X (0) (0) 519 [(0, .ref (E.1 1000))] [] (gw E.1 mIds (mef E J) ++ []) := by
  intro J hm hw
  unfold wX12_ruleMeaning_519 at hw
  refine q_aload_n F 0 dX12_ruleMeaning_519 rfl rfl ?_
  refine q_dup F dX12_ruleMeaning_520 rfl ?_
  refine s_g_many F ib12 wd909 dX12_ruleMeaning_521 ?_
  refine q_iconst F dX12_ruleMeaning_524 ?_
  refine q_iadd F dX12_ruleMeaning_525 ?_
  obtain ⟨k1, hw⟩ := hw
  obtain ⟨J2, e3⟩ := ex1 (up2 J 1000 36 (((J 1000 36) + 1)))
  have hw := hw J2 e3
  have m4 : mM J2 := mM_I hm e3 k1
  refine s_p_many F ib12 wd909 e3 dX12_ruleMeaning_526 ?_
  refine q_iconst F dX12_ruleMeaning_529 ?_
  exact hret _ _ _ _ _ dX12_ruleMeaning_530 (Or.inr rfl) (⟨by decide, by decide⟩ : inR (1)) m4 hw
set_option maxHeartbeats 4000000 in
set_option maxRecDepth 100000 in
theorem bX12_ruleMeaning_342 {X : xC} {E : cE} (F : mF X E RX12 cX12_ruleMeaning bG) (hR : X.1.2.2.2 = rmK 3 (0) (0)) (hN : X.2.2.1.2.2.2 = 7) {Q : Int → cI → Prop} (hret : rZM X E cX12_ruleMeaning (0) (0) Q) {a1 : Int} (ha1 : inR a1) : ∀ (J : cI), mM J → wX12_ruleMeaning_342 Q a1 J → cW X (0) (0) 342 [(0, .ref (E.1 1000))] [] (gw E.1 mIds (mef E J) ++ []) := by
  intro J hm hw
  unfold wX12_ruleMeaning_342 at hw
  refine q_aload_n F 0 dX12_ruleMeaning_342 rfl rfl ?_
  refine q_iconst F dX12_ruleMeaning_343 ?_
  refine q_aload_n F 0 dX12_ruleMeaning_344 rfl rfl ?_
  refine s_g_at F ib12 wd880 dX12_ruleMeaning_345 ?_
  refine q_ViM F (kcX12_wrong hm (⟨by decide, by decide⟩ : inR (2)) (hm _ _) hw) (by decide) meObj (ci := 10) rfl (bV wd973 wd974 wd1295 wd13 wd975) rfl ⟨rfl, rfl⟩ ydX12_wrong (rmK_le hR (by omega) (by decide)) (av := [iV 2, iV ((J 1000 7))]) rfl rfl (Nat.le_of_ble_eq_true rfl) dX12_ruleMeaning_348 (rmK_cs hR (by omega) (by omega)) (fun r1 J2 h3 m4 hw => ?_)
  obtain ⟨k5, hw⟩ := hw
  exact hret _ _ _ _ _ dX12_ruleMeaning_351 k5 h3 m4 hw
set_option maxHeartbeats 4000000 in
set_option maxRecDepth 100000 in
theorem bX12_ruleMeaning_366 {X : xC} {E : cE} (F : mF X E RX12 cX12_ruleMeaning bG) (hR : X.1.2.2.2 = rmK 3 (0) (0)) (hN : X.2.2.1.2.2.2 = 7) {Q : Int → cI → Prop} (hret : rZM X E cX12_ruleMeaning (0) (0) Q) {a1 : Int} (ha1 : inR a1) {K261 : cI → Prop} (hK261 : ∀ (J : cI), mM J → K261 J → cW X (0) (0) 261 [(0, .ref (E.1 1000)), (1, iV a1)] [] (gw E.1 mIds (mef E J) ++ [])) : ∀ n366 : Nat, ∀ (x5 : Int) (x6 : Int) (J : cI), inR x5 → inR x6 → mM J → wX12_ruleMeaning_366 Q a1 K261 n366 x5 x6 J → cW X (0) (0) 366 [(0, .ref (E.1 1000)), (1, iV a1), (5, iV x5), (6, iV x6)] [] (gw E.1 mIds (mef E J) ++ []) := by
  intro n366
  induction n366 with
  | zero => intro x5 x6 J hx5 hx6 hm hw; exact hw.elim
  | succ n366 ih =>
    intro x5 x6 J hx5 hx6 hm hw
    change wbX12_ruleMeaning_366 Q a1 K261 (wX12_ruleMeaning_366 Q a1 K261 n366) x5 x6 J at hw
    unfold wbX12_ruleMeaning_366 at hw
    refine q_iload F 3 dX12_ruleMeaning_366 rfl ?_
    refine q_aload_n F 0 dX12_ruleMeaning_368 rfl rfl ?_
    refine s_g_newSize F ib12 wd913 dX12_ruleMeaning_369 ?_
    refine q_aload_n F 0 dX12_ruleMeaning_372 rfl rfl ?_
    refine s_g_many F ib12 wd909 dX12_ruleMeaning_373 ?_
    obtain ⟨k1, hw⟩ := hw
    refine s_ald F 70 kM_newSize k1 (by decide) dX12_ruleMeaning_376 ?_
    refine q_icmp_ge F hx6 (hm _ _) 415 dX12_ruleMeaning_377 (by decide) (fun hc => ?_) (fun hc => ?_)
    · have hw := hw.1 hc
      refine q_aload_n F 0 dX12_ruleMeaning_415 rfl rfl ?_
      refine s_g_newSize F ib12 wd913 dX12_ruleMeaning_416 ?_
      refine q_aload_n F 0 dX12_ruleMeaning_419 rfl rfl ?_
      refine s_g_many F ib12 wd909 dX12_ruleMeaning_420 ?_
      obtain ⟨k2, hw⟩ := hw
      refine s_ald F 70 kM_newSize k2 (by decide) dX12_ruleMeaning_423 ?_
      refine q_iconst F dX12_ruleMeaning_424 ?_
      refine q_icmp_ne F (hm _ _) (⟨by decide, by decide⟩ : inR (5)) 438 dX12_ruleMeaning_425 (by decide) (fun hc => ?_) (fun hc => ?_)
      · have hw := hw.1 hc
        refine q_aload_n F 0 dX12_ruleMeaning_438 rfl rfl ?_
        refine q_iload F 2 dX12_ruleMeaning_439 rfl ?_
        refine q_VvM F (kcX12_layCell hm hx5 hw) (by decide) meObj (ci := 10) rfl (bV wd988 wd989 wd1300 wd13 wd990) rfl ⟨rfl, rfl⟩ ydX12_layCell (rmK_le hR (by omega) (by decide)) (av := [iV x5]) rfl rfl (Nat.le_of_ble_eq_true rfl) dX12_ruleMeaning_441 (rmK_cs hR (by omega) (by omega)) (fun J4 m6 hw => ?_)
        refine q_aload_n F 0 dX12_ruleMeaning_444 rfl rfl ?_
        refine q_dup F dX12_ruleMeaning_445 rfl ?_
        refine s_g_at F ib12 wd880 dX12_ruleMeaning_446 ?_
        refine q_iconst F dX12_ruleMeaning_449 ?_
        refine q_iadd F dX12_ruleMeaning_450 ?_
        obtain ⟨k7, hw⟩ := hw
        obtain ⟨J8, e9⟩ := ex1 (up2 J4 1000 7 (((J4 1000 7) + 1)))
        have hw := hw J8 e9
        have m10 : mM J8 := mM_I m6 e9 k7
        refine s_p_at F ib12 wd880 e9 dX12_ruleMeaning_451 ?_
        refine q_goto F 261 dX12_ruleMeaning_454 (by decide) ?_
        refine q_lv [0, 1] rfl ?_
        exact hK261 J8 m10 hw
      · have hw := hw.2 hc
        refine q_aload_n F 0 dX12_ruleMeaning_428 rfl rfl ?_
        refine q_iconst F dX12_ruleMeaning_429 ?_
        refine q_aload_n F 0 dX12_ruleMeaning_430 rfl rfl ?_
        refine s_g_at F ib12 wd880 dX12_ruleMeaning_431 ?_
        refine q_ViM F (kcX12_wrong hm (⟨by decide, by decide⟩ : inR (4)) (hm _ _) hw) (by decide) meObj (ci := 10) rfl (bV wd973 wd974 wd1295 wd13 wd975) rfl ⟨rfl, rfl⟩ ydX12_wrong (rmK_le hR (by omega) (by decide)) (av := [iV 4, iV ((J 1000 7))]) rfl rfl (Nat.le_of_ble_eq_true rfl) dX12_ruleMeaning_434 (rmK_cs hR (by omega) (by omega)) (fun r11 J12 h13 m14 hw => ?_)
        obtain ⟨k15, hw⟩ := hw
        exact hret _ _ _ _ _ dX12_ruleMeaning_437 k15 h13 m14 hw
    · have hw := hw.2 hc
      refine q_aload_n F 0 dX12_ruleMeaning_380 rfl rfl ?_
      refine s_g_newCells F ib12 wd914 dX12_ruleMeaning_381 ?_
      refine q_iconst F dX12_ruleMeaning_384 ?_
      refine q_aload_n F 0 dX12_ruleMeaning_385 rfl rfl ?_
      refine s_g_many F ib12 wd909 dX12_ruleMeaning_386 ?_
      refine q_imul F dX12_ruleMeaning_389 ?_
      refine q_iload F 3 dX12_ruleMeaning_390 rfl ?_
      refine q_iadd F dX12_ruleMeaning_392 ?_
      obtain ⟨k16, hw⟩ := hw
      refine s_ald F 350 kM_newCells k16 (by decide) dX12_ruleMeaning_393 ?_
      refine q_iload F 2 dX12_ruleMeaning_394 rfl ?_
      refine q_icmp_ne F (hm _ _) hx5 409 dX12_ruleMeaning_396 (by decide) (fun hc => ?_) (fun hc => ?_)
      · have hw := hw.1 hc
        obtain ⟨k19, hw⟩ := hw
        obtain ⟨z17, e18⟩ := ex1 (x6 + 1)
        have hw := hw z17 e18
        have hz17 : inR z17 := by rw [e18]; exact k19
        refine q_iinc (lv' := [(0, .ref (E.1 1000)), (1, iV a1), (5, iV x5), (6, iV z17)]) F 3 [1, 2, 3, 0] dX12_ruleMeaning_409 rfl (q_n hN (by decide)) e18.symm rfl ?_
        refine q_goto F 366 dX12_ruleMeaning_412 (by decide) ?_
        exact ih x5 z17 J hx5 hz17 hm hw
      · have hw := hw.2 hc
        refine q_aload_n F 0 dX12_ruleMeaning_399 rfl rfl ?_
        refine q_iconst F dX12_ruleMeaning_400 ?_
        refine q_aload_n F 0 dX12_ruleMeaning_401 rfl rfl ?_
        refine s_g_at F ib12 wd880 dX12_ruleMeaning_402 ?_
        refine q_ViM F (kcX12_wrong hm (⟨by decide, by decide⟩ : inR (3)) (hm _ _) hw) (by decide) meObj (ci := 10) rfl (bV wd973 wd974 wd1295 wd13 wd975) rfl ⟨rfl, rfl⟩ ydX12_wrong (rmK_le hR (by omega) (by decide)) (av := [iV 3, iV ((J 1000 7))]) rfl rfl (Nat.le_of_ble_eq_true rfl) dX12_ruleMeaning_405 (rmK_cs hR (by omega) (by omega)) (fun r20 J21 h22 m23 hw => ?_)
        obtain ⟨k24, hw⟩ := hw
        exact hret _ _ _ _ _ dX12_ruleMeaning_408 k24 h22 m23 hw
set_option maxHeartbeats 4000000 in
set_option maxRecDepth 100000 in
theorem bX12_ruleMeaning_261 {X : xC} {E : cE} (F : mF X E RX12 cX12_ruleMeaning bG) (hR : X.1.2.2.2 = rmK 3 (0) (0)) (hN : X.2.2.1.2.2.2 = 7) {Q : Int → cI → Prop} (hret : rZM X E cX12_ruleMeaning (0) (0) Q) {a1 : Int} (ha1 : inR a1) : ∀ n261 : Nat, ∀ (J : cI), mM J → wX12_ruleMeaning_261 Q a1 n261 J → cW X (0) (0) 261 [(0, .ref (E.1 1000)), (1, iV a1)] [] (gw E.1 mIds (mef E J) ++ []) := by
  intro n261
  induction n261 with
  | zero => intro J hm hw; exact hw.elim
  | succ n261 ih =>
    intro J hm hw
    change wbX12_ruleMeaning_261 Q a1 (wX12_ruleMeaning_261 Q a1 n261) J at hw
    unfold wbX12_ruleMeaning_261 at hw
    refine q_aload_n F 0 dX12_ruleMeaning_261 rfl rfl ?_
    refine s_g_kinds F ib12 wd877 dX12_ruleMeaning_262 ?_
    refine q_aload_n F 0 dX12_ruleMeaning_265 rfl rfl ?_
    refine s_g_at F ib12 wd880 dX12_ruleMeaning_266 ?_
    obtain ⟨k1, hw⟩ := hw
    refine s_ald F 1601 kM_kinds k1 (by decide) dX12_ruleMeaning_269 ?_
    refine q_iconst F dX12_ruleMeaning_270 ?_
    refine q_icmp_ne F (hm _ _) (⟨by decide, by decide⟩ : inR (1)) 457 dX12_ruleMeaning_271 (by decide) (fun hc => ?_) (fun hc => ?_)
    · have hw := hw.1 hc
      refine q_iload_n F 1 dX12_ruleMeaning_457 rfl rfl ?_
      refine q_bipush F dX12_ruleMeaning_458 (by decide) ?_
      refine q_icmp_ne F ha1 (⟨by decide, by decide⟩ : inR (9)) 519 dX12_ruleMeaning_460 (by decide) (fun hc => ?_) (fun hc => ?_)
      · have hw := hw.1 hc
        refine q_lv [0] rfl ?_
        exact bX12_ruleMeaning_519 F hR hN hret ha1 J hm hw
      · have hw := hw.2 hc
        refine q_aload_n F 0 dX12_ruleMeaning_463 rfl rfl ?_
        refine q_aload_n F 0 dX12_ruleMeaning_464 rfl rfl ?_
        refine s_g_at F ib12 wd880 dX12_ruleMeaning_465 ?_
        refine q_ViM F (kcX12_numberAt hm (hm _ _) hw) (by decide) meObj (ci := 10) rfl (bV wd979 wd980 wd1297 wd13 wd981) rfl ⟨rfl, rfl⟩ ydX12_numberAt (rmK_le hR (by omega) (by decide)) (av := [iV ((J 1000 7))]) rfl rfl (Nat.le_of_ble_eq_true rfl) dX12_ruleMeaning_468 (rmK_cs hR (by omega) (by omega)) (fun r2 J3 h4 m5 hw => ?_)
        refine q_iconst F dX12_ruleMeaning_471 ?_
        refine q_aload_n F 0 dX12_ruleMeaning_472 rfl rfl ?_
        refine s_g_newK F ib12 wd908 dX12_ruleMeaning_473 ?_
        refine q_SiM F (kcX12_isIn m5 h4 (⟨by decide, by decide⟩ : inR (1)) (m5 _ _) hw) (bS wd932 wd933 wd13 wd934) rfl ⟨rfl, rfl⟩ ydX12_isIn (rmK_le hR (by omega) (by decide)) (av := [iV r2, iV 1, iV ((J3 1000 35))]) rfl rfl (Nat.le_of_ble_eq_true rfl) dX12_ruleMeaning_476 (rmK_cs hR (by omega) (by omega)) (fun r6 J7 h8 m9 hw => ?_)
        refine q_if_ne F h8 492 dX12_ruleMeaning_479 (by decide) (fun hc => ?_) (fun hc => ?_)
        · have hw := hw.1 hc
          refine q_aload_n F 0 dX12_ruleMeaning_492 rfl rfl ?_
          refine s_g_newNumber F ib12 wd911 dX12_ruleMeaning_493 ?_
          refine q_aload_n F 0 dX12_ruleMeaning_496 rfl rfl ?_
          refine s_g_many F ib12 wd909 dX12_ruleMeaning_497 ?_
          refine q_aload_n F 0 dX12_ruleMeaning_500 rfl rfl ?_
          refine q_aload_n F 0 dX12_ruleMeaning_501 rfl rfl ?_
          refine s_g_at F ib12 wd880 dX12_ruleMeaning_502 ?_
          refine q_ViM F (kcX12_numberAt m9 (m9 _ _) hw) (by decide) meObj (ci := 10) rfl (bV wd979 wd980 wd1297 wd13 wd981) rfl ⟨rfl, rfl⟩ ydX12_numberAt (rmK_le hR (by omega) (by decide)) (av := [iV ((J7 1000 7))]) rfl rfl (Nat.le_of_ble_eq_true rfl) dX12_ruleMeaning_505 (rmK_cs hR (by omega) (by omega)) (fun r10 J11 h12 m13 hw => ?_)
          obtain ⟨k14, hw⟩ := hw
          obtain ⟨J15, e16⟩ := ex1 (up2 J11 1038 ((J7 1000 36)) r10)
          have hw := hw J15 e16
          have m17 : mM J15 := mM_I m13 e16 h12
          refine s_ast F 70 kM_newNumber k14 (by decide) e16 dX12_ruleMeaning_508 ?_
          refine q_aload_n F 0 dX12_ruleMeaning_509 rfl rfl ?_
          refine q_dup F dX12_ruleMeaning_510 rfl ?_
          refine s_g_at F ib12 wd880 dX12_ruleMeaning_511 ?_
          refine q_iconst F dX12_ruleMeaning_514 ?_
          refine q_iadd F dX12_ruleMeaning_515 ?_
          obtain ⟨k18, hw⟩ := hw
          obtain ⟨J19, e20⟩ := ex1 (up2 J15 1000 7 (((J15 1000 7) + 1)))
          have hw := hw J19 e20
          have m21 : mM J19 := mM_I m17 e20 k18
          refine s_p_at F ib12 wd880 e20 dX12_ruleMeaning_516 ?_
          refine q_lv [0] rfl ?_
          exact bX12_ruleMeaning_519 F hR hN hret ha1 J19 m21 hw
        · have hw := hw.2 hc
          refine q_aload_n F 0 dX12_ruleMeaning_482 rfl rfl ?_
          refine q_iconst F dX12_ruleMeaning_483 ?_
          refine q_aload_n F 0 dX12_ruleMeaning_484 rfl rfl ?_
          refine s_g_at F ib12 wd880 dX12_ruleMeaning_485 ?_
          refine q_ViM F (kcX12_wrong m9 (⟨by decide, by decide⟩ : inR (2)) (m9 _ _) hw) (by decide) meObj (ci := 10) rfl (bV wd973 wd974 wd1295 wd13 wd975) rfl ⟨rfl, rfl⟩ ydX12_wrong (rmK_le hR (by omega) (by decide)) (av := [iV 2, iV ((J7 1000 7))]) rfl rfl (Nat.le_of_ble_eq_true rfl) dX12_ruleMeaning_488 (rmK_cs hR (by omega) (by omega)) (fun r22 J23 h24 m25 hw => ?_)
          obtain ⟨k26, hw⟩ := hw
          exact hret _ _ _ _ _ dX12_ruleMeaning_491 k26 h24 m25 hw
    · have hw := hw.2 hc
      refine q_aload_n F 0 dX12_ruleMeaning_274 rfl rfl ?_
      refine s_g_tape F ib12 wd874 dX12_ruleMeaning_275 ?_
      refine q_aload_n F 0 dX12_ruleMeaning_278 rfl rfl ?_
      refine s_g_froms F ib12 wd878 dX12_ruleMeaning_279 ?_
      refine q_aload_n F 0 dX12_ruleMeaning_282 rfl rfl ?_
      refine s_g_at F ib12 wd880 dX12_ruleMeaning_283 ?_
      obtain ⟨k27, hw⟩ := hw
      refine s_ald F 1601 kM_froms k27 (by decide) dX12_ruleMeaning_286 ?_
      obtain ⟨k28, hw⟩ := hw
      refine s_ald F 1600 kM_tape k28 (by decide) dX12_ruleMeaning_287 ?_
      refine q_bipush F dX12_ruleMeaning_288 (by decide) ?_
      refine q_isub F dX12_ruleMeaning_290 ?_
      obtain ⟨k29, hw⟩ := hw
      obtain ⟨z30, e31⟩ := ex1 (((J 1001 ((J 1005 ((J 1000 7))))) - 97))
      have hw := hw z30 e31
      have hz30 : inR z30 := by rw [e31]; exact k29
      refine q_top e31 ?_
      refine q_istore_n (lv' := [(0, .ref (E.1 1000)), (1, iV a1), (3, iV z30)]) F [1, 2, 0] dX12_ruleMeaning_291 rfl (q_n hN (by decide)) rfl ?_
      refine q_aload_n F 0 dX12_ruleMeaning_292 rfl rfl ?_
      refine s_g_tape F ib12 wd874 dX12_ruleMeaning_293 ?_
      refine q_aload_n F 0 dX12_ruleMeaning_296 rfl rfl ?_
      refine s_g_froms F ib12 wd878 dX12_ruleMeaning_297 ?_
      refine q_aload_n F 0 dX12_ruleMeaning_300 rfl rfl ?_
      refine s_g_at F ib12 wd880 dX12_ruleMeaning_301 ?_
      obtain ⟨k32, hw⟩ := hw
      refine s_ald F 1601 kM_froms k32 (by decide) dX12_ruleMeaning_304 ?_
      refine q_iconst F dX12_ruleMeaning_305 ?_
      refine q_iadd F dX12_ruleMeaning_306 ?_
      obtain ⟨k33, hw⟩ := hw
      refine s_ald F 1600 kM_tape k33 (by decide) dX12_ruleMeaning_307 ?_
      refine q_bipush F dX12_ruleMeaning_308 (by decide) ?_
      refine q_isub F dX12_ruleMeaning_310 ?_
      obtain ⟨k34, hw⟩ := hw
      obtain ⟨z35, e36⟩ := ex1 (((J 1001 (((J 1005 ((J 1000 7))) + 1))) - 49))
      have hw := hw z35 e36
      have hz35 : inR z35 := by rw [e36]; exact k34
      refine q_top e36 ?_
      refine q_istore (lv' := [(0, .ref (E.1 1000)), (1, iV a1), (3, iV z30), (4, iV z35)]) F [1, 2, 3, 0] dX12_ruleMeaning_311 (q_n hN (by decide)) rfl ?_
      refine q_iload_n F 2 dX12_ruleMeaning_313 rfl rfl ?_
      refine q_iconst F dX12_ruleMeaning_314 ?_
      refine q_aload_n F 0 dX12_ruleMeaning_315 rfl rfl ?_
      refine s_g_newW F ib12 wd906 dX12_ruleMeaning_316 ?_
      refine q_iconst F dX12_ruleMeaning_319 ?_
      refine q_isub F dX12_ruleMeaning_320 ?_
      obtain ⟨k37, hw⟩ := hw
      refine q_SiM F (kcX12_isIn hm hz30 (⟨by decide, by decide⟩ : inR (0)) k37 hw) (bS wd932 wd933 wd13 wd934) rfl ⟨rfl, rfl⟩ ydX12_isIn (rmK_le hR (by omega) (by decide)) (av := [iV z30, iV 0, iV (((J 1000 33) - 1))]) rfl rfl (Nat.le_of_ble_eq_true rfl) dX12_ruleMeaning_321 (rmK_cs hR (by omega) (by omega)) (fun r38 J39 h40 m41 hw => ?_)
      refine q_if_eq F h40 342 dX12_ruleMeaning_324 (by decide) (fun hc => ?_) (fun hc => ?_)
      · have hw := hw.1 hc
        refine q_lv [0] rfl ?_
        exact bX12_ruleMeaning_342 F hR hN hret ha1 J39 m41 hw
      · have hw := hw.2 hc
        refine q_iload F 3 dX12_ruleMeaning_327 rfl ?_
        refine q_iconst F dX12_ruleMeaning_329 ?_
        refine q_aload_n F 0 dX12_ruleMeaning_330 rfl rfl ?_
        refine s_g_newH F ib12 wd907 dX12_ruleMeaning_331 ?_
        refine q_iconst F dX12_ruleMeaning_334 ?_
        refine q_isub F dX12_ruleMeaning_335 ?_
        obtain ⟨k42, hw⟩ := hw
        refine q_SiM F (kcX12_isIn m41 hz35 (⟨by decide, by decide⟩ : inR (0)) k42 hw) (bS wd932 wd933 wd13 wd934) rfl ⟨rfl, rfl⟩ ydX12_isIn (rmK_le hR (by omega) (by decide)) (av := [iV z35, iV 0, iV (((J39 1000 34) - 1))]) rfl rfl (Nat.le_of_ble_eq_true rfl) dX12_ruleMeaning_336 (rmK_cs hR (by omega) (by omega)) (fun r43 J44 h45 m46 hw => ?_)
        refine q_if_ne F h45 352 dX12_ruleMeaning_339 (by decide) (fun hc => ?_) (fun hc => ?_)
        · have hw := hw.1 hc
          refine q_iload_n F 2 dX12_ruleMeaning_352 rfl rfl ?_
          refine q_aload_n F 0 dX12_ruleMeaning_353 rfl rfl ?_
          refine s_g_newW F ib12 wd906 dX12_ruleMeaning_354 ?_
          refine q_iload F 3 dX12_ruleMeaning_357 rfl ?_
          refine q_imul F dX12_ruleMeaning_359 ?_
          refine q_iadd F dX12_ruleMeaning_360 ?_
          obtain ⟨k47, hw⟩ := hw
          obtain ⟨z48, e49⟩ := ex1 ((z30 + ((J44 1000 33) * z35)))
          have hw := hw z48 e49
          have hz48 : inR z48 := by rw [e49]; exact k47
          refine q_top e49 ?_
          refine q_istore (lv' := [(0, .ref (E.1 1000)), (1, iV a1), (3, iV z30), (4, iV z35), (5, iV z48)]) F [1, 2, 3, 4, 0] dX12_ruleMeaning_361 (q_n hN (by decide)) rfl ?_
          refine q_iconst F dX12_ruleMeaning_363 ?_
          refine q_istore (lv' := [(0, .ref (E.1 1000)), (1, iV a1), (3, iV z30), (4, iV z35), (5, iV z48), (6, iV 0)]) F [1, 2, 3, 4, 5, 0] dX12_ruleMeaning_364 (q_n hN (by decide)) rfl ?_
          refine q_lv [0, 1, 4, 5] rfl ?_
          obtain ⟨n50, hw⟩ := hw
          exact bX12_ruleMeaning_366 F hR hN hret ha1 ih n50 z48 0 J44 hz48 (⟨by decide, by decide⟩ : inR (0)) m46 hw
        · have hw := hw.2 hc
          refine q_lv [0] rfl ?_
          exact bX12_ruleMeaning_342 F hR hN hret ha1 J44 m46 hw
set_option maxHeartbeats 4000000 in
set_option maxRecDepth 100000 in
theorem bX12_ruleMeaning_245 {X : xC} {E : cE} (F : mF X E RX12 cX12_ruleMeaning bG) (hR : X.1.2.2.2 = rmK 3 (0) (0)) (hN : X.2.2.1.2.2.2 = 7) {Q : Int → cI → Prop} (hret : rZM X E cX12_ruleMeaning (0) (0) Q) {a1 : Int} (ha1 : inR a1) {K168 : Int → cI → Prop} (hK168 : ∀ (x3 : Int) (J : cI), inR x3 → mM J → K168 x3 J → cW X (0) (0) 168 [(0, .ref (E.1 1000)), (1, iV a1), (3, iV x3)] [] (gw E.1 mIds (mef E J) ++ [])) : ∀ (x3 : Int) (J : cI), inR x3 → mM J → wX12_ruleMeaning_245 Q a1 K168 x3 J → cW X (0) (0) 245 [(0, .ref (E.1 1000)), (1, iV a1), (3, iV x3)] [] (gw E.1 mIds (mef E J) ++ []) := by
  intro x3 J hx3 hm hw
  unfold wX12_ruleMeaning_245 at hw
  refine q_aload_n F 0 dX12_ruleMeaning_245 rfl rfl ?_
  refine q_dup F dX12_ruleMeaning_246 rfl ?_
  refine s_g_at F ib12 wd880 dX12_ruleMeaning_247 ?_
  refine q_iconst F dX12_ruleMeaning_250 ?_
  refine q_iadd F dX12_ruleMeaning_251 ?_
  obtain ⟨k1, hw⟩ := hw
  obtain ⟨J2, e3⟩ := ex1 (up2 J 1000 7 (((J 1000 7) + 1)))
  have hw := hw J2 e3
  have m4 : mM J2 := mM_I hm e3 k1
  refine s_p_at F ib12 wd880 e3 dX12_ruleMeaning_252 ?_
  obtain ⟨k7, hw⟩ := hw
  obtain ⟨z5, e6⟩ := ex1 (x3 + 1)
  have hw := hw z5 e6
  have hz5 : inR z5 := by rw [e6]; exact k7
  refine q_iinc (lv' := [(0, .ref (E.1 1000)), (1, iV a1), (3, iV z5)]) F 2 [1, 2, 0] dX12_ruleMeaning_255 rfl (q_n hN (by decide)) e6.symm rfl ?_
  refine q_goto F 168 dX12_ruleMeaning_258 (by decide) ?_
  exact hK168 z5 J2 hz5 m4 hw
set_option maxHeartbeats 4000000 in
set_option maxRecDepth 100000 in
theorem bX12_ruleMeaning_168 {X : xC} {E : cE} (F : mF X E RX12 cX12_ruleMeaning bG) (hR : X.1.2.2.2 = rmK 3 (0) (0)) (hN : X.2.2.1.2.2.2 = 7) {Q : Int → cI → Prop} (hret : rZM X E cX12_ruleMeaning (0) (0) Q) {a1 : Int} (ha1 : inR a1) : ∀ n168 : Nat, ∀ (x3 : Int) (J : cI), inR x3 → mM J → wX12_ruleMeaning_168 Q a1 n168 x3 J → cW X (0) (0) 168 [(0, .ref (E.1 1000)), (1, iV a1), (3, iV x3)] [] (gw E.1 mIds (mef E J) ++ []) := by
  intro n168
  induction n168 with
  | zero => intro x3 J hx3 hm hw; exact hw.elim
  | succ n168 ih =>
    intro x3 J hx3 hm hw
    change wbX12_ruleMeaning_168 Q a1 (wX12_ruleMeaning_168 Q a1 n168) x3 J at hw
    unfold wbX12_ruleMeaning_168 at hw
    refine q_iload_n F 2 dX12_ruleMeaning_168 rfl rfl ?_
    refine q_gs F (sZ_NUMBERS F) wd971 rfl dX12_ruleMeaning_169 ?_
    refine q_iload_n F 1 dX12_ruleMeaning_172 rfl rfl ?_
    obtain ⟨k1, hw⟩ := hw
    refine q_ldNUMBERS F k1 dX12_ruleMeaning_173 ?_
    refine q_icmp_ge F hx3 (nuT_in _) 261 dX12_ruleMeaning_174 (by decide) (fun hc => ?_) (fun hc => ?_)
    · have hw := hw.1 hc
      refine q_lv [0, 1] rfl ?_
      obtain ⟨n2, hw⟩ := hw
      exact bX12_ruleMeaning_261 F hR hN hret ha1 n2 J hm hw
    · have hw := hw.2 hc
      refine q_aload_n F 0 dX12_ruleMeaning_177 rfl rfl ?_
      refine q_iload_n F 1 dX12_ruleMeaning_178 rfl rfl ?_
      refine q_iload_n F 2 dX12_ruleMeaning_179 rfl rfl ?_
      refine q_aload_n F 0 dX12_ruleMeaning_180 rfl rfl ?_
      refine q_aload_n F 0 dX12_ruleMeaning_181 rfl rfl ?_
      refine s_g_at F ib12 wd880 dX12_ruleMeaning_182 ?_
      refine q_ViM F (kcX12_numberAt hm (hm _ _) hw) (by decide) meObj (ci := 10) rfl (bV wd979 wd980 wd1297 wd13 wd981) rfl ⟨rfl, rfl⟩ ydX12_numberAt (rmK_le hR (by omega) (by decide)) (av := [iV ((J 1000 7))]) rfl rfl (Nat.le_of_ble_eq_true rfl) dX12_ruleMeaning_185 (rmK_cs hR (by omega) (by omega)) (fun r3 J4 h5 m6 hw => ?_)
      refine q_ViM F (kcX12_isNumber m6 ha1 hx3 h5 hw) (by decide) meObj (ci := 10) rfl (bV wd991 wd992 wd1301 wd13 wd993) rfl ⟨rfl, rfl⟩ ydX12_isNumber (rmK_le hR (by omega) (by decide)) (av := [iV a1, iV x3, iV r3]) rfl rfl (Nat.le_of_ble_eq_true rfl) dX12_ruleMeaning_188 (rmK_cs hR (by omega) (by omega)) (fun r7 J8 h9 m10 hw => ?_)
      refine q_if_ne F h9 204 dX12_ruleMeaning_191 (by decide) (fun hc => ?_) (fun hc => ?_)
      · have hw := hw.1 hc
        refine q_iload_n F 2 dX12_ruleMeaning_204 rfl rfl ?_
        refine q_if_ne F hx3 228 dX12_ruleMeaning_205 (by decide) (fun hc => ?_) (fun hc => ?_)
        · have hw := hw.1 hc
          refine q_aload_n F 0 dX12_ruleMeaning_228 rfl rfl ?_
          refine s_g_newOften F ib12 wd912 dX12_ruleMeaning_229 ?_
          refine q_aload_n F 0 dX12_ruleMeaning_232 rfl rfl ?_
          refine s_g_many F ib12 wd909 dX12_ruleMeaning_233 ?_
          refine q_aload_n F 0 dX12_ruleMeaning_236 rfl rfl ?_
          refine q_aload_n F 0 dX12_ruleMeaning_237 rfl rfl ?_
          refine s_g_at F ib12 wd880 dX12_ruleMeaning_238 ?_
          refine q_ViM F (kcX12_numberAt m10 (m10 _ _) hw) (by decide) meObj (ci := 10) rfl (bV wd979 wd980 wd1297 wd13 wd981) rfl ⟨rfl, rfl⟩ ydX12_numberAt (rmK_le hR (by omega) (by decide)) (av := [iV ((J8 1000 7))]) rfl rfl (Nat.le_of_ble_eq_true rfl) dX12_ruleMeaning_241 (rmK_cs hR (by omega) (by omega)) (fun r11 J12 h13 m14 hw => ?_)
          obtain ⟨k15, hw⟩ := hw
          obtain ⟨J16, e17⟩ := ex1 (up2 J12 1039 ((J8 1000 36)) r11)
          have hw := hw J16 e17
          have m18 : mM J16 := mM_I m14 e17 h13
          refine s_ast F 70 kM_newOften k15 (by decide) e17 dX12_ruleMeaning_244 ?_
          exact bX12_ruleMeaning_245 F hR hN hret ha1 ih x3 J16 hx3 m18 hw
        · have hw := hw.2 hc
          refine q_aload_n F 0 dX12_ruleMeaning_208 rfl rfl ?_
          refine s_g_newNumber F ib12 wd911 dX12_ruleMeaning_209 ?_
          refine q_aload_n F 0 dX12_ruleMeaning_212 rfl rfl ?_
          refine s_g_many F ib12 wd909 dX12_ruleMeaning_213 ?_
          refine q_aload_n F 0 dX12_ruleMeaning_216 rfl rfl ?_
          refine q_aload_n F 0 dX12_ruleMeaning_217 rfl rfl ?_
          refine s_g_at F ib12 wd880 dX12_ruleMeaning_218 ?_
          refine q_ViM F (kcX12_numberAt m10 (m10 _ _) hw) (by decide) meObj (ci := 10) rfl (bV wd979 wd980 wd1297 wd13 wd981) rfl ⟨rfl, rfl⟩ ydX12_numberAt (rmK_le hR (by omega) (by decide)) (av := [iV ((J8 1000 7))]) rfl rfl (Nat.le_of_ble_eq_true rfl) dX12_ruleMeaning_221 (rmK_cs hR (by omega) (by omega)) (fun r19 J20 h21 m22 hw => ?_)
          obtain ⟨k23, hw⟩ := hw
          obtain ⟨J24, e25⟩ := ex1 (up2 J20 1038 ((J8 1000 36)) r19)
          have hw := hw J24 e25
          have m26 : mM J24 := mM_I m22 e25 h21
          refine s_ast F 70 kM_newNumber k23 (by decide) e25 dX12_ruleMeaning_224 ?_
          refine q_goto F 245 dX12_ruleMeaning_225 (by decide) ?_
          exact bX12_ruleMeaning_245 F hR hN hret ha1 ih x3 J24 hx3 m26 hw
      · have hw := hw.2 hc
        refine q_aload_n F 0 dX12_ruleMeaning_194 rfl rfl ?_
        refine q_iconst F dX12_ruleMeaning_195 ?_
        refine q_aload_n F 0 dX12_ruleMeaning_196 rfl rfl ?_
        refine s_g_at F ib12 wd880 dX12_ruleMeaning_197 ?_
        refine q_ViM F (kcX12_wrong m10 (⟨by decide, by decide⟩ : inR (2)) (m10 _ _) hw) (by decide) meObj (ci := 10) rfl (bV wd973 wd974 wd1295 wd13 wd975) rfl ⟨rfl, rfl⟩ ydX12_wrong (rmK_le hR (by omega) (by decide)) (av := [iV 2, iV ((J8 1000 7))]) rfl rfl (Nat.le_of_ble_eq_true rfl) dX12_ruleMeaning_200 (rmK_cs hR (by omega) (by omega)) (fun r27 J28 h29 m30 hw => ?_)
        obtain ⟨k31, hw⟩ := hw
        exact hret _ _ _ _ _ dX12_ruleMeaning_203 k31 h29 m30 hw
set_option maxHeartbeats 4000000 in
set_option maxRecDepth 100000 in
theorem bX12_ruleMeaning_132 {X : xC} {E : cE} (F : mF X E RX12 cX12_ruleMeaning bG) (hR : X.1.2.2.2 = rmK 3 (0) (0)) (hN : X.2.2.1.2.2.2 = 7) {Q : Int → cI → Prop} (hret : rZM X E cX12_ruleMeaning (0) (0) Q) {a1 : Int} (ha1 : inR a1) {K67 : Int → Int → cI → Prop} {K82 : Int → Int → Int → cI → Prop} (hK67 : ∀ (x2 : Int) (x3 : Int) (J : cI), inR x2 → inR x3 → mM J → K67 x2 x3 J → cW X (0) (0) 67 [(0, .ref (E.1 1000)), (1, iV a1), (2, iV x2), (3, iV x3)] [] (gw E.1 mIds (mef E J) ++ [])) (hK82 : ∀ (x2 : Int) (x3 : Int) (x4 : Int) (J : cI), inR x2 → inR x3 → inR x4 → mM J → K82 x2 x3 x4 J → cW X (0) (0) 82 [(0, .ref (E.1 1000)), (1, iV a1), (2, iV x2), (3, iV x3), (4, iV x4)] [] (gw E.1 mIds (mef E J) ++ [])) : ∀ (x2 : Int) (x3 : Int) (x4 : Int) (y1 : Int) (J : cI), inR x2 → inR x3 → inR x4 → inR y1 → mM J → wX12_ruleMeaning_132 Q a1 K67 K82 x2 x3 x4 y1 J → cW X (0) (0) 132 [(0, .ref (E.1 1000)), (1, iV a1), (2, iV x2), (3, iV x3), (4, iV x4)] [iV y1, .ref (E.1 1000)] (gw E.1 mIds (mef E J) ++ []) := by
  intro x2 x3 x4 y1 J hx2 hx3 hx4 hy1 hm hw
  unfold wX12_ruleMeaning_132 at hw
  refine q_VvM F (kcX12_layCell hm hy1 hw) (by decide) meObj (ci := 10) rfl (bV wd988 wd989 wd1300 wd13 wd990) rfl ⟨rfl, rfl⟩ ydX12_layCell (rmK_le hR (by omega) (by decide)) (av := [iV y1]) rfl rfl (Nat.le_of_ble_eq_true rfl) dX12_ruleMeaning_132 (rmK_cs hR (by omega) (by omega)) (fun J2 m4 hw => ?_)
  obtain ⟨k7, hw⟩ := hw
  obtain ⟨z5, e6⟩ := ex1 (x4 + 1)
  have hw := hw z5 e6
  have hz5 : inR z5 := by rw [e6]; exact k7
  refine q_iinc (lv' := [(0, .ref (E.1 1000)), (1, iV a1), (2, iV x2), (3, iV x3), (4, iV z5)]) F 4 [1, 2, 3, 4, 0] dX12_ruleMeaning_135 rfl (q_n hN (by decide)) e6.symm rfl ?_
  refine q_goto F 82 dX12_ruleMeaning_138 (by decide) ?_
  exact hK82 x2 x3 z5 J2 hx2 hx3 hz5 m4 hw
set_option maxHeartbeats 4000000 in
set_option maxRecDepth 100000 in
theorem bX12_ruleMeaning_101 {X : xC} {E : cE} (F : mF X E RX12 cX12_ruleMeaning bG) (hR : X.1.2.2.2 = rmK 3 (0) (0)) (hN : X.2.2.1.2.2.2 = 7) {Q : Int → cI → Prop} (hret : rZM X E cX12_ruleMeaning (0) (0) Q) {a1 : Int} (ha1 : inR a1) {K67 : Int → Int → cI → Prop} {K82 : Int → Int → Int → cI → Prop} (hK67 : ∀ (x2 : Int) (x3 : Int) (J : cI), inR x2 → inR x3 → mM J → K67 x2 x3 J → cW X (0) (0) 67 [(0, .ref (E.1 1000)), (1, iV a1), (2, iV x2), (3, iV x3)] [] (gw E.1 mIds (mef E J) ++ [])) (hK82 : ∀ (x2 : Int) (x3 : Int) (x4 : Int) (J : cI), inR x2 → inR x3 → inR x4 → mM J → K82 x2 x3 x4 J → cW X (0) (0) 82 [(0, .ref (E.1 1000)), (1, iV a1), (2, iV x2), (3, iV x3), (4, iV x4)] [] (gw E.1 mIds (mef E J) ++ [])) : ∀ (x2 : Int) (x3 : Int) (x4 : Int) (y0 : Int) (y1 : Int) (J : cI), inR x2 → inR x3 → inR x4 → inR y0 → inR y1 → mM J → wX12_ruleMeaning_101 Q a1 K67 K82 x2 x3 x4 y0 y1 J → cW X (0) (0) 101 [(0, .ref (E.1 1000)), (1, iV a1), (2, iV x2), (3, iV x3), (4, iV x4)] [iV y1, iV y0] (gw E.1 mIds (mef E J) ++ []) := by
  intro x2 x3 x4 y0 y1 J hx2 hx3 hx4 hy0 hy1 hm hw
  unfold wX12_ruleMeaning_101 at hw
  refine q_icmp_ge F hy0 hy1 141 dX12_ruleMeaning_101 (by decide) (fun hc => ?_) (fun hc => ?_)
  · have hw := hw.1 hc
    refine q_aload_n F 0 dX12_ruleMeaning_141 rfl rfl ?_
    refine q_dup F dX12_ruleMeaning_142 rfl ?_
    refine s_g_many F ib12 wd909 dX12_ruleMeaning_143 ?_
    refine q_iconst F dX12_ruleMeaning_146 ?_
    refine q_iadd F dX12_ruleMeaning_147 ?_
    obtain ⟨k1, hw⟩ := hw
    obtain ⟨J2, e3⟩ := ex1 (up2 J 1000 36 (((J 1000 36) + 1)))
    have hw := hw J2 e3
    have m4 : mM J2 := mM_I hm e3 k1
    refine s_p_many F ib12 wd909 e3 dX12_ruleMeaning_148 ?_
    obtain ⟨k7, hw⟩ := hw
    obtain ⟨z5, e6⟩ := ex1 (x3 + 1)
    have hw := hw z5 e6
    have hz5 : inR z5 := by rw [e6]; exact k7
    refine q_iinc (lv' := [(0, .ref (E.1 1000)), (1, iV a1), (2, iV x2), (3, iV z5), (4, iV x4)]) F 3 [1, 2, 3, 0, 4] dX12_ruleMeaning_151 rfl (q_n hN (by decide)) e6.symm rfl ?_
    refine q_goto F 67 dX12_ruleMeaning_154 (by decide) ?_
    refine q_lv [0, 1, 2, 3] rfl ?_
    exact hK67 x2 z5 J2 hx2 hz5 m4 hw
  · have hw := hw.2 hc
    refine q_aload_n F 0 dX12_ruleMeaning_104 rfl rfl ?_
    refine q_iload_n F 1 dX12_ruleMeaning_105 rfl rfl ?_
    refine q_bipush F dX12_ruleMeaning_106 (by decide) ?_
    refine q_icmp_ne F ha1 (⟨by decide, by decide⟩ : inR (12)) 123 dX12_ruleMeaning_108 (by decide) (fun hc => ?_) (fun hc => ?_)
    · have hw := hw.1 hc
      refine q_iload_n F 3 dX12_ruleMeaning_123 rfl rfl ?_
      refine q_aload_n F 0 dX12_ruleMeaning_124 rfl rfl ?_
      refine s_g_newW F ib12 wd906 dX12_ruleMeaning_125 ?_
      refine q_iload F 4 dX12_ruleMeaning_128 rfl ?_
      refine q_imul F dX12_ruleMeaning_130 ?_
      refine q_iadd F dX12_ruleMeaning_131 ?_
      obtain ⟨k8, hw⟩ := hw
      exact bX12_ruleMeaning_132 F hR hN hret ha1 hK67 hK82 x2 x3 x4 ((x3 + ((J 1000 33) * x4))) J hx2 hx3 hx4 k8 hm hw
    · have hw := hw.2 hc
      refine q_iload F 4 dX12_ruleMeaning_111 rfl ?_
      refine q_aload_n F 0 dX12_ruleMeaning_113 rfl rfl ?_
      refine s_g_newW F ib12 wd906 dX12_ruleMeaning_114 ?_
      refine q_iload_n F 3 dX12_ruleMeaning_117 rfl rfl ?_
      refine q_imul F dX12_ruleMeaning_118 ?_
      refine q_iadd F dX12_ruleMeaning_119 ?_
      refine q_goto F 132 dX12_ruleMeaning_120 (by decide) ?_
      obtain ⟨k9, hw⟩ := hw
      exact bX12_ruleMeaning_132 F hR hN hret ha1 hK67 hK82 x2 x3 x4 ((x4 + ((J 1000 33) * x3))) J hx2 hx3 hx4 k9 hm hw
set_option maxHeartbeats 4000000 in
set_option maxRecDepth 100000 in
theorem bX12_ruleMeaning_82 {X : xC} {E : cE} (F : mF X E RX12 cX12_ruleMeaning bG) (hR : X.1.2.2.2 = rmK 3 (0) (0)) (hN : X.2.2.1.2.2.2 = 7) {Q : Int → cI → Prop} (hret : rZM X E cX12_ruleMeaning (0) (0) Q) {a1 : Int} (ha1 : inR a1) {K67 : Int → Int → cI → Prop} (hK67 : ∀ (x2 : Int) (x3 : Int) (J : cI), inR x2 → inR x3 → mM J → K67 x2 x3 J → cW X (0) (0) 67 [(0, .ref (E.1 1000)), (1, iV a1), (2, iV x2), (3, iV x3)] [] (gw E.1 mIds (mef E J) ++ [])) : ∀ n82 : Nat, ∀ (x2 : Int) (x3 : Int) (x4 : Int) (J : cI), inR x2 → inR x3 → inR x4 → mM J → wX12_ruleMeaning_82 Q a1 K67 n82 x2 x3 x4 J → cW X (0) (0) 82 [(0, .ref (E.1 1000)), (1, iV a1), (2, iV x2), (3, iV x3), (4, iV x4)] [] (gw E.1 mIds (mef E J) ++ []) := by
  intro n82
  induction n82 with
  | zero => intro x2 x3 x4 J hx2 hx3 hx4 hm hw; exact hw.elim
  | succ n82 ih =>
    intro x2 x3 x4 J hx2 hx3 hx4 hm hw
    change wbX12_ruleMeaning_82 Q a1 K67 (wX12_ruleMeaning_82 Q a1 K67 n82) x2 x3 x4 J at hw
    unfold wbX12_ruleMeaning_82 at hw
    refine q_iload F 4 dX12_ruleMeaning_82 rfl ?_
    refine q_iload_n F 1 dX12_ruleMeaning_84 rfl rfl ?_
    refine q_bipush F dX12_ruleMeaning_85 (by decide) ?_
    refine q_icmp_ne F ha1 (⟨by decide, by decide⟩ : inR (12)) 97 dX12_ruleMeaning_87 (by decide) (fun hc => ?_) (fun hc => ?_)
    · have hw := hw.1 hc
      refine q_aload_n F 0 dX12_ruleMeaning_97 rfl rfl ?_
      refine s_g_newH F ib12 wd907 dX12_ruleMeaning_98 ?_
      exact bX12_ruleMeaning_101 F hR hN hret ha1 hK67 ih x2 x3 x4 x4 ((J 1000 34)) J hx2 hx3 hx4 hx4 (hm _ _) hm hw
    · have hw := hw.2 hc
      refine q_aload_n F 0 dX12_ruleMeaning_90 rfl rfl ?_
      refine s_g_newW F ib12 wd906 dX12_ruleMeaning_91 ?_
      refine q_goto F 101 dX12_ruleMeaning_94 (by decide) ?_
      exact bX12_ruleMeaning_101 F hR hN hret ha1 hK67 ih x2 x3 x4 x4 ((J 1000 33)) J hx2 hx3 hx4 hx4 (hm _ _) hm hw
set_option maxHeartbeats 4000000 in
set_option maxRecDepth 100000 in
theorem bX12_ruleMeaning_67 {X : xC} {E : cE} (F : mF X E RX12 cX12_ruleMeaning bG) (hR : X.1.2.2.2 = rmK 3 (0) (0)) (hN : X.2.2.1.2.2.2 = 7) {Q : Int → cI → Prop} (hret : rZM X E cX12_ruleMeaning (0) (0) Q) {a1 : Int} (ha1 : inR a1) : ∀ n67 : Nat, ∀ (x2 : Int) (x3 : Int) (J : cI), inR x2 → inR x3 → mM J → wX12_ruleMeaning_67 Q a1 n67 x2 x3 J → cW X (0) (0) 67 [(0, .ref (E.1 1000)), (1, iV a1), (2, iV x2), (3, iV x3)] [] (gw E.1 mIds (mef E J) ++ []) := by
  intro n67
  induction n67 with
  | zero => intro x2 x3 J hx2 hx3 hm hw; exact hw.elim
  | succ n67 ih =>
    intro x2 x3 J hx2 hx3 hm hw
    change wbX12_ruleMeaning_67 Q a1 (wX12_ruleMeaning_67 Q a1 n67) x2 x3 J at hw
    unfold wbX12_ruleMeaning_67 at hw
    refine q_iload_n F 3 dX12_ruleMeaning_67 rfl rfl ?_
    refine q_iload_n F 2 dX12_ruleMeaning_68 rfl rfl ?_
    refine q_icmp_ge F hx3 hx2 157 dX12_ruleMeaning_69 (by decide) (fun hc => ?_) (fun hc => ?_)
    · have hw := hw.1 hc
      refine q_iconst F dX12_ruleMeaning_157 ?_
      exact hret _ _ _ _ _ dX12_ruleMeaning_158 (Or.inr rfl) (⟨by decide, by decide⟩ : inR (1)) hm hw
    · have hw := hw.2 hc
      refine q_aload_n F 0 dX12_ruleMeaning_72 rfl rfl ?_
      refine q_iconst F dX12_ruleMeaning_73 ?_
      refine q_iconst F dX12_ruleMeaning_74 ?_
      refine q_iconst F dX12_ruleMeaning_75 ?_
      refine q_VvM F (kcX12_lay hm (⟨by decide, by decide⟩ : inR (0)) (⟨by decide, by decide⟩ : inR (0)) (⟨by decide, by decide⟩ : inR (0)) hw) (by decide) meObj (ci := 10) rfl (bV wd985 wd986 wd1299 wd13 wd987) rfl ⟨rfl, rfl⟩ ydX12_lay (rmK_le hR (by omega) (by decide)) (av := [iV 0, iV 0, iV 0]) rfl rfl (Nat.le_of_ble_eq_true rfl) dX12_ruleMeaning_76 (rmK_cs hR (by omega) (by omega)) (fun J2 m4 hw => ?_)
      refine q_iconst F dX12_ruleMeaning_79 ?_
      refine q_istore (lv' := [(0, .ref (E.1 1000)), (1, iV a1), (2, iV x2), (3, iV x3), (4, iV 0)]) F [1, 2, 3, 4, 0] dX12_ruleMeaning_80 (q_n hN (by decide)) rfl ?_
      obtain ⟨n5, hw⟩ := hw
      exact bX12_ruleMeaning_82 F hR hN hret ha1 ih n5 x2 x3 0 J2 hx2 hx3 (⟨by decide, by decide⟩ : inR (0)) m4 hw
set_option maxHeartbeats 4000000 in
set_option maxRecDepth 100000 in
theorem bX12_ruleMeaning_27 {X : xC} {E : cE} (F : mF X E RX12 cX12_ruleMeaning bG) (hR : X.1.2.2.2 = rmK 3 (0) (0)) (hN : X.2.2.1.2.2.2 = 7) {Q : Int → cI → Prop} (hret : rZM X E cX12_ruleMeaning (0) (0) Q) {a1 : Int} (ha1 : inR a1) : ∀ (y0 : Int) (J : cI), inR y0 → mM J → wX12_ruleMeaning_27 Q a1 y0 J → cW X (0) (0) 27 [(0, .ref (E.1 1000)), (1, iV a1)] [iV y0] (gw E.1 mIds (mef E J) ++ []) := by
  intro y0 J hy0 hm hw
  unfold wX12_ruleMeaning_27 at hw
  refine q_istore_n (lv' := [(0, .ref (E.1 1000)), (1, iV a1), (2, iV y0)]) F [1, 2, 0] dX12_ruleMeaning_27 rfl (q_n hN (by decide)) rfl ?_
  refine q_aload_n F 0 dX12_ruleMeaning_28 rfl rfl ?_
  refine s_g_many F ib12 wd909 dX12_ruleMeaning_29 ?_
  refine q_iload_n F 2 dX12_ruleMeaning_32 rfl rfl ?_
  refine q_iadd F dX12_ruleMeaning_33 ?_
  refine q_bipush F dX12_ruleMeaning_34 (by decide) ?_
  obtain ⟨k1, hw⟩ := hw
  refine q_icmp_le F k1 (⟨by decide, by decide⟩ : inR (40)) 49 dX12_ruleMeaning_36 (by decide) (fun hc => ?_) (fun hc => ?_)
  · have hw := hw.1 hc
    refine q_aload_n F 0 dX12_ruleMeaning_49 rfl rfl ?_
    refine q_dup F dX12_ruleMeaning_50 rfl ?_
    refine s_g_at F ib12 wd880 dX12_ruleMeaning_51 ?_
    refine q_iconst F dX12_ruleMeaning_54 ?_
    refine q_iadd F dX12_ruleMeaning_55 ?_
    obtain ⟨k2, hw⟩ := hw
    obtain ⟨J3, e4⟩ := ex1 (up2 J 1000 7 (((J 1000 7) + 1)))
    have hw := hw J3 e4
    have m5 : mM J3 := mM_I hm e4 k2
    refine s_p_at F ib12 wd880 e4 dX12_ruleMeaning_56 ?_
    refine q_iload_n F 1 dX12_ruleMeaning_59 rfl rfl ?_
    refine q_bipush F dX12_ruleMeaning_60 (by decide) ?_
    refine q_icmp_lt F ha1 (⟨by decide, by decide⟩ : inR (12)) 159 dX12_ruleMeaning_62 (by decide) (fun hc => ?_) (fun hc => ?_)
    · have hw := hw.1 hc
      refine q_aload_n F 0 dX12_ruleMeaning_159 rfl rfl ?_
      refine q_iload_n F 1 dX12_ruleMeaning_160 rfl rfl ?_
      refine q_iconst F dX12_ruleMeaning_161 ?_
      refine q_iconst F dX12_ruleMeaning_162 ?_
      refine q_VvM F (kcX12_lay m5 ha1 (⟨by decide, by decide⟩ : inR (0)) (⟨by decide, by decide⟩ : inR (0)) hw) (by decide) meObj (ci := 10) rfl (bV wd985 wd986 wd1299 wd13 wd987) rfl ⟨rfl, rfl⟩ ydX12_lay (rmK_le hR (by omega) (by decide)) (av := [iV a1, iV 0, iV 0]) rfl rfl (Nat.le_of_ble_eq_true rfl) dX12_ruleMeaning_163 (rmK_cs hR (by omega) (by omega)) (fun J7 m9 hw => ?_)
      refine q_iconst F dX12_ruleMeaning_166 ?_
      refine q_istore_n (lv' := [(0, .ref (E.1 1000)), (1, iV a1), (2, iV y0), (3, iV 0)]) F [1, 2, 3, 0] dX12_ruleMeaning_167 rfl (q_n hN (by decide)) rfl ?_
      refine q_lv [0, 1, 3] rfl ?_
      obtain ⟨n10, hw⟩ := hw
      exact bX12_ruleMeaning_168 F hR hN hret ha1 n10 0 J7 (⟨by decide, by decide⟩ : inR (0)) m9 hw
    · have hw := hw.2 hc
      refine q_iconst F dX12_ruleMeaning_65 ?_
      refine q_istore_n (lv' := [(0, .ref (E.1 1000)), (1, iV a1), (2, iV y0), (3, iV 0)]) F [1, 2, 3, 0] dX12_ruleMeaning_66 rfl (q_n hN (by decide)) rfl ?_
      obtain ⟨n11, hw⟩ := hw
      exact bX12_ruleMeaning_67 F hR hN hret ha1 n11 y0 0 J3 hy0 (⟨by decide, by decide⟩ : inR (0)) m5 hw
  · have hw := hw.2 hc
    refine q_aload_n F 0 dX12_ruleMeaning_39 rfl rfl ?_
    refine q_iconst F dX12_ruleMeaning_40 ?_
    refine q_aload_n F 0 dX12_ruleMeaning_41 rfl rfl ?_
    refine s_g_at F ib12 wd880 dX12_ruleMeaning_42 ?_
    refine q_ViM F (kcX12_wrong hm (⟨by decide, by decide⟩ : inR (4)) (hm _ _) hw) (by decide) meObj (ci := 10) rfl (bV wd973 wd974 wd1295 wd13 wd975) rfl ⟨rfl, rfl⟩ ydX12_wrong (rmK_le hR (by omega) (by decide)) (av := [iV 4, iV ((J 1000 7))]) rfl rfl (Nat.le_of_ble_eq_true rfl) dX12_ruleMeaning_45 (rmK_cs hR (by omega) (by omega)) (fun r12 J13 h14 m15 hw => ?_)
    obtain ⟨k16, hw⟩ := hw
    exact hret _ _ _ _ _ dX12_ruleMeaning_48 k16 h14 m15 hw
set_option maxHeartbeats 4000000 in
set_option maxRecDepth 100000 in
theorem kcX12_ruleMeaning {l : Launch} {D : va_G} {E : cE} {a1 : Int} {J : cI} (hm : mM J) (ha1 : inR a1) {Q : Int → cI → Prop} (hw : wX12_ruleMeaning a1 J Q) : gM l D E mIds yX12_ruleMeaning vX12_ruleMeaning (rmK 3 (0) (0)) [.ref (E.1 1000), iV a1] (mef E J) (mef E) (oI Q) (0) (0) := by
  unfold wX12_ruleMeaning at hw
  refine k_ofW (own := RX12) (cc := cX12_ruleMeaning) (maxL := 7) (ret := (some .boolean)) (lv := [(0, .ref (E.1 1000)), (1, iV a1)]) (by decide) rfl rfl (Nat.le_of_ble_eq_true rfl) rfl ?_
  intro X hl hR hN hD F K
  subst hl; subst hD
  have hret := mk_rZM (Q := Q) F K
  refine q_iload_n F 1 dX12_ruleMeaning_0 rfl rfl ?_
  refine q_bipush F dX12_ruleMeaning_1 (by decide) ?_
  refine q_icmp_ne F ha1 (⟨by decide, by decide⟩ : inR (12)) 13 dX12_ruleMeaning_3 (by decide) (fun hc => ?_) (fun hc => ?_)
  · have hw := hw.1 hc
    refine q_iload_n F 1 dX12_ruleMeaning_13 rfl rfl ?_
    refine q_bipush F dX12_ruleMeaning_14 (by decide) ?_
    refine q_icmp_ne F ha1 (⟨by decide, by decide⟩ : inR (13)) 26 dX12_ruleMeaning_16 (by decide) (fun hc => ?_) (fun hc => ?_)
    · have hw := hw.1 hc
      refine q_iconst F dX12_ruleMeaning_26 ?_
      exact bX12_ruleMeaning_27 F hR hN hret ha1 1 J (⟨by decide, by decide⟩ : inR (1)) hm hw
    · have hw := hw.2 hc
      refine q_aload_n F 0 dX12_ruleMeaning_19 rfl rfl ?_
      refine s_g_newW F ib12 wd906 dX12_ruleMeaning_20 ?_
      refine q_goto F 27 dX12_ruleMeaning_23 (by decide) ?_
      exact bX12_ruleMeaning_27 F hR hN hret ha1 ((J 1000 33)) J (hm _ _) hm hw
  · have hw := hw.2 hc
    refine q_aload_n F 0 dX12_ruleMeaning_6 rfl rfl ?_
    refine s_g_newH F ib12 wd907 dX12_ruleMeaning_7 ?_
    refine q_goto F 27 dX12_ruleMeaning_10 (by decide) ?_
    exact bX12_ruleMeaning_27 F hR hN hret ha1 ((J 1000 34)) J (hm _ _) hm hw
theorem ydX12_meaning : yX12_meaning.cls = RX12 ∧ yX12_meaning.cls ≠ "java/lang/invoke/MethodHandle" ∧ yX12_meaning.cls ≠ "java/lang/invoke/VarHandle" ∧ (parseMethodDescriptor yX12_meaning.desc).map (fun d => d.parameters.length) = some 0 := by decide +kernel
def vX12_meaning : List Cond := Cond.code yX12_meaning cX12_meaning 2 (some .boolean) :: bG
set_option maxHeartbeats 4000000 in
set_option maxRecDepth 100000 in
theorem bX12_meaning_70 {X : xC} {E : cE} (F : mF X E RX12 cX12_meaning bG) (hR : X.1.2.2.2 = rmK 7 (0) (0)) (hN : X.2.2.1.2.2.2 = 2) {Q : Int → cI → Prop} (hret : rZM X E cX12_meaning (0) (0) Q)   : ∀ n70 : Nat, ∀ (J : cI), mM J → wX12_meaning_70 Q n70 J → cW X (0) (0) 70 [(0, .ref (E.1 1000))] [] (gw E.1 mIds (mef E J) ++ []) := by
  intro n70
  induction n70 with
  | zero => intro J hm hw; exact hw.elim
  | succ n70 ih =>
    intro J hm hw
    change wbX12_meaning_70 Q (wX12_meaning_70 Q n70) J at hw
    unfold wbX12_meaning_70 at hw
    refine q_aload_n F 0 dX12_meaning_70 rfl rfl ?_
    refine s_g_kinds F ib12 wd877 dX12_meaning_71 ?_
    refine q_aload_n F 0 dX12_meaning_74 rfl rfl ?_
    refine s_g_at F ib12 wd880 dX12_meaning_75 ?_
    obtain ⟨k1, hw⟩ := hw
    refine s_ald F 1601 kM_kinds k1 (by decide) dX12_meaning_78 ?_
    refine q_if_eq F (hm _ _) 112 dX12_meaning_79 (by decide) (fun hc => ?_) (fun hc => ?_)
    · have hw := hw.1 hc
      refine q_iconst F dX12_meaning_112 ?_
      exact hret _ _ _ _ _ dX12_meaning_113 (Or.inr rfl) (⟨by decide, by decide⟩ : inR (1)) hm hw
    · have hw := hw.2 hc
      refine q_aload_n F 0 dX12_meaning_82 rfl rfl ?_
      refine q_aload_n F 0 dX12_meaning_83 rfl rfl ?_
      refine q_aload_n F 0 dX12_meaning_84 rfl rfl ?_
      refine s_g_at F ib12 wd880 dX12_meaning_85 ?_
      refine q_ViM F (kcX12_wordAt hm (hm _ _) hw) (by decide) meObj (ci := 10) rfl (bV wd966 wd967 wd1294 wd13 wd968) rfl ⟨rfl, rfl⟩ ydX12_wordAt (rmK_le hR (by omega) (by decide)) (av := [iV ((J 1000 7))]) rfl rfl (Nat.le_of_ble_eq_true rfl) dX12_meaning_88 (rmK_cs hR (by omega) (by omega)) (fun r2 J3 h4 m5 hw => ?_)
      refine q_ViM F (kcX12_ruleMeaning m5 h4 hw) (by decide) meObj (ci := 10) rfl (bV wd982 wd983 wd1298 wd13 wd984) rfl ⟨rfl, rfl⟩ ydX12_ruleMeaning (rmK_le hR (by omega) (by decide)) (av := [iV r2]) rfl rfl (Nat.le_of_ble_eq_true rfl) dX12_meaning_91 (rmK_cs hR (by omega) (by omega)) (fun r6 J7 h8 m9 hw => ?_)
      refine q_if_ne F h8 99 dX12_meaning_94 (by decide) (fun hc => ?_) (fun hc => ?_)
      · have hw := hw.1 hc
        refine q_aload_n F 0 dX12_meaning_99 rfl rfl ?_
        refine q_dup F dX12_meaning_100 rfl ?_
        refine s_g_at F ib12 wd880 dX12_meaning_101 ?_
        refine q_iconst F dX12_meaning_104 ?_
        refine q_iadd F dX12_meaning_105 ?_
        obtain ⟨k10, hw⟩ := hw
        obtain ⟨J11, e12⟩ := ex1 (up2 J7 1000 7 (((J7 1000 7) + 1)))
        have hw := hw J11 e12
        have m13 : mM J11 := mM_I m9 e12 k10
        refine s_p_at F ib12 wd880 e12 dX12_meaning_106 ?_
        refine q_goto F 70 dX12_meaning_109 (by decide) ?_
        exact ih J11 m13 hw
      · have hw := hw.2 hc
        refine q_iconst F dX12_meaning_97 ?_
        exact hret _ _ _ _ _ dX12_meaning_98 (Or.inl rfl) (⟨by decide, by decide⟩ : inR (0)) m9 hw
set_option maxHeartbeats 4000000 in
set_option maxRecDepth 100000 in
theorem bX12_meaning_2 {X : xC} {E : cE} (F : mF X E RX12 cX12_meaning bG) (hR : X.1.2.2.2 = rmK 7 (0) (0)) (hN : X.2.2.1.2.2.2 = 2) {Q : Int → cI → Prop} (hret : rZM X E cX12_meaning (0) (0) Q)   : ∀ n2 : Nat, ∀ (x1 : Int) (J : cI), inR x1 → mM J → wX12_meaning_2 Q n2 x1 J → cW X (0) (0) 2 [(0, .ref (E.1 1000)), (1, iV x1)] [] (gw E.1 mIds (mef E J) ++ []) := by
  intro n2
  induction n2 with
  | zero => intro x1 J hx1 hm hw; exact hw.elim
  | succ n2 ih =>
    intro x1 J hx1 hm hw
    change wbX12_meaning_2 Q (wX12_meaning_2 Q n2) x1 J at hw
    unfold wbX12_meaning_2 at hw
    refine q_iload_n F 1 dX12_meaning_2 rfl rfl ?_
    refine q_iconst F dX12_meaning_3 ?_
    refine q_icmp_ge F hx1 (⟨by decide, by decide⟩ : inR (4)) 33 dX12_meaning_4 (by decide) (fun hc => ?_) (fun hc => ?_)
    · have hw := hw.1 hc
      refine q_aload_n F 0 dX12_meaning_33 rfl rfl ?_
      refine q_aload_n F 0 dX12_meaning_34 rfl rfl ?_
      refine q_iconst F dX12_meaning_35 ?_
      refine q_ViM F (kcX12_numberAt hm (⟨by decide, by decide⟩ : inR (1)) hw) (by decide) meObj (ci := 10) rfl (bV wd979 wd980 wd1297 wd13 wd981) rfl ⟨rfl, rfl⟩ ydX12_numberAt (rmK_le hR (by omega) (by decide)) (av := [iV 1]) rfl rfl (Nat.le_of_ble_eq_true rfl) dX12_meaning_36 (rmK_cs hR (by omega) (by omega)) (fun r1 J2 h3 m4 hw => ?_)
      obtain ⟨J5, e6⟩ := ex1 (up2 J2 1000 33 r1)
      have hw := hw J5 e6
      have m7 : mM J5 := mM_I m4 e6 h3
      refine s_p_newW F ib12 wd906 e6 dX12_meaning_39 ?_
      refine q_aload_n F 0 dX12_meaning_42 rfl rfl ?_
      refine q_aload_n F 0 dX12_meaning_43 rfl rfl ?_
      refine q_iconst F dX12_meaning_44 ?_
      refine q_ViM F (kcX12_numberAt m7 (⟨by decide, by decide⟩ : inR (2)) hw) (by decide) meObj (ci := 10) rfl (bV wd979 wd980 wd1297 wd13 wd981) rfl ⟨rfl, rfl⟩ ydX12_numberAt (rmK_le hR (by omega) (by decide)) (av := [iV 2]) rfl rfl (Nat.le_of_ble_eq_true rfl) dX12_meaning_45 (rmK_cs hR (by omega) (by omega)) (fun r8 J9 h10 m11 hw => ?_)
      obtain ⟨J12, e13⟩ := ex1 (up2 J9 1000 34 r8)
      have hw := hw J12 e13
      have m14 : mM J12 := mM_I m11 e13 h10
      refine s_p_newH F ib12 wd907 e13 dX12_meaning_48 ?_
      refine q_aload_n F 0 dX12_meaning_51 rfl rfl ?_
      refine q_aload_n F 0 dX12_meaning_52 rfl rfl ?_
      refine q_iconst F dX12_meaning_53 ?_
      refine q_ViM F (kcX12_numberAt m14 (⟨by decide, by decide⟩ : inR (3)) hw) (by decide) meObj (ci := 10) rfl (bV wd979 wd980 wd1297 wd13 wd981) rfl ⟨rfl, rfl⟩ ydX12_numberAt (rmK_le hR (by omega) (by decide)) (av := [iV 3]) rfl rfl (Nat.le_of_ble_eq_true rfl) dX12_meaning_54 (rmK_cs hR (by omega) (by omega)) (fun r15 J16 h17 m18 hw => ?_)
      obtain ⟨J19, e20⟩ := ex1 (up2 J16 1000 35 r15)
      have hw := hw J19 e20
      have m21 : mM J19 := mM_I m18 e20 h17
      refine s_p_newK F ib12 wd908 e20 dX12_meaning_57 ?_
      refine q_aload_n F 0 dX12_meaning_60 rfl rfl ?_
      refine q_iconst F dX12_meaning_61 ?_
      obtain ⟨J22, e23⟩ := ex1 (up2 J19 1000 36 0)
      have hw := hw J22 e23
      have m24 : mM J22 := mM_I m21 e23 (⟨by decide, by decide⟩ : inR (0))
      refine s_p_many F ib12 wd909 e23 dX12_meaning_62 ?_
      refine q_aload_n F 0 dX12_meaning_65 rfl rfl ?_
      refine q_iconst F dX12_meaning_66 ?_
      obtain ⟨J25, e26⟩ := ex1 (up2 J22 1000 7 5)
      have hw := hw J25 e26
      have m27 : mM J25 := mM_I m24 e26 (⟨by decide, by decide⟩ : inR (5))
      refine s_p_at F ib12 wd880 e26 dX12_meaning_67 ?_
      refine q_lv [0] rfl ?_
      obtain ⟨n28, hw⟩ := hw
      exact bX12_meaning_70 F hR hN hret n28 J25 m27 hw
    · have hw := hw.2 hc
      refine q_aload_n F 0 dX12_meaning_7 rfl rfl ?_
      refine q_iload_n F 1 dX12_meaning_8 rfl rfl ?_
      refine q_ViM F (kcX12_numberAt hm hx1 hw) (by decide) meObj (ci := 10) rfl (bV wd979 wd980 wd1297 wd13 wd981) rfl ⟨rfl, rfl⟩ ydX12_numberAt (rmK_le hR (by omega) (by decide)) (av := [iV x1]) rfl rfl (Nat.le_of_ble_eq_true rfl) dX12_meaning_9 (rmK_cs hR (by omega) (by omega)) (fun r29 J30 h31 m32 hw => ?_)
      refine q_iconst F dX12_meaning_12 ?_
      refine q_iconst F dX12_meaning_13 ?_
      refine q_SiM F (kcX12_isIn m32 h31 (⟨by decide, by decide⟩ : inR (2)) (⟨by decide, by decide⟩ : inR (5)) hw) (bS wd932 wd933 wd13 wd934) rfl ⟨rfl, rfl⟩ ydX12_isIn (rmK_le hR (by omega) (by decide)) (av := [iV r29, iV 2, iV 5]) rfl rfl (Nat.le_of_ble_eq_true rfl) dX12_meaning_14 (rmK_cs hR (by omega) (by omega)) (fun r33 J34 h35 m36 hw => ?_)
      refine q_if_ne F h35 27 dX12_meaning_17 (by decide) (fun hc => ?_) (fun hc => ?_)
      · have hw := hw.1 hc
        obtain ⟨k39, hw⟩ := hw
        obtain ⟨z37, e38⟩ := ex1 (x1 + 1)
        have hw := hw z37 e38
        have hz37 : inR z37 := by rw [e38]; exact k39
        refine q_iinc (lv' := [(0, .ref (E.1 1000)), (1, iV z37)]) F 1 [1, 0] dX12_meaning_27 rfl (q_n hN (by decide)) e38.symm rfl ?_
        refine q_goto F 2 dX12_meaning_30 (by decide) ?_
        exact ih z37 J34 hz37 m36 hw
      · have hw := hw.2 hc
        refine q_aload_n F 0 dX12_meaning_20 rfl rfl ?_
        refine q_iconst F dX12_meaning_21 ?_
        refine q_iload_n F 1 dX12_meaning_22 rfl rfl ?_
        refine q_ViM F (kcX12_wrong m36 (⟨by decide, by decide⟩ : inR (2)) hx1 hw) (by decide) meObj (ci := 10) rfl (bV wd973 wd974 wd1295 wd13 wd975) rfl ⟨rfl, rfl⟩ ydX12_wrong (rmK_le hR (by omega) (by decide)) (av := [iV 2, iV x1]) rfl rfl (Nat.le_of_ble_eq_true rfl) dX12_meaning_23 (rmK_cs hR (by omega) (by omega)) (fun r40 J41 h42 m43 hw => ?_)
        obtain ⟨k44, hw⟩ := hw
        exact hret _ _ _ _ _ dX12_meaning_26 k44 h42 m43 hw
set_option maxHeartbeats 4000000 in
set_option maxRecDepth 100000 in
theorem kcX12_meaning {l : Launch} {D : va_G} {E : cE} {J : cI} (hm : mM J)  {Q : Int → cI → Prop} (hw : wX12_meaning  J Q) : gM l D E mIds yX12_meaning vX12_meaning (rmK 7 (0) (0)) [.ref (E.1 1000)] (mef E J) (mef E) (oI Q) (0) (0) := by
  unfold wX12_meaning at hw
  refine k_ofW (own := RX12) (cc := cX12_meaning) (maxL := 2) (ret := (some .boolean)) (lv := [(0, .ref (E.1 1000))]) (by decide) rfl rfl (Nat.le_of_ble_eq_true rfl) rfl ?_
  intro X hl hR hN hD F K
  subst hl; subst hD
  have hret := mk_rZM (Q := Q) F K
  refine q_iconst F dX12_meaning_0 ?_
  refine q_istore_n (lv' := [(0, .ref (E.1 1000)), (1, iV 1)]) F [1, 0] dX12_meaning_1 rfl (q_n hN (by decide)) rfl ?_
  obtain ⟨n1, hw⟩ := hw
  exact bX12_meaning_2 F hR hN hret n1 1 J (⟨by decide, by decide⟩ : inR (1)) hm hw
theorem ydX12_copyRule : yX12_copyRule.cls = RX12 ∧ yX12_copyRule.cls ≠ "java/lang/invoke/MethodHandle" ∧ yX12_copyRule.cls ≠ "java/lang/invoke/VarHandle" ∧ (parseMethodDescriptor yX12_copyRule.desc).map (fun d => d.parameters.length) = some 7 := by decide +kernel
def vX12_copyRule : List Cond := Cond.code yX12_copyRule cX12_copyRule 9 none :: bG
set_option maxHeartbeats 4000000 in
set_option maxRecDepth 100000 in
theorem bX12_copyRule_48 {X : xC} {E : cE} (F : mF X E RX12 cX12_copyRule bG) (hR : X.1.2.2.2 = rmK 1 (0) (0)) (hN : X.2.2.1.2.2.2 = 9) {Q : cI → Prop} (hret : rVM X E cX12_copyRule (0) (0) Q) {a1 : Nat} {a2 : Nat} {a3 : Nat} {a4 : Nat} {a5 : Nat} {a6 : Int} {a7 : Int} (ha1 : isM 70 a1) (ha2 : isM 70 a2) (ha3 : isM 70 a3) (ha4 : isM 70 a4) (ha5 : isM 350 a5) (ha6 : inR a6) (ha7 : inR a7) : ∀ n48 : Nat, ∀ (x8 : Int) (J : cI), inR x8 → mM J → wX12_copyRule_48 Q a1 a2 a3 a4 a5 a6 a7 n48 x8 J → cW X (0) (0) 48 [(0, .ref (E.1 1000)), (5, .ref (E.1 a5)), (6, iV a6), (7, iV a7), (8, iV x8)] [] (gw E.1 mIds (mef E J) ++ []) := by
  intro n48
  induction n48 with
  | zero => intro x8 J hx8 hm hw; exact hw.elim
  | succ n48 ih =>
    intro x8 J hx8 hm hw
    change wbX12_copyRule_48 Q a1 a2 a3 a4 a5 a6 a7 (wX12_copyRule_48 Q a1 a2 a3 a4 a5 a6 a7 n48) x8 J at hw
    unfold wbX12_copyRule_48 at hw
    refine q_iload F 4 dX12_copyRule_48 rfl ?_
    refine q_iconst F dX12_copyRule_50 ?_
    refine q_icmp_ge F hx8 (⟨by decide, by decide⟩ : inR (5)) 82 dX12_copyRule_51 (by decide) (fun hc => ?_) (fun hc => ?_)
    · have hw := hw.1 hc
      exact hret _ _ _ _ dX12_copyRule_82 hm hw
    · have hw := hw.2 hc
      refine q_aload_n F 0 dX12_copyRule_54 rfl rfl ?_
      refine s_g_ruleCells F ib12 wd892 dX12_copyRule_55 ?_
      refine q_iconst F dX12_copyRule_58 ?_
      refine q_iload F 3 dX12_copyRule_59 rfl ?_
      refine q_imul F dX12_copyRule_61 ?_
      refine q_iload F 4 dX12_copyRule_62 rfl ?_
      refine q_iadd F dX12_copyRule_64 ?_
      refine q_aload F 1 dX12_copyRule_65 rfl ?_
      refine q_iconst F dX12_copyRule_67 ?_
      refine q_iload F 2 dX12_copyRule_68 rfl ?_
      refine q_imul F dX12_copyRule_70 ?_
      refine q_iload F 4 dX12_copyRule_71 rfl ?_
      refine q_iadd F dX12_copyRule_73 ?_
      obtain ⟨k1, hw⟩ := hw
      refine s_ald F 350 ha5 k1 (by decide) dX12_copyRule_74 ?_
      obtain ⟨k2, hw⟩ := hw
      obtain ⟨J3, e4⟩ := ex1 (up2 J 1019 (((5 * a7) + x8)) ((J a5 (((5 * a6) + x8)))))
      have hw := hw J3 e4
      have m5 : mM J3 := mM_I hm e4 (hm _ _)
      refine s_ast F 350 kM_ruleCells k2 (by decide) e4 dX12_copyRule_75 ?_
      obtain ⟨k8, hw⟩ := hw
      obtain ⟨z6, e7⟩ := ex1 (x8 + 1)
      have hw := hw z6 e7
      have hz6 : inR z6 := by rw [e7]; exact k8
      refine q_iinc (lv' := [(0, .ref (E.1 1000)), (5, .ref (E.1 a5)), (6, iV a6), (7, iV a7), (8, iV z6)]) F 4 [1, 2, 3, 4, 0] dX12_copyRule_76 rfl (q_n hN (by decide)) e7.symm rfl ?_
      refine q_goto F 48 dX12_copyRule_79 (by decide) ?_
      exact ih z6 J3 hz6 m5 hw
set_option maxHeartbeats 4000000 in
set_option maxRecDepth 100000 in
theorem kcX12_copyRule {l : Launch} {D : va_G} {E : cE} {a1 : Nat} {a2 : Nat} {a3 : Nat} {a4 : Nat} {a5 : Nat} {a6 : Int} {a7 : Int} {J : cI} (hm : mM J) (ha1 : isM 70 a1) (ha2 : isM 70 a2) (ha3 : isM 70 a3) (ha4 : isM 70 a4) (ha5 : isM 350 a5) (ha6 : inR a6) (ha7 : inR a7) {Q : cI → Prop} (hw : wX12_copyRule a1 a2 a3 a4 a5 a6 a7 J Q) : gM l D E mIds yX12_copyRule vX12_copyRule (rmK 1 (0) (0)) [.ref (E.1 1000), .ref (E.1 a1), .ref (E.1 a2), .ref (E.1 a3), .ref (E.1 a4), .ref (E.1 a5), iV a6, iV a7] (mef E J) (mef E) (oV Q) (0) (0) := by
  unfold wX12_copyRule at hw
  refine k_ofW (own := RX12) (cc := cX12_copyRule) (maxL := 9) (ret := none) (lv := [(0, .ref (E.1 1000)), (1, .ref (E.1 a1)), (2, .ref (E.1 a2)), (3, .ref (E.1 a3)), (4, .ref (E.1 a4)), (5, .ref (E.1 a5)), (6, iV a6), (7, iV a7)]) (by decide) rfl rfl (Nat.le_of_ble_eq_true rfl) rfl ?_
  intro X hl hR hN hD F K
  subst hl; subst hD
  have hret := mk_rVM (Q := Q) F K
  refine q_aload_n F 0 dX12_copyRule_0 rfl rfl ?_
  refine s_g_ruleKind F ib12 wd888 dX12_copyRule_1 ?_
  refine q_iload F 7 dX12_copyRule_4 rfl ?_
  refine q_aload_n F 1 dX12_copyRule_6 rfl rfl ?_
  refine q_iload F 6 dX12_copyRule_7 rfl ?_
  obtain ⟨k1, hw⟩ := hw
  refine s_ald F 70 ha1 k1 (by decide) dX12_copyRule_9 ?_
  obtain ⟨k2, hw⟩ := hw
  obtain ⟨J3, e4⟩ := ex1 (up2 J 1015 a7 ((J a1 a6)))
  have hw := hw J3 e4
  have m5 : mM J3 := mM_I hm e4 (hm _ _)
  refine s_ast F 70 kM_ruleKind k2 (by decide) e4 dX12_copyRule_10 ?_
  refine q_aload_n F 0 dX12_copyRule_11 rfl rfl ?_
  refine s_g_ruleNumber F ib12 wd889 dX12_copyRule_12 ?_
  refine q_iload F 7 dX12_copyRule_15 rfl ?_
  refine q_aload_n F 2 dX12_copyRule_17 rfl rfl ?_
  refine q_iload F 6 dX12_copyRule_18 rfl ?_
  obtain ⟨k6, hw⟩ := hw
  refine s_ald F 70 ha2 k6 (by decide) dX12_copyRule_20 ?_
  obtain ⟨k7, hw⟩ := hw
  obtain ⟨J8, e9⟩ := ex1 (up2 J3 1016 a7 ((J3 a2 a6)))
  have hw := hw J8 e9
  have m10 : mM J8 := mM_I m5 e9 (m5 _ _)
  refine s_ast F 70 kM_ruleNumber k7 (by decide) e9 dX12_copyRule_21 ?_
  refine q_aload_n F 0 dX12_copyRule_22 rfl rfl ?_
  refine s_g_ruleOften F ib12 wd890 dX12_copyRule_23 ?_
  refine q_iload F 7 dX12_copyRule_26 rfl ?_
  refine q_aload_n F 3 dX12_copyRule_28 rfl rfl ?_
  refine q_iload F 6 dX12_copyRule_29 rfl ?_
  obtain ⟨k11, hw⟩ := hw
  refine s_ald F 70 ha3 k11 (by decide) dX12_copyRule_31 ?_
  obtain ⟨k12, hw⟩ := hw
  obtain ⟨J13, e14⟩ := ex1 (up2 J8 1017 a7 ((J8 a3 a6)))
  have hw := hw J13 e14
  have m15 : mM J13 := mM_I m10 e14 (m10 _ _)
  refine s_ast F 70 kM_ruleOften k12 (by decide) e14 dX12_copyRule_32 ?_
  refine q_aload_n F 0 dX12_copyRule_33 rfl rfl ?_
  refine s_g_ruleSize F ib12 wd891 dX12_copyRule_34 ?_
  refine q_iload F 7 dX12_copyRule_37 rfl ?_
  refine q_aload F 4 dX12_copyRule_39 rfl ?_
  refine q_iload F 6 dX12_copyRule_41 rfl ?_
  obtain ⟨k16, hw⟩ := hw
  refine s_ald F 70 ha4 k16 (by decide) dX12_copyRule_43 ?_
  obtain ⟨k17, hw⟩ := hw
  obtain ⟨J18, e19⟩ := ex1 (up2 J13 1018 a7 ((J13 a4 a6)))
  have hw := hw J18 e19
  have m20 : mM J18 := mM_I m15 e19 (m15 _ _)
  refine s_ast F 70 kM_ruleSize k17 (by decide) e19 dX12_copyRule_44 ?_
  refine q_iconst F dX12_copyRule_45 ?_
  refine q_istore (lv' := [(0, .ref (E.1 1000)), (1, .ref (E.1 a1)), (2, .ref (E.1 a2)), (3, .ref (E.1 a3)), (4, .ref (E.1 a4)), (5, .ref (E.1 a5)), (6, iV a6), (7, iV a7), (8, iV 0)]) F [1, 2, 3, 4, 5, 6, 7, 8, 0] dX12_copyRule_46 (q_n hN (by decide)) rfl ?_
  refine q_lv [0, 5, 6, 7, 8] rfl ?_
  obtain ⟨n21, hw⟩ := hw
  exact bX12_copyRule_48 F hR hN hret ha1 ha2 ha3 ha4 ha5 ha6 ha7 n21 0 J18 (⟨by decide, by decide⟩ : inR (0)) m20 hw
theorem ydX12_lookAnew : yX12_lookAnew.cls = RX12 ∧ yX12_lookAnew.cls ≠ "java/lang/invoke/MethodHandle" ∧ yX12_lookAnew.cls ≠ "java/lang/invoke/VarHandle" ∧ (parseMethodDescriptor yX12_lookAnew.desc).map (fun d => d.parameters.length) = some 0 := by decide +kernel
def vX12_lookAnew : List Cond := Cond.code yX12_lookAnew cX12_lookAnew 3 (some .int) :: bG
set_option maxHeartbeats 4000000 in
set_option maxRecDepth 100000 in
theorem bX12_lookAnew_47 {X : xC} {E : cE} (F : mF X E RX12 cX12_lookAnew bG) (hR : X.1.2.2.2 = rmK 2 (0) (0)) (hN : X.2.2.1.2.2.2 = 3) {Q : Int → cI → Prop} (hret : rIM X E cX12_lookAnew (0) (0) Q)   {K4 : Int → Int → cI → Prop} (hK4 : ∀ (x1 : Int) (x2 : Int) (J : cI), inR x1 → inR x2 → mM J → K4 x1 x2 J → cW X (0) (0) 4 [(0, .ref (E.1 1000)), (1, iV x1), (2, iV x2)] [] (gw E.1 mIds (mef E J) ++ [])) : ∀ (x1 : Int) (x2 : Int) (y1 : Int) (y2 : Int) (J : cI), inR x1 → inR x2 → inR y1 → inR y2 → mM J → wX12_lookAnew_47 Q K4 x1 x2 y1 y2 J → cW X (0) (0) 47 [(0, .ref (E.1 1000)), (1, iV x1), (2, iV x2)] [iV y2, iV y1, .ref (E.1 1030)] (gw E.1 mIds (mef E J) ++ []) := by
  intro x1 x2 y1 y2 J hx1 hx2 hy1 hy2 hm hw
  unfold wX12_lookAnew_47 at hw
  obtain ⟨k1, hw⟩ := hw
  obtain ⟨J2, e3⟩ := ex1 (up2 J 1030 y1 y2)
  have hw := hw J2 e3
  have m4 : mM J2 := mM_I hm e3 hy2
  refine s_ast F 25 kM_sets k1 (by decide) e3 dX12_lookAnew_47 ?_
  refine q_iload_n F 1 dX12_lookAnew_48 rfl rfl ?_
  refine q_aload_n F 0 dX12_lookAnew_49 rfl rfl ?_
  refine s_g_sets F ib12 wd903 dX12_lookAnew_50 ?_
  refine q_iload_n F 2 dX12_lookAnew_53 rfl rfl ?_
  obtain ⟨k5, hw⟩ := hw
  refine s_ald F 25 kM_sets k5 (by decide) dX12_lookAnew_54 ?_
  refine q_bc F hR (by omega) (m4 _ _) wd1006 dX12_lookAnew_55 (Nat.le_of_ble_eq_true rfl) ?_
  refine q_iadd F dX12_lookAnew_58 ?_
  obtain ⟨k6, hw⟩ := hw
  obtain ⟨z7, e8⟩ := ex1 ((x1 + (bc ((J2 1030 x2)))))
  have hw := hw z7 e8
  have hz7 : inR z7 := by rw [e8]; exact k6
  refine q_top e8 ?_
  refine q_istore_n (lv' := [(0, .ref (E.1 1000)), (1, iV z7), (2, iV x2)]) F [1, 0, 2] dX12_lookAnew_59 rfl (q_n hN (by decide)) rfl ?_
  obtain ⟨k11, hw⟩ := hw
  obtain ⟨z9, e10⟩ := ex1 (x2 + 1)
  have hw := hw z9 e10
  have hz9 : inR z9 := by rw [e10]; exact k11
  refine q_iinc (lv' := [(0, .ref (E.1 1000)), (1, iV z7), (2, iV z9)]) F 2 [1, 2, 0] dX12_lookAnew_60 rfl (q_n hN (by decide)) e10.symm rfl ?_
  refine q_goto F 4 dX12_lookAnew_63 (by decide) ?_
  exact hK4 z7 z9 J2 hz7 hz9 m4 hw
set_option maxHeartbeats 4000000 in
set_option maxRecDepth 100000 in
theorem bX12_lookAnew_4 {X : xC} {E : cE} (F : mF X E RX12 cX12_lookAnew bG) (hR : X.1.2.2.2 = rmK 2 (0) (0)) (hN : X.2.2.1.2.2.2 = 3) {Q : Int → cI → Prop} (hret : rIM X E cX12_lookAnew (0) (0) Q)   : ∀ n4 : Nat, ∀ (x1 : Int) (x2 : Int) (J : cI), inR x1 → inR x2 → mM J → wX12_lookAnew_4 Q n4 x1 x2 J → cW X (0) (0) 4 [(0, .ref (E.1 1000)), (1, iV x1), (2, iV x2)] [] (gw E.1 mIds (mef E J) ++ []) := by
  intro n4
  induction n4 with
  | zero => intro x1 x2 J hx1 hx2 hm hw; exact hw.elim
  | succ n4 ih =>
    intro x1 x2 J hx1 hx2 hm hw
    change wbX12_lookAnew_4 Q (wX12_lookAnew_4 Q n4) x1 x2 J at hw
    unfold wbX12_lookAnew_4 at hw
    refine q_iload_n F 2 dX12_lookAnew_4 rfl rfl ?_
    refine q_aload_n F 0 dX12_lookAnew_5 rfl rfl ?_
    refine q_ViM F (kcX12_cells hm hw) (by decide) meObj (ci := 10) rfl (bV wd1003 wd1004 wd1305 wd13 wd1005) rfl ⟨rfl, rfl⟩ ydX12_cells (rmK_le hR (by omega) (by decide)) (av := []) rfl rfl (Nat.le_of_ble_eq_true rfl) dX12_lookAnew_6 (rmK_cs hR (by omega) (by omega)) (fun r1 J2 h3 m4 hw => ?_)
    refine q_icmp_ge F hx2 h3 66 dX12_lookAnew_9 (by decide) (fun hc => ?_) (fun hc => ?_)
    · have hw := hw.1 hc
      refine q_aload_n F 0 dX12_lookAnew_66 rfl rfl ?_
      refine q_iconst F dX12_lookAnew_67 ?_
      obtain ⟨J5, e6⟩ := ex1 (up2 J2 1000 31 0)
      have hw := hw J5 e6
      have m7 : mM J5 := mM_I m4 e6 (⟨by decide, by decide⟩ : inR (0))
      refine s_p_passes F ib12 wd904 e6 dX12_lookAnew_68 ?_
      refine q_aload_n F 0 dX12_lookAnew_71 rfl rfl ?_
      refine q_iconst F dX12_lookAnew_72 ?_
      obtain ⟨J8, e9⟩ := ex1 (up2 J5 1000 32 0)
      have hw := hw J8 e9
      have m10 : mM J8 := mM_I m7 e9 (⟨by decide, by decide⟩ : inR (0))
      refine s_p_grade F ib12 wd905 e9 dX12_lookAnew_73 ?_
      refine q_iload_n F 1 dX12_lookAnew_76 rfl rfl ?_
      exact hret _ _ _ _ _ dX12_lookAnew_77 hx1 m10 hw
    · have hw := hw.2 hc
      refine q_aload_n F 0 dX12_lookAnew_12 rfl rfl ?_
      refine s_g_sets F ib12 wd903 dX12_lookAnew_13 ?_
      refine q_iload_n F 2 dX12_lookAnew_16 rfl rfl ?_
      refine q_aload_n F 0 dX12_lookAnew_17 rfl rfl ?_
      refine s_g_grid F ib12 wd893 dX12_lookAnew_18 ?_
      refine q_iload_n F 2 dX12_lookAnew_21 rfl rfl ?_
      obtain ⟨k11, hw⟩ := hw
      refine s_ald F 25 kM_grid k11 (by decide) dX12_lookAnew_22 ?_
      refine q_if_le F (m4 _ _) 39 dX12_lookAnew_23 (by decide) (fun hc => ?_) (fun hc => ?_)
      · have hw := hw.1 hc
        refine q_iconst F dX12_lookAnew_39 ?_
        refine q_aload_n F 0 dX12_lookAnew_40 rfl rfl ?_
        refine s_g_k F ib12 wd886 dX12_lookAnew_41 ?_
        refine q_ishl F dX12_lookAnew_44 ?_
        refine q_iconst F dX12_lookAnew_45 ?_
        refine q_isub F dX12_lookAnew_46 ?_
        obtain ⟨k12, hw⟩ := hw
        exact bX12_lookAnew_47 F hR hN hret ih x1 x2 x2 (((iShl 1 ((J2 1000 13))) - 1)) J2 hx1 hx2 hx2 k12 m4 hw
      · have hw := hw.2 hc
        refine q_iconst F dX12_lookAnew_26 ?_
        refine q_aload_n F 0 dX12_lookAnew_27 rfl rfl ?_
        refine s_g_grid F ib12 wd893 dX12_lookAnew_28 ?_
        refine q_iload_n F 2 dX12_lookAnew_31 rfl rfl ?_
        obtain ⟨k13, hw⟩ := hw
        refine s_ald F 25 kM_grid k13 (by decide) dX12_lookAnew_32 ?_
        refine q_iconst F dX12_lookAnew_33 ?_
        refine q_isub F dX12_lookAnew_34 ?_
        refine q_ishl F dX12_lookAnew_35 ?_
        refine q_goto F 47 dX12_lookAnew_36 (by decide) ?_
        exact bX12_lookAnew_47 F hR hN hret ih x1 x2 x2 ((iShl 1 (((J2 1020 x2) - 1)))) J2 hx1 hx2 hx2 (ti_rng _) m4 hw
set_option maxHeartbeats 4000000 in
set_option maxRecDepth 100000 in
theorem kcX12_lookAnew {l : Launch} {D : va_G} {E : cE} {J : cI} (hm : mM J)  {Q : Int → cI → Prop} (hw : wX12_lookAnew  J Q) : gM l D E mIds yX12_lookAnew vX12_lookAnew (rmK 2 (0) (0)) [.ref (E.1 1000)] (mef E J) (mef E) (oI Q) (0) (0) := by
  unfold wX12_lookAnew at hw
  refine k_ofW (own := RX12) (cc := cX12_lookAnew) (maxL := 3) (ret := (some .int)) (lv := [(0, .ref (E.1 1000))]) (by decide) rfl rfl (Nat.le_of_ble_eq_true rfl) rfl ?_
  intro X hl hR hN hD F K
  subst hl; subst hD
  have hret := mk_rIM (Q := Q) F K
  refine q_iconst F dX12_lookAnew_0 ?_
  refine q_istore_n (lv' := [(0, .ref (E.1 1000)), (1, iV 0)]) F [1, 0] dX12_lookAnew_1 rfl (q_n hN (by decide)) rfl ?_
  refine q_iconst F dX12_lookAnew_2 ?_
  refine q_istore_n (lv' := [(0, .ref (E.1 1000)), (1, iV 0), (2, iV 0)]) F [1, 2, 0] dX12_lookAnew_3 rfl (q_n hN (by decide)) rfl ?_
  obtain ⟨n1, hw⟩ := hw
  exact bX12_lookAnew_4 F hR hN hret n1 0 0 J (⟨by decide, by decide⟩ : inR (0)) (⟨by decide, by decide⟩ : inR (0)) hm hw
