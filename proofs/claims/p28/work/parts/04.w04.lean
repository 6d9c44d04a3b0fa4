/-! ===== walks: X3_addNumber, X3_addCell, X3_addRule, X3_show, X11_write, X11_byteAt, X11_requireCell, X11_put, X11_value, X8_begin, X8_keep, X8_giveUp, X8_choice, X4_isBrokenAt, X8_endsFrom, X8_findInGrid, X11_search, X11_solution, X8_findsJustOne, X11_isNeeded ===== -/
theorem ydX3_addNumber : yX3_addNumber.cls = RX3 ∧ yX3_addNumber.cls ≠ "java/lang/invoke/MethodHandle" ∧ yX3_addNumber.cls ≠ "java/lang/invoke/VarHandle" ∧ (parseMethodDescriptor yX3_addNumber.desc).map (fun d => d.parameters.length) = some 1 := by decide +kernel
def vX3_addNumber : List Cond := Cond.code yX3_addNumber cX3_addNumber 3 none :: bG
set_option maxHeartbeats 4000000 in
set_option maxRecDepth 100000 in
theorem bX3_addNumber_25 {X : xC} {E : cE} (F : mF X E RX3 cX3_addNumber bG) (hR : X.1.2.2.2 = rmK 2 (0) (0)) (hN : X.2.2.1.2.2.2 = 3) {Q : cI → cR → Prop} (hret : rV X E cX3_addNumber (0) (0) Q) {a1 : Int} (ha1 : inR a1) {K10 : Int → cI → cR → Prop} (hK10 : ∀ (x2 : Int) (I : cI) (R : cR), inR x2 → cM I R → K10 x2 I R → cW X (0) (0) 10 [(0, .ref (E.1 8)), (1, iV a1), (2, iV x2)] [] (gw E.1 cIds (cef E (I, R)) ++ [])) : ∀ (x2 : Int) (I : cI) (R : cR), inR x2 → cM I R → wX3_addNumber_25 Q a1 K10 x2 I R → cW X (0) (0) 25 [(0, .ref (E.1 8)), (1, iV a1), (2, iV x2)] [] (gw E.1 cIds (cef E (I, R)) ++ []) := by
  intro x2 I R hx2 hm hw
  unfold wX3_addNumber_25 at hw
  refine q_aload_n F 0 dX3_addNumber_25 rfl rfl ?_
  refine q_bipush F dX3_addNumber_26 (by decide) ?_
  refine q_iload_n F 1 dX3_addNumber_28 rfl rfl ?_
  refine q_iload_n F 2 dX3_addNumber_29 rfl rfl ?_
  obtain ⟨k1, hw⟩ := hw
  refine q_idiv F ⟨⟨k1.1, (ha1).2⟩, k1.2, (hx2).2⟩ dX3_addNumber_30 ?_
  refine q_bipush F dX3_addNumber_31 (by decide) ?_
  obtain ⟨k2, hw⟩ := hw
  obtain ⟨k3, hw⟩ := hw
  refine q_irem F ⟨⟨k3, (k2).2⟩, by decide, by decide⟩ dX3_addNumber_33 ?_
  refine q_iadd F dX3_addNumber_34 ?_
  obtain ⟨k4, hw⟩ := hw
  refine q_Vv F (kcX3_add hm k4 hw) (cIds_in (show ckd 8 = 1 ∧ 8 < 353 by decide).2) (cePaper (show ckd 8 = 1 ∧ 8 < 353 by decide).1) (ci := 1) rfl (bV wd555 wd556 wd908 wd5 wd557) rfl ⟨rfl, rfl⟩ ydX3_add (rmK_le hR (by omega) (by decide)) (av := [iV ((48 + ((a1 / x2) % 10)))]) rfl rfl (Nat.le_of_ble_eq_true rfl) dX3_addNumber_35 (rmK_cs hR (by omega) (by omega)) (fun I6 R7 m9 hw => ?_)
  refine q_iload_n F 2 dX3_addNumber_38 rfl rfl ?_
  refine q_bipush F dX3_addNumber_39 (by decide) ?_
  obtain ⟨k10, hw⟩ := hw
  refine q_idiv F ⟨⟨k10, (hx2).2⟩, by decide, by decide⟩ dX3_addNumber_41 ?_
  obtain ⟨k11, hw⟩ := hw
  obtain ⟨z12, e13⟩ := ex1 ((x2 / 10))
  have hw := hw z12 e13
  have hz12 : inR z12 := by rw [e13]; exact k11
  refine q_top e13 ?_
  refine q_istore_n (lv' := [(0, .ref (E.1 8)), (1, iV a1), (2, iV z12)]) F [1, 2, 0] dX3_addNumber_42 rfl (q_n hN (by decide)) rfl ?_
  refine q_goto F 10 dX3_addNumber_43 (by decide) ?_
  exact hK10 z12 I6 R7 hz12 m9 hw
set_option maxHeartbeats 4000000 in
set_option maxRecDepth 100000 in
theorem bX3_addNumber_10 {X : xC} {E : cE} (F : mF X E RX3 cX3_addNumber bG) (hR : X.1.2.2.2 = rmK 2 (0) (0)) (hN : X.2.2.1.2.2.2 = 3) {Q : cI → cR → Prop} (hret : rV X E cX3_addNumber (0) (0) Q) {a1 : Int} (ha1 : inR a1) : ∀ n10 : Nat, ∀ (x2 : Int) (I : cI) (R : cR), inR x2 → cM I R → wX3_addNumber_10 Q a1 n10 x2 I R → cW X (0) (0) 10 [(0, .ref (E.1 8)), (1, iV a1), (2, iV x2)] [] (gw E.1 cIds (cef E (I, R)) ++ []) := by
  intro n10
  induction n10 with
  | zero => intro x2 I R hx2 hm hw; exact hw.elim
  | succ n10 ih =>
    intro x2 I R hx2 hm hw
    change wbX3_addNumber_10 Q a1 (wX3_addNumber_10 Q a1 n10) x2 I R at hw
    unfold wbX3_addNumber_10 at hw
    refine q_iload_n F 2 dX3_addNumber_10 rfl rfl ?_
    refine q_iconst F dX3_addNumber_11 ?_
    refine q_icmp_lt F hx2 (⟨by decide, by decide⟩ : inR (1)) 46 dX3_addNumber_12 (by decide) (fun hc => ?_) (fun hc => ?_)
    · have hw := hw.1 hc
      exact hret _ _ _ _ _ dX3_addNumber_46 hm hw
    · have hw := hw.2 hc
      refine q_iload_n F 1 dX3_addNumber_15 rfl rfl ?_
      refine q_iload_n F 2 dX3_addNumber_16 rfl rfl ?_
      refine q_icmp_ge F ha1 hx2 25 dX3_addNumber_17 (by decide) (fun hc => ?_) (fun hc => ?_)
      · have hw := hw.1 hc
        exact bX3_addNumber_25 F hR hN hret ha1 ih x2 I R hx2 hm hw
      · have hw := hw.2 hc
        refine q_iload_n F 2 dX3_addNumber_20 rfl rfl ?_
        refine q_iconst F dX3_addNumber_21 ?_
        refine q_icmp_ne F hx2 (⟨by decide, by decide⟩ : inR (1)) 38 dX3_addNumber_22 (by decide) (fun hc => ?_) (fun hc => ?_)
        · have hw := hw.1 hc
          refine q_iload_n F 2 dX3_addNumber_38 rfl rfl ?_
          refine q_bipush F dX3_addNumber_39 (by decide) ?_
          obtain ⟨k1, hw⟩ := hw
          refine q_idiv F ⟨⟨k1, (hx2).2⟩, by decide, by decide⟩ dX3_addNumber_41 ?_
          obtain ⟨k2, hw⟩ := hw
          obtain ⟨z3, e4⟩ := ex1 ((x2 / 10))
          have hw := hw z3 e4
          have hz3 : inR z3 := by rw [e4]; exact k2
          refine q_top e4 ?_
          refine q_istore_n (lv' := [(0, .ref (E.1 8)), (1, iV a1), (2, iV z3)]) F [1, 2, 0] dX3_addNumber_42 rfl (q_n hN (by decide)) rfl ?_
          refine q_goto F 10 dX3_addNumber_43 (by decide) ?_
          exact ih z3 I R hz3 hm hw
        · have hw := hw.2 hc
          exact bX3_addNumber_25 F hR hN hret ha1 ih x2 I R hx2 hm hw
set_option maxHeartbeats 4000000 in
set_option maxRecDepth 100000 in
theorem kcX3_addNumber {l : Launch} {D : va_G} {E : cE} {a1 : Int} {I : cI} {R : cR} (hm : cM I R) (ha1 : inR a1) {Q : cI → cR → Prop} (hw : wX3_addNumber a1 I R Q) : gM l D E cIds yX3_addNumber vX3_addNumber (rmK 2 (0) (0)) [.ref (E.1 8), iV a1] (cef E (I, R)) (cef E) (pV Q) (0) (0) := by
  unfold wX3_addNumber at hw
  refine k_ofW (own := RX3) (cc := cX3_addNumber) (maxL := 3) (ret := none) (lv := [(0, .ref (E.1 8)), (1, iV a1)]) (by decide) rfl rfl (Nat.le_of_ble_eq_true rfl) rfl ?_
  intro X hl hR hN hD F K
  subst hl; subst hD
  have hret := mk_rV (Q := Q) F K
  refine q_aload_n F 0 dX3_addNumber_0 rfl rfl ?_
  refine q_bipush F dX3_addNumber_1 (by decide) ?_
  refine q_Vv F (kcX3_add hm (⟨by decide, by decide⟩ : inR (32)) hw) (cIds_in (show ckd 8 = 1 ∧ 8 < 353 by decide).2) (cePaper (show ckd 8 = 1 ∧ 8 < 353 by decide).1) (ci := 1) rfl (bV wd555 wd556 wd908 wd5 wd557) rfl ⟨rfl, rfl⟩ ydX3_add (rmK_le hR (by omega) (by decide)) (av := [iV 32]) rfl rfl (Nat.le_of_ble_eq_true rfl) dX3_addNumber_3 (rmK_cs hR (by omega) (by omega)) (fun I2 R3 m5 hw => ?_)
  refine q_sipush F dX3_addNumber_6 (by decide) ?_
  refine q_istore_n (lv' := [(0, .ref (E.1 8)), (1, iV a1), (2, iV 1000)]) F [1, 2, 0] dX3_addNumber_9 rfl (q_n hN (by decide)) rfl ?_
  obtain ⟨n6, hw⟩ := hw
  exact bX3_addNumber_10 F hR hN hret ha1 n6 1000 I2 R3 (⟨by decide, by decide⟩ : inR (1000)) m5 hw
theorem ydX3_addCell : yX3_addCell.cls = RX3 ∧ yX3_addCell.cls ≠ "java/lang/invoke/MethodHandle" ∧ yX3_addCell.cls ≠ "java/lang/invoke/VarHandle" ∧ (parseMethodDescriptor yX3_addCell.desc).map (fun d => d.parameters.length) = some 2 := by decide +kernel
def vX3_addCell : List Cond := Cond.code yX3_addCell cX3_addCell 3 none :: bG
set_option maxHeartbeats 4000000 in
set_option maxRecDepth 100000 in
theorem kcX3_addCell {l : Launch} {D : va_G} {E : cE} {a1 : Int} {a2 : Int} {I : cI} {R : cR} (hm : cM I R) (ha1 : inR a1) (ha2 : inR a2) {Q : cI → cR → Prop} (hw : wX3_addCell a1 a2 I R Q) : gM l D E cIds yX3_addCell vX3_addCell (rmK 2 (0) (0)) [.ref (E.1 8), iV a1, iV a2] (cef E (I, R)) (cef E) (pV Q) (0) (0) := by
  unfold wX3_addCell at hw
  refine k_ofW (own := RX3) (cc := cX3_addCell) (maxL := 3) (ret := none) (lv := [(0, .ref (E.1 8)), (1, iV a1), (2, iV a2)]) (by decide) rfl rfl (Nat.le_of_ble_eq_true rfl) rfl ?_
  intro X hl hR hN hD F K
  subst hl; subst hD
  have hret := mk_rV (Q := Q) F K
  refine q_iload_n F 2 dX3_addCell_0 rfl rfl ?_
  refine q_if_le F ha2 30 dX3_addCell_1 (by decide) (fun hc => ?_) (fun hc => ?_)
  · have hw := hw.1 hc
    exact hret _ _ _ _ _ dX3_addCell_30 hm hw
  · have hw := hw.2 hc
    refine q_aload_n F 0 dX3_addCell_4 rfl rfl ?_
    refine q_bipush F dX3_addCell_5 (by decide) ?_
    refine q_Vv F (kcX3_add hm (⟨by decide, by decide⟩ : inR (32)) hw) (cIds_in (show ckd 8 = 1 ∧ 8 < 353 by decide).2) (cePaper (show ckd 8 = 1 ∧ 8 < 353 by decide).1) (ci := 1) rfl (bV wd555 wd556 wd908 wd5 wd557) rfl ⟨rfl, rfl⟩ ydX3_add (rmK_le hR (by omega) (by decide)) (av := [iV 32]) rfl rfl (Nat.le_of_ble_eq_true rfl) dX3_addCell_7 (rmK_cs hR (by omega) (by omega)) (fun I2 R3 m5 hw => ?_)
    refine q_aload_n F 0 dX3_addCell_10 rfl rfl ?_
    refine q_bipush F dX3_addCell_11 (by decide) ?_
    refine q_iload_n F 1 dX3_addCell_13 rfl rfl ?_
    refine q_iload_n F 2 dX3_addCell_14 rfl rfl ?_
    obtain ⟨k6, hw⟩ := hw
    refine q_irem F ⟨⟨k6.1, (ha1).2⟩, k6.2, (ha2).2⟩ dX3_addCell_15 ?_
    refine q_iadd F dX3_addCell_16 ?_
    obtain ⟨k7, hw⟩ := hw
    refine q_Vv F (kcX3_add m5 k7 hw) (cIds_in (show ckd 8 = 1 ∧ 8 < 353 by decide).2) (cePaper (show ckd 8 = 1 ∧ 8 < 353 by decide).1) (ci := 1) rfl (bV wd555 wd556 wd908 wd5 wd557) rfl ⟨rfl, rfl⟩ ydX3_add (rmK_le hR (by omega) (by decide)) (av := [iV ((97 + (a1 % a2)))]) rfl rfl (Nat.le_of_ble_eq_true rfl) dX3_addCell_17 (rmK_cs hR (by omega) (by omega)) (fun I9 R10 m12 hw => ?_)
    refine q_aload_n F 0 dX3_addCell_20 rfl rfl ?_
    refine q_bipush F dX3_addCell_21 (by decide) ?_
    refine q_iload_n F 1 dX3_addCell_23 rfl rfl ?_
    refine q_iload_n F 2 dX3_addCell_24 rfl rfl ?_
    obtain ⟨k13, hw⟩ := hw
    refine q_idiv F ⟨⟨k13.1, (ha1).2⟩, k13.2, (ha2).2⟩ dX3_addCell_25 ?_
    refine q_iadd F dX3_addCell_26 ?_
    obtain ⟨k14, hw⟩ := hw
    refine q_Vv F (kcX3_add m12 k14 hw) (cIds_in (show ckd 8 = 1 ∧ 8 < 353 by decide).2) (cePaper (show ckd 8 = 1 ∧ 8 < 353 by decide).1) (ci := 1) rfl (bV wd555 wd556 wd908 wd5 wd557) rfl ⟨rfl, rfl⟩ ydX3_add (rmK_le hR (by omega) (by decide)) (av := [iV ((49 + (a1 / a2)))]) rfl rfl (Nat.le_of_ble_eq_true rfl) dX3_addCell_27 (rmK_cs hR (by omega) (by omega)) (fun I16 R17 m19 hw => ?_)
    exact hret _ _ _ _ _ dX3_addCell_30 m19 hw
theorem ydX3_addRule : yX3_addRule.cls = RX3 ∧ yX3_addRule.cls ≠ "java/lang/invoke/MethodHandle" ∧ yX3_addRule.cls ≠ "java/lang/invoke/VarHandle" ∧ (parseMethodDescriptor yX3_addRule.desc).map (fun d => d.parameters.length) = some 2 := by decide +kernel
def vX3_addRule : List Cond := Cond.code yX3_addRule cX3_addRule 4 none :: bG
set_option maxHeartbeats 4000000 in
set_option maxRecDepth 100000 in
theorem bX3_addRule_50 {X : xC} {E : cE} (F : mF X E RX3 cX3_addRule bG) (hR : X.1.2.2.2 = rmK 6 (0) (0)) (hN : X.2.2.1.2.2.2 = 4) {Q : cI → cR → Prop} (hret : rV X E cX3_addRule (0) (0) Q) {a1 : Nat} {a2 : Int} (ha1 : isR a1) (ha2 : inR a2) : ∀ n50 : Nat, ∀ (x3 : Int) (I : cI) (R : cR), inR x3 → cM I R → wX3_addRule_50 Q a1 a2 n50 x3 I R → cW X (0) (0) 50 [(0, .ref (E.1 8)), (1, .ref (E.1 a1)), (2, iV a2), (3, iV x3)] [] (gw E.1 cIds (cef E (I, R)) ++ []) := by
  intro n50
  induction n50 with
  | zero => intro x3 I R hx3 hm hw; exact hw.elim
  | succ n50 ih =>
    intro x3 I R hx3 hm hw
    change wbX3_addRule_50 Q a1 a2 (wX3_addRule_50 Q a1 a2 n50) x3 I R at hw
    unfold wbX3_addRule_50 at hw
    refine q_iload_n F 3 dX3_addRule_50 rfl rfl ?_
    refine q_aload_n F 1 dX3_addRule_51 rfl rfl ?_
    refine t_g_Rule_size F (kR0 ha1) ib7 wd157 dX3_addRule_52 ?_
    refine q_icmp_ge F hx3 (hm.1 _ _) 75 dX3_addRule_55 (by decide) (fun hc => ?_) (fun hc => ?_)
    · have hw := hw.1 hc
      refine q_aload_n F 1 dX3_addRule_75 rfl rfl ?_
      refine t_g_Rule_kind F (kR0 ha1) ib7 wd143 dX3_addRule_76 ?_
      refine q_gs F (sZ_IS F) wd567 rfl dX3_addRule_79 ?_
      refine q_acne F (hm.2.2.2.2 _ ha1) (by decide) 93 dX3_addRule_82 (by decide) (fun hc => ?_) (fun hc => ?_)
      · have hw := hw.1 hc
        exact hret _ _ _ _ _ dX3_addRule_93 hm hw
      · have hw := hw.2 hc
        refine q_aload_n F 0 dX3_addRule_85 rfl rfl ?_
        refine q_aload_n F 1 dX3_addRule_86 rfl rfl ?_
        refine t_g_Rule_number F (kR0 ha1) ib7 wd148 dX3_addRule_87 ?_
        refine q_Vv F (kcX3_addNumber hm (hm.1 _ _) hw) (cIds_in (show ckd 8 = 1 ∧ 8 < 353 by decide).2) (cePaper (show ckd 8 = 1 ∧ 8 < 353 by decide).1) (ci := 1) rfl (bV wd558 wd559 wd909 wd5 wd560) rfl ⟨rfl, rfl⟩ ydX3_addNumber (rmK_le hR (by omega) (by decide)) (av := [iV ((I a1 1))]) rfl rfl (Nat.le_of_ble_eq_true rfl) dX3_addRule_90 (rmK_cs hR (by omega) (by omega)) (fun I2 R3 m5 hw => ?_)
        exact hret _ _ _ _ _ dX3_addRule_93 m5 hw
    · have hw := hw.2 hc
      refine q_aload_n F 0 dX3_addRule_58 rfl rfl ?_
      refine q_aload_n F 1 dX3_addRule_59 rfl rfl ?_
      refine t_g_Rule_cells F (kR0 ha1) ib7 wd162 (a1 + 130) rfl dX3_addRule_60 ?_
      refine q_iload_n F 3 dX3_addRule_63 rfl rfl ?_
      obtain ⟨k6, hw⟩ := hw
      refine t_ald F 5 (kR4 ha1) k6 (by decide) dX3_addRule_64 ?_
      refine q_iload_n F 2 dX3_addRule_65 rfl rfl ?_
      refine q_Vv F (kcX3_addCell hm (hm.1 _ _) ha2 hw) (cIds_in (show ckd 8 = 1 ∧ 8 < 353 by decide).2) (cePaper (show ckd 8 = 1 ∧ 8 < 353 by decide).1) (ci := 1) rfl (bV wd564 wd565 wd911 wd5 wd566) rfl ⟨rfl, rfl⟩ ydX3_addCell (rmK_le hR (by omega) (by decide)) (av := [iV ((I (a1 + 130) x3)), iV a2]) rfl rfl (Nat.le_of_ble_eq_true rfl) dX3_addRule_66 (rmK_cs hR (by omega) (by omega)) (fun I8 R9 m11 hw => ?_)
      obtain ⟨k14, hw⟩ := hw
      obtain ⟨z12, e13⟩ := ex1 (x3 + 1)
      have hw := hw z12 e13
      have hz12 : inR z12 := by rw [e13]; exact k14
      refine q_iinc (lv' := [(0, .ref (E.1 8)), (1, .ref (E.1 a1)), (2, iV a2), (3, iV z12)]) F 3 [1, 2, 3, 0] dX3_addRule_69 rfl (q_n hN (by decide)) e13.symm rfl ?_
      refine q_goto F 50 dX3_addRule_72 (by decide) ?_
      exact ih z12 I8 R9 hz12 m11 hw
set_option maxHeartbeats 4000000 in
set_option maxRecDepth 100000 in
theorem bX3_addRule_48 {X : xC} {E : cE} (F : mF X E RX3 cX3_addRule bG) (hR : X.1.2.2.2 = rmK 6 (0) (0)) (hN : X.2.2.1.2.2.2 = 4) {Q : cI → cR → Prop} (hret : rV X E cX3_addRule (0) (0) Q) {a1 : Nat} {a2 : Int} (ha1 : isR a1) (ha2 : inR a2) : ∀ (I : cI) (R : cR), cM I R → wX3_addRule_48 Q a1 a2 I R → cW X (0) (0) 48 [(0, .ref (E.1 8)), (1, .ref (E.1 a1)), (2, iV a2)] [] (gw E.1 cIds (cef E (I, R)) ++ []) := by
  intro I R hm hw
  unfold wX3_addRule_48 at hw
  refine q_iconst F dX3_addRule_48 ?_
  refine q_istore_n (lv' := [(0, .ref (E.1 8)), (1, .ref (E.1 a1)), (2, iV a2), (3, iV 0)]) F [1, 2, 3, 0] dX3_addRule_49 rfl (q_n hN (by decide)) rfl ?_
  obtain ⟨n1, hw⟩ := hw
  exact bX3_addRule_50 F hR hN hret ha1 ha2 n1 0 I R (⟨by decide, by decide⟩ : inR (0)) hm hw
set_option maxHeartbeats 4000000 in
set_option maxRecDepth 100000 in
theorem bX3_addRule_29 {X : xC} {E : cE} (F : mF X E RX3 cX3_addRule bG) (hR : X.1.2.2.2 = rmK 6 (0) (0)) (hN : X.2.2.1.2.2.2 = 4) {Q : cI → cR → Prop} (hret : rV X E cX3_addRule (0) (0) Q) {a1 : Nat} {a2 : Int} (ha1 : isR a1) (ha2 : inR a2) : ∀ (I : cI) (R : cR), cM I R → wX3_addRule_29 Q a1 a2 I R → cW X (0) (0) 29 [(0, .ref (E.1 8)), (1, .ref (E.1 a1)), (2, iV a2)] [] (gw E.1 cIds (cef E (I, R)) ++ []) := by
  intro I R hm hw
  unfold wX3_addRule_29 at hw
  refine q_aload_n F 1 dX3_addRule_29 rfl rfl ?_
  refine t_g_Rule_kind F (kR0 ha1) ib7 wd143 dX3_addRule_30 ?_
  refine q_kAhd F (hm.2.2.2.2 _ ha1) wd840 dX3_addRule_33 ?_
  refine q_iconst F dX3_addRule_36 ?_
  refine q_icmp_le F (kA_in (hm.2.2.2.2 _ ha1)) (⟨by decide, by decide⟩ : inR (1)) 48 dX3_addRule_37 (by decide) (fun hc => ?_) (fun hc => ?_)
  · have hw := hw.1 hc
    exact bX3_addRule_48 F hR hN hret ha1 ha2 I R hm hw
  · have hw := hw.2 hc
    refine q_aload_n F 0 dX3_addRule_40 rfl rfl ?_
    refine q_aload_n F 1 dX3_addRule_41 rfl rfl ?_
    refine t_g_Rule_times F (kR0 ha1) ib7 wd153 dX3_addRule_42 ?_
    refine q_Vv F (kcX3_addNumber hm (hm.1 _ _) hw) (cIds_in (show ckd 8 = 1 ∧ 8 < 353 by decide).2) (cePaper (show ckd 8 = 1 ∧ 8 < 353 by decide).1) (ci := 1) rfl (bV wd558 wd559 wd909 wd5 wd560) rfl ⟨rfl, rfl⟩ ydX3_addNumber (rmK_le hR (by omega) (by decide)) (av := [iV ((I a1 2))]) rfl rfl (Nat.le_of_ble_eq_true rfl) dX3_addRule_45 (rmK_cs hR (by omega) (by omega)) (fun I2 R3 m5 hw => ?_)
    exact bX3_addRule_48 F hR hN hret ha1 ha2 I2 R3 m5 hw
set_option maxHeartbeats 4000000 in
set_option maxRecDepth 100000 in
theorem kcX3_addRule {l : Launch} {D : va_G} {E : cE} {a1 : Nat} {a2 : Int} {I : cI} {R : cR} (hm : cM I R) (ha1 : isR a1) (ha2 : inR a2) {Q : cI → cR → Prop} (hw : wX3_addRule a1 a2 I R Q) : gM l D E cIds yX3_addRule vX3_addRule (rmK 6 (0) (0)) [.ref (E.1 8), .ref (E.1 a1), iV a2] (cef E (I, R)) (cef E) (pV Q) (0) (0) := by
  unfold wX3_addRule at hw
  refine k_ofW (own := RX3) (cc := cX3_addRule) (maxL := 4) (ret := none) (lv := [(0, .ref (E.1 8)), (1, .ref (E.1 a1)), (2, iV a2)]) (by decide) rfl rfl (Nat.le_of_ble_eq_true rfl) rfl ?_
  intro X hl hR hN hD F K
  subst hl; subst hD
  have hret := mk_rV (Q := Q) F K
  refine q_aload_n F 0 dX3_addRule_0 rfl rfl ?_
  refine q_aload_n F 1 dX3_addRule_1 rfl rfl ?_
  refine t_g_Rule_kind F (kR0 ha1) ib7 wd143 dX3_addRule_2 ?_
  refine q_kWord F (hm.2.2.2.2 _ ha1) wd839 dX3_addRule_5 ?_
  refine q_Vv F (kcX3_addWord hm (Nat.lt_trans (hm.2.2.2.2 _ ha1) (by decide)) hw) (cIds_in (show ckd 8 = 1 ∧ 8 < 353 by decide).2) (cePaper (show ckd 8 = 1 ∧ 8 < 353 by decide).1) (ci := 1) rfl (bV wd550 wd551 wd907 wd5 wd552) rfl ⟨rfl, rfl⟩ ydX3_addWord (rmK_le hR (by omega) (by decide)) (av := [.ref (E.2.1 1 ((R a1 0)))]) rfl rfl (Nat.le_of_ble_eq_true rfl) dX3_addRule_8 (rmK_cs hR (by omega) (by omega)) (fun I2 R3 m5 hw => ?_)
  refine q_aload_n F 1 dX3_addRule_11 rfl rfl ?_
  refine t_g_Rule_kind F (kR0 ha1) ib7 wd143 dX3_addRule_12 ?_
  refine q_kAhd F (m5.2.2.2.2 _ ha1) wd840 dX3_addRule_15 ?_
  refine q_if_le F (kA_in (m5.2.2.2.2 _ ha1)) 29 dX3_addRule_18 (by decide) (fun hc => ?_) (fun hc => ?_)
  · have hw := hw.1 hc
    exact bX3_addRule_29 F hR hN hret ha1 ha2 I2 R3 m5 hw
  · have hw := hw.2 hc
    refine q_aload_n F 0 dX3_addRule_21 rfl rfl ?_
    refine q_aload_n F 1 dX3_addRule_22 rfl rfl ?_
    refine t_g_Rule_number F (kR0 ha1) ib7 wd148 dX3_addRule_23 ?_
    refine q_Vv F (kcX3_addNumber m5 (m5.1 _ _) hw) (cIds_in (show ckd 8 = 1 ∧ 8 < 353 by decide).2) (cePaper (show ckd 8 = 1 ∧ 8 < 353 by decide).1) (ci := 1) rfl (bV wd558 wd559 wd909 wd5 wd560) rfl ⟨rfl, rfl⟩ ydX3_addNumber (rmK_le hR (by omega) (by decide)) (av := [iV ((I2 a1 1))]) rfl rfl (Nat.le_of_ble_eq_true rfl) dX3_addRule_26 (rmK_cs hR (by omega) (by omega)) (fun I7 R8 m10 hw => ?_)
    exact bX3_addRule_29 F hR hN hret ha1 ha2 I7 R8 m10 hw
theorem ydX3_show : yX3_show.cls = RX3 ∧ yX3_show.cls ≠ "java/lang/invoke/MethodHandle" ∧ yX3_show.cls ≠ "java/lang/invoke/VarHandle" ∧ (parseMethodDescriptor yX3_show.desc).map (fun d => d.parameters.length) = some 1 := by decide +kernel
def vX3_show : List Cond := Cond.code yX3_show cX3_show 3 none :: bG
set_option maxHeartbeats 4000000 in
set_option maxRecDepth 100000 in
theorem bX3_show_43 {X : xC} {E : cE} (F : mF X E RX3 cX3_show bG) (hR : X.1.2.2.2 = rmK 7 (0) (0)) (hN : X.2.2.1.2.2.2 = 3) {Q : cI → cR → Prop} (hret : rV X E cX3_show (0) (0) Q) {a1 : Nat} (ha1 : isP a1) : ∀ n43 : Nat, ∀ (x2 : Int) (I : cI) (R : cR), inR x2 → cM I R → wX3_show_43 Q a1 n43 x2 I R → cW X (0) (0) 43 [(0, .ref (E.1 8)), (1, .ref (E.1 a1)), (2, iV x2)] [] (gw E.1 cIds (cef E (I, R)) ++ []) := by
  intro n43
  induction n43 with
  | zero => intro x2 I R hx2 hm hw; exact hw.elim
  | succ n43 ih =>
    intro x2 I R hx2 hm hw
    change wbX3_show_43 Q a1 (wX3_show_43 Q a1 n43) x2 I R at hw
    unfold wbX3_show_43 at hw
    refine q_iload_n F 2 dX3_show_43 rfl rfl ?_
    refine q_aload_n F 1 dX3_show_44 rfl rfl ?_
    refine t_g_Puzzle_ruleCount F (kP0 ha1) ib4 wd189 dX3_show_45 ?_
    refine q_icmp_ge F hx2 (hm.1 _ _) 77 dX3_show_48 (by decide) (fun hc => ?_) (fun hc => ?_)
    · have hw := hw.1 hc
      exact hret _ _ _ _ _ dX3_show_77 hm hw
    · have hw := hw.2 hc
      refine q_aload_n F 0 dX3_show_51 rfl rfl ?_
      refine q_aload_n F 1 dX3_show_52 rfl rfl ?_
      refine t_g_Puzzle_rules F (kP0 ha1) ib4 wd185 (a1 + 2) rfl dX3_show_53 ?_
      refine q_iload_n F 2 dX3_show_56 rfl rfl ?_
      obtain ⟨k1, hw⟩ := hw
      refine t_rld F (kP2 ha1) k1 dX3_show_57 ?_
      refine q_aload_n F 1 dX3_show_58 rfl rfl ?_
      refine t_g_Puzzle_columns F (kP0 ha1) ib4 wd166 dX3_show_59 ?_
      refine q_Vv F (kcX3_addRule hm (hm.2.2.2.1 _ ha1 _ k1) (hm.1 _ _) hw) (cIds_in (show ckd 8 = 1 ∧ 8 < 353 by decide).2) (cePaper (show ckd 8 = 1 ∧ 8 < 353 by decide).1) (ci := 1) rfl (bV wd561 wd562 wd910 wd5 wd563) rfl ⟨rfl, rfl⟩ ydX3_addRule (rmK_le hR (by omega) (by decide)) (av := [.ref (E.1 ((R (a1 + 2) x2))), iV ((I a1 0))]) rfl rfl (Nat.le_of_ble_eq_true rfl) dX3_show_62 (rmK_cs hR (by omega) (by omega)) (fun I3 R4 m6 hw => ?_)
      refine q_aload_n F 0 dX3_show_65 rfl rfl ?_
      refine q_bipush F dX3_show_66 (by decide) ?_
      refine q_Vv F (kcX3_add m6 (⟨by decide, by decide⟩ : inR (59)) hw) (cIds_in (show ckd 8 = 1 ∧ 8 < 353 by decide).2) (cePaper (show ckd 8 = 1 ∧ 8 < 353 by decide).1) (ci := 1) rfl (bV wd555 wd556 wd908 wd5 wd557) rfl ⟨rfl, rfl⟩ ydX3_add (rmK_le hR (by omega) (by decide)) (av := [iV 59]) rfl rfl (Nat.le_of_ble_eq_true rfl) dX3_show_68 (rmK_cs hR (by omega) (by omega)) (fun I8 R9 m11 hw => ?_)
      obtain ⟨k14, hw⟩ := hw
      obtain ⟨z12, e13⟩ := ex1 (x2 + 1)
      have hw := hw z12 e13
      have hz12 : inR z12 := by rw [e13]; exact k14
      refine q_iinc (lv' := [(0, .ref (E.1 8)), (1, .ref (E.1 a1)), (2, iV z12)]) F 2 [1, 2, 0] dX3_show_71 rfl (q_n hN (by decide)) e13.symm rfl ?_
      refine q_goto F 43 dX3_show_74 (by decide) ?_
      exact ih z12 I8 R9 hz12 m11 hw
set_option maxHeartbeats 4000000 in
set_option maxRecDepth 100000 in
theorem kcX3_show {l : Launch} {D : va_G} {E : cE} {a1 : Nat} {I : cI} {R : cR} (hm : cM I R) (ha1 : isP a1) {Q : cI → cR → Prop} (hw : wX3_show a1 I R Q) : gM l D E cIds yX3_show vX3_show (rmK 7 (0) (0)) [.ref (E.1 8), .ref (E.1 a1)] (cef E (I, R)) (cef E) (pV Q) (0) (0) := by
  unfold wX3_show at hw
  refine k_ofW (own := RX3) (cc := cX3_show) (maxL := 3) (ret := none) (lv := [(0, .ref (E.1 8)), (1, .ref (E.1 a1))]) (by decide) rfl rfl (Nat.le_of_ble_eq_true rfl) rfl ?_
  intro X hl hR hN hD F K
  subst hl; subst hD
  have hret := mk_rV (Q := Q) F K
  refine q_aload_n F 0 dX3_show_0 rfl rfl ?_
  refine q_iconst F dX3_show_1 ?_
  obtain ⟨I1, e2⟩ := ex1 (up2 I 8 1 0)
  have hw := hw I1 e2
  have m3 : cM I1 R := cM_I hm e2 (⟨by decide, by decide⟩ : inR (0))
  refine t_p_Paper_length F (by decide) ib3 wd75 e2 dX3_show_2 ?_
  refine q_aload_n F 0 dX3_show_5 rfl rfl ?_
  refine q_ldcT F (sR_RX3_grid F) dX3_show_6 ?_
  refine q_Vv F (kcX3_addWord m3 (by decide) hw) (cIds_in (show ckd 8 = 1 ∧ 8 < 353 by decide).2) (cePaper (show ckd 8 = 1 ∧ 8 < 353 by decide).1) (ci := 1) rfl (bV wd550 wd551 wd907 wd5 wd552) rfl ⟨rfl, rfl⟩ ydX3_addWord (rmK_le hR (by omega) (by decide)) (av := [.ref (E.2.1 1 14)]) rfl rfl (Nat.le_of_ble_eq_true rfl) dX3_show_8 (rmK_cs hR (by omega) (by omega)) (fun I5 R6 m8 hw => ?_)
  refine q_aload_n F 0 dX3_show_11 rfl rfl ?_
  refine q_aload_n F 1 dX3_show_12 rfl rfl ?_
  refine t_g_Puzzle_columns F (kP0 ha1) ib4 wd166 dX3_show_13 ?_
  refine q_Vv F (kcX3_addNumber m8 (m8.1 _ _) hw) (cIds_in (show ckd 8 = 1 ∧ 8 < 353 by decide).2) (cePaper (show ckd 8 = 1 ∧ 8 < 353 by decide).1) (ci := 1) rfl (bV wd558 wd559 wd909 wd5 wd560) rfl ⟨rfl, rfl⟩ ydX3_addNumber (rmK_le hR (by omega) (by decide)) (av := [iV ((I5 a1 0))]) rfl rfl (Nat.le_of_ble_eq_true rfl) dX3_show_16 (rmK_cs hR (by omega) (by omega)) (fun I10 R11 m13 hw => ?_)
  refine q_aload_n F 0 dX3_show_19 rfl rfl ?_
  refine q_aload_n F 1 dX3_show_20 rfl rfl ?_
  refine t_g_Puzzle_rows F (kP0 ha1) ib4 wd170 dX3_show_21 ?_
  refine q_Vv F (kcX3_addNumber m13 (m13.1 _ _) hw) (cIds_in (show ckd 8 = 1 ∧ 8 < 353 by decide).2) (cePaper (show ckd 8 = 1 ∧ 8 < 353 by decide).1) (ci := 1) rfl (bV wd558 wd559 wd909 wd5 wd560) rfl ⟨rfl, rfl⟩ ydX3_addNumber (rmK_le hR (by omega) (by decide)) (av := [iV ((I10 a1 1))]) rfl rfl (Nat.le_of_ble_eq_true rfl) dX3_show_24 (rmK_cs hR (by omega) (by omega)) (fun I15 R16 m18 hw => ?_)
  refine q_aload_n F 0 dX3_show_27 rfl rfl ?_
  refine q_aload_n F 1 dX3_show_28 rfl rfl ?_
  refine t_g_Puzzle_highest F (kP0 ha1) ib4 wd175 dX3_show_29 ?_
  refine q_Vv F (kcX3_addNumber m18 (m18.1 _ _) hw) (cIds_in (show ckd 8 = 1 ∧ 8 < 353 by decide).2) (cePaper (show ckd 8 = 1 ∧ 8 < 353 by decide).1) (ci := 1) rfl (bV wd558 wd559 wd909 wd5 wd560) rfl ⟨rfl, rfl⟩ ydX3_addNumber (rmK_le hR (by omega) (by decide)) (av := [iV ((I15 a1 2))]) rfl rfl (Nat.le_of_ble_eq_true rfl) dX3_show_32 (rmK_cs hR (by omega) (by omega)) (fun I20 R21 m23 hw => ?_)
  refine q_aload_n F 0 dX3_show_35 rfl rfl ?_
  refine q_bipush F dX3_show_36 (by decide) ?_
  refine q_Vv F (kcX3_add m23 (⟨by decide, by decide⟩ : inR (59)) hw) (cIds_in (show ckd 8 = 1 ∧ 8 < 353 by decide).2) (cePaper (show ckd 8 = 1 ∧ 8 < 353 by decide).1) (ci := 1) rfl (bV wd555 wd556 wd908 wd5 wd557) rfl ⟨rfl, rfl⟩ ydX3_add (rmK_le hR (by omega) (by decide)) (av := [iV 59]) rfl rfl (Nat.le_of_ble_eq_true rfl) dX3_show_38 (rmK_cs hR (by omega) (by omega)) (fun I25 R26 m28 hw => ?_)
  refine q_iconst F dX3_show_41 ?_
  refine q_istore_n (lv' := [(0, .ref (E.1 8)), (1, .ref (E.1 a1)), (2, iV 0)]) F [1, 2, 0] dX3_show_42 rfl (q_n hN (by decide)) rfl ?_
  obtain ⟨n29, hw⟩ := hw
  exact bX3_show_43 F hR hN hret ha1 n29 0 I25 R26 (⟨by decide, by decide⟩ : inR (0)) m28 hw
theorem ydX11_write : yX11_write.cls = RX11 ∧ yX11_write.cls ≠ "java/lang/invoke/MethodHandle" ∧ yX11_write.cls ≠ "java/lang/invoke/VarHandle" ∧ (parseMethodDescriptor yX11_write.desc).map (fun d => d.parameters.length) = some 0 := by decide +kernel
def vX11_write : List Cond := Cond.code yX11_write cX11_write 1 (some .int) :: bG
set_option maxHeartbeats 4000000 in
set_option maxRecDepth 100000 in
theorem kcX11_write {l : Launch} {D : va_G} {E : cE} (hfl : l.stackTraces = false) (z : Nat) {Qx : Nat → cI → cR → Prop} (hz : z = 1 ∨ ∀ k I R, ¬ Qx k I R) {I : cI} {R : cR} (hm : cM I R)  {Q : Int → cI → cR → Prop} (hw : wX11_write  I R Q Qx) : gMx l D E cIds yX11_write vX11_write (rmK 8 (1 * z) (6 * z)) [.ref (E.1 0)] (cef E (I, R)) (cef E) (pI Q) (pX Qx) (1 * z) (6 * z) := by
  unfold wX11_write at hw
  refine k_ofWx hfl (own := RX11) (cc := cX11_write) (maxL := 1) (ret := (some .int)) (lv := [(0, .ref (E.1 0))]) (by decide) rfl rfl (Nat.le_of_ble_eq_true rfl) rfl ?_
  intro X hl hR hN hD F hX
  subst hl; subst hD
  have hret := mk_rIx (Q := Q) F hX
  refine q_aload_n F 0 dX11_write_0 rfl rfl ?_
  refine q_Vvx F hX (by omega) (by omega) (kcX11_requirePuzzle hX.2.2.2.2 z hz hm hw) (cIds_in (show ckd 0 = 9 ∧ 0 < 353 by decide).2) (ceMill (show ckd 0 = 9 ∧ 0 < 353 by decide).1) (ci := 9) rfl (bV wd529 wd530 wd906 wd1 wd531) rfl ⟨rfl, rfl⟩ ydX11_requirePuzzle (rmK_le hR (by omega) (by decide)) (av := []) rfl rfl (Nat.le_of_ble_eq_true rfl) dX11_write_1 (rmK_cs hR (by omega) (by omega)) (fun I2 R3 m5 hw => ?_)
  refine q_aload_n F 0 dX11_write_4 rfl rfl ?_
  refine t_g_Mill_paper F (by decide) ib11 wd196 dX11_write_5 ?_
  refine q_aload_n F 0 dX11_write_8 rfl rfl ?_
  refine t_g_Mill_puzzle F (by decide) ib11 wd201 dX11_write_9 ?_
  refine q_Vv F (kcX3_show m5 (m5.2.1) hw) (cIds_in (show ckd 8 = 1 ∧ 8 < 353 by decide).2) (cePaper (show ckd 8 = 1 ∧ 8 < 353 by decide).1) (ci := 1) rfl (bV wd545 wd546 wd547 wd5 wd548) rfl ⟨rfl, rfl⟩ ydX3_show (rmK_le hR (by omega) (by decide)) (av := [.ref (E.1 ((R3 0 7)))]) rfl rfl (Nat.le_of_ble_eq_true rfl) dX11_write_12 (rmK_cs hR (by omega) (by omega)) (fun I7 R8 m10 hw => ?_)
  refine q_aload_n F 0 dX11_write_15 rfl rfl ?_
  refine t_g_Mill_paper F (by decide) ib11 wd196 dX11_write_16 ?_
  refine t_g_Paper_length F (by decide) ib3 wd76 dX11_write_19 ?_
  refine q_wide (nc' := 1 * z) (ns' := 6 * z) (by omega) (by omega) ?_
  exact hret _ _ _ _ _ _ dX11_write_22 (m10.1 _ _) m10 hw
theorem ydX11_byteAt : yX11_byteAt.cls = RX11 ∧ yX11_byteAt.cls ≠ "java/lang/invoke/MethodHandle" ∧ yX11_byteAt.cls ≠ "java/lang/invoke/VarHandle" ∧ (parseMethodDescriptor yX11_byteAt.desc).map (fun d => d.parameters.length) = some 1 := by decide +kernel
def vX11_byteAt : List Cond := Cond.code yX11_byteAt cX11_byteAt 2 (some .int) :: bG
set_option maxHeartbeats 4000000 in
set_option maxRecDepth 100000 in
theorem bX11_byteAt_15 {z : Nat} {X : xC} {E : cE} (F : mF X E RX11 cX11_byteAt bG) (hR : X.1.2.2.2 = rmK 7 (1 * z) (6 * z)) (hN : X.2.2.1.2.2.2 = 2) {Q : Int → cI → cR → Prop} {Qx : Nat → cI → cR → Prop} (hret : rI X E cX11_byteAt (1 * z) (6 * z) Q) (hX : kXx X E cIds (some .int) (cef E) (pI Q) (pX Qx) (1 * z) (6 * z)) (hz : z = 1 ∨ ∀ k I R, ¬ Qx k I R) {a1 : Int} (ha1 : inR a1) : ∀ (I : cI) (R : cR), cM I R → wX11_byteAt_15 Q Qx a1 I R → cW X (0) (0) 15 [] [] (gw E.1 cIds (cef E (I, R)) ++ []) := by
  intro I R hm hw
  unfold wX11_byteAt_15 at hw
  exact q_thr2 F hX hR (by decide) hz 4 (by decide) wd459 rfl dX11_byteAt_15 dX11_byteAt_18 dX11_byteAt_19 dX11_byteAt_21 dX11_byteAt_24 (fun hz1 => by omega) (fun hz1 => by omega) hm hw
set_option maxHeartbeats 4000000 in
set_option maxRecDepth 100000 in
theorem kcX11_byteAt {l : Launch} {D : va_G} {E : cE} (hfl : l.stackTraces = false) (z : Nat) {Qx : Nat → cI → cR → Prop} (hz : z = 1 ∨ ∀ k I R, ¬ Qx k I R) {a1 : Int} {I : cI} {R : cR} (hm : cM I R) (ha1 : inR a1) {Q : Int → cI → cR → Prop} (hw : wX11_byteAt a1 I R Q Qx) : gMx l D E cIds yX11_byteAt vX11_byteAt (rmK 7 (1 * z) (6 * z)) [.ref (E.1 0), iV a1] (cef E (I, R)) (cef E) (pI Q) (pX Qx) (1 * z) (6 * z) := by
  unfold wX11_byteAt at hw
  refine k_ofWx hfl (own := RX11) (cc := cX11_byteAt) (maxL := 2) (ret := (some .int)) (lv := [(0, .ref (E.1 0)), (1, iV a1)]) (by decide) rfl rfl (Nat.le_of_ble_eq_true rfl) rfl ?_
  intro X hl hR hN hD F hX
  subst hl; subst hD
  have hret := mk_rIx (Q := Q) F hX
  refine q_iload_n F 1 dX11_byteAt_0 rfl rfl ?_
  refine q_if_lt F ha1 15 dX11_byteAt_1 (by decide) (fun hc => ?_) (fun hc => ?_)
  · have hw := hw.1 hc
    refine q_lv [] rfl ?_
    exact bX11_byteAt_15 F hR hN hret hX hz ha1 I R hm hw
  · have hw := hw.2 hc
    refine q_iload_n F 1 dX11_byteAt_4 rfl rfl ?_
    refine q_aload_n F 0 dX11_byteAt_5 rfl rfl ?_
    refine t_g_Mill_paper F (by decide) ib11 wd196 dX11_byteAt_6 ?_
    refine t_g_Paper_length F (by decide) ib3 wd76 dX11_byteAt_9 ?_
    refine q_icmp_lt F ha1 (hm.1 _ _) 25 dX11_byteAt_12 (by decide) (fun hc => ?_) (fun hc => ?_)
    · have hw := hw.1 hc
      refine q_aload_n F 0 dX11_byteAt_25 rfl rfl ?_
      refine t_g_Mill_paper F (by decide) ib11 wd196 dX11_byteAt_26 ?_
      refine t_g_Paper_bytes F (by decide) ib3 wd74 9 rfl dX11_byteAt_29 ?_
      refine q_iload_n F 1 dX11_byteAt_32 rfl rfl ?_
      obtain ⟨k1, hw⟩ := hw
      refine t_ald F 1980 kA_9 k1 (by decide) dX11_byteAt_33 ?_
      refine q_wide (nc' := 1 * z) (ns' := 6 * z) (by omega) (by omega) ?_
      exact hret _ _ _ _ _ _ dX11_byteAt_34 (hm.1 _ _) hm hw
    · have hw := hw.2 hc
      refine q_lv [] rfl ?_
      exact bX11_byteAt_15 F hR hN hret hX hz ha1 I R hm hw
theorem ydX11_requireCell : yX11_requireCell.cls = RX11 ∧ yX11_requireCell.cls ≠ "java/lang/invoke/MethodHandle" ∧ yX11_requireCell.cls ≠ "java/lang/invoke/VarHandle" ∧ (parseMethodDescriptor yX11_requireCell.desc).map (fun d => d.parameters.length) = some 1 := by decide +kernel
def vX11_requireCell : List Cond := Cond.code yX11_requireCell cX11_requireCell 2 none :: bG
set_option maxHeartbeats 4000000 in
set_option maxRecDepth 100000 in
theorem bX11_requireCell_15 {z : Nat} {X : xC} {E : cE} (F : mF X E RX11 cX11_requireCell bG) (hR : X.1.2.2.2 = rmK 7 (1 * z) (6 * z)) (hN : X.2.2.1.2.2.2 = 2) {Q : cI → cR → Prop} {Qx : Nat → cI → cR → Prop} (hret : rV X E cX11_requireCell (1 * z) (6 * z) Q) (hX : kXx X E cIds none (cef E) (pV Q) (pX Qx) (1 * z) (6 * z)) (hz : z = 1 ∨ ∀ k I R, ¬ Qx k I R) {a1 : Int} (ha1 : inR a1) : ∀ (I : cI) (R : cR), cM I R → wX11_requireCell_15 Q Qx a1 I R → cW X (0) (0) 15 [] [] (gw E.1 cIds (cef E (I, R)) ++ []) := by
  intro I R hm hw
  unfold wX11_requireCell_15 at hw
  exact q_thrW2 F hX hR (by decide) hz 14 (by decide) wd459 rfl dX11_requireCell_15 dX11_requireCell_18 dX11_requireCell_19 dX11_requireCell_22 dX11_requireCell_25 (fun hz1 => by omega) (fun hz1 => by omega) hm hw
set_option maxHeartbeats 4000000 in
set_option maxRecDepth 100000 in
theorem kcX11_requireCell {l : Launch} {D : va_G} {E : cE} (hfl : l.stackTraces = false) (z : Nat) {Qx : Nat → cI → cR → Prop} (hz : z = 1 ∨ ∀ k I R, ¬ Qx k I R) {a1 : Int} {I : cI} {R : cR} (hm : cM I R) (ha1 : inR a1) {Q : cI → cR → Prop} (hw : wX11_requireCell a1 I R Q Qx) : gMx l D E cIds yX11_requireCell vX11_requireCell (rmK 7 (1 * z) (6 * z)) [.ref (E.1 0), iV a1] (cef E (I, R)) (cef E) (pV Q) (pX Qx) (1 * z) (6 * z) := by
  unfold wX11_requireCell at hw
  refine k_ofWx hfl (own := RX11) (cc := cX11_requireCell) (maxL := 2) (ret := none) (lv := [(0, .ref (E.1 0)), (1, iV a1)]) (by decide) rfl rfl (Nat.le_of_ble_eq_true rfl) rfl ?_
  intro X hl hR hN hD F hX
  subst hl; subst hD
  have hret := mk_rVx (Q := Q) F hX
  refine q_iload_n F 1 dX11_requireCell_0 rfl rfl ?_
  refine q_if_lt F ha1 15 dX11_requireCell_1 (by decide) (fun hc => ?_) (fun hc => ?_)
  · have hw := hw.1 hc
    refine q_lv [] rfl ?_
    exact bX11_requireCell_15 F hR hN hret hX hz ha1 I R hm hw
  · have hw := hw.2 hc
    refine q_iload_n F 1 dX11_requireCell_4 rfl rfl ?_
    refine q_aload_n F 0 dX11_requireCell_5 rfl rfl ?_
    refine t_g_Mill_puzzle F (by decide) ib11 wd201 dX11_requireCell_6 ?_
    refine q_Vi F (kcX4_cellCount hm (hm.2.1) hw) (cIds_in (kP0 (hm.2.1)).2) (cePuzzle (kP0 (hm.2.1)).1) (ci := 2) rfl (bV wd580 wd404 wd405 wd9 wd406) rfl ⟨rfl, rfl⟩ ydX4_cellCount (rmK_le hR (by omega) (by decide)) (av := []) rfl rfl (Nat.le_of_ble_eq_true rfl) dX11_requireCell_9 (rmK_cs hR (by omega) (by omega)) (fun r1 I2 R3 h4 m5 hw => ?_)
    refine q_icmp_lt F ha1 h4 26 dX11_requireCell_12 (by decide) (fun hc => ?_) (fun hc => ?_)
    · have hw := hw.1 hc
      refine q_wide (nc' := 1 * z) (ns' := 6 * z) (by omega) (by omega) ?_
      exact hret _ _ _ _ _ dX11_requireCell_26 m5 hw
    · have hw := hw.2 hc
      refine q_lv [] rfl ?_
      exact bX11_requireCell_15 F hR hN hret hX hz ha1 I2 R3 m5 hw
theorem ydX11_put : yX11_put.cls = RX11 ∧ yX11_put.cls ≠ "java/lang/invoke/MethodHandle" ∧ yX11_put.cls ≠ "java/lang/invoke/VarHandle" ∧ (parseMethodDescriptor yX11_put.desc).map (fun d => d.parameters.length) = some 2 := by decide +kernel
def vX11_put : List Cond := Cond.code yX11_put cX11_put 4 (some .int) :: bG
set_option maxHeartbeats 4000000 in
set_option maxRecDepth 100000 in
theorem bX11_put_20 {z : Nat} {X : xC} {E : cE} (F : mF X E RX11 cX11_put bG) (hR : X.1.2.2.2 = rmK 8 (2 * z) (12 * z)) (hN : X.2.2.1.2.2.2 = 4) {Q : Int → cI → cR → Prop} {Qx : Nat → cI → cR → Prop} (hret : rI X E cX11_put (2 * z) (12 * z) Q) (hX : kXx X E cIds (some .int) (cef E) (pI Q) (pX Qx) (2 * z) (12 * z)) (hz : z = 1 ∨ ∀ k I R, ¬ Qx k I R) {a1 : Int} {a2 : Int} (ha1 : inR a1) (ha2 : inR a2) : ∀ (I : cI) (R : cR), cM I R → wX11_put_20 Q Qx a1 a2 I R → cW X (0 + 1 * z) (0 + 6 * z) 20 [] [] (gw E.1 cIds (cef E (I, R)) ++ []) := by
  intro I R hm hw
  unfold wX11_put_20 at hw
  exact q_thr1 F hX hR (by decide) hz 5 (by decide) wd582 rfl dX11_put_20 dX11_put_23 dX11_put_24 dX11_put_26 dX11_put_29 (fun hz1 => by omega) (fun hz1 => by omega) hm hw
set_option maxHeartbeats 4000000 in
set_option maxRecDepth 100000 in
theorem kcX11_put {l : Launch} {D : va_G} {E : cE} (hfl : l.stackTraces = false) (z : Nat) {Qx : Nat → cI → cR → Prop} (hz : z = 1 ∨ ∀ k I R, ¬ Qx k I R) {a1 : Int} {a2 : Int} {I : cI} {R : cR} (hm : cM I R) (ha1 : inR a1) (ha2 : inR a2) {Q : Int → cI → cR → Prop} (hw : wX11_put a1 a2 I R Q Qx) : gMx l D E cIds yX11_put vX11_put (rmK 8 (2 * z) (12 * z)) [.ref (E.1 0), iV a1, iV a2] (cef E (I, R)) (cef E) (pI Q) (pX Qx) (2 * z) (12 * z) := by
  unfold wX11_put at hw
  refine k_ofWx hfl (own := RX11) (cc := cX11_put) (maxL := 4) (ret := (some .int)) (lv := [(0, .ref (E.1 0)), (1, iV a1), (2, iV a2)]) (by decide) rfl rfl (Nat.le_of_ble_eq_true rfl) rfl ?_
  intro X hl hR hN hD F hX
  subst hl; subst hD
  have hret := mk_rIx (Q := Q) F hX
  refine q_aload_n F 0 dX11_put_0 rfl rfl ?_
  refine q_iload_n F 1 dX11_put_1 rfl rfl ?_
  refine q_Vvx F hX (by omega) (by omega) (kcX11_requireCell hX.2.2.2.2 z hz hm ha1 hw) (cIds_in (show ckd 0 = 9 ∧ 0 < 353 by decide).2) (ceMill (show ckd 0 = 9 ∧ 0 < 353 by decide).1) (ci := 9) rfl (bV wd577 wd578 wd912 wd1 wd579) rfl ⟨rfl, rfl⟩ ydX11_requireCell (rmK_le hR (by omega) (by decide)) (av := [iV a1]) rfl rfl (Nat.le_of_ble_eq_true rfl) dX11_put_2 (rmK_cs hR (by omega) (by omega)) (fun I2 R3 m5 hw => ?_)
  refine q_iload_n F 2 dX11_put_5 rfl rfl ?_
  refine q_if_lt F ha2 20 dX11_put_6 (by decide) (fun hc => ?_) (fun hc => ?_)
  · have hw := hw.1 hc
    refine q_lv [] rfl ?_
    exact bX11_put_20 F hR hN hret hX hz ha1 ha2 I2 R3 m5 hw
  · have hw := hw.2 hc
    refine q_iload_n F 2 dX11_put_9 rfl rfl ?_
    refine q_aload_n F 0 dX11_put_10 rfl rfl ?_
    refine t_g_Mill_puzzle F (by decide) ib11 wd201 dX11_put_11 ?_
    refine t_g_Puzzle_highest F (kP0 (m5.2.1)) ib4 wd178 dX11_put_14 ?_
    refine q_icmp_le F ha2 (m5.1 _ _) 30 dX11_put_17 (by decide) (fun hc => ?_) (fun hc => ?_)
    · have hw := hw.1 hc
      refine q_aload_n F 0 dX11_put_30 rfl rfl ?_
      refine t_g_Mill_puzzle F (by decide) ib11 wd201 dX11_put_31 ?_
      refine t_g_Puzzle_grid F (kP0 (m5.2.1)) ib4 wd183 ((R3 0 7) + 1) rfl dX11_put_34 ?_
      refine q_iload_n F 1 dX11_put_37 rfl rfl ?_
      obtain ⟨k6, hw⟩ := hw
      refine t_ald F 25 (kP1 (m5.2.1)) k6 (by decide) dX11_put_38 ?_
      obtain ⟨z7, e8⟩ := ex1 ((I2 ((R3 0 7) + 1) a1))
      have hw := hw z7 e8
      have hz7 : inR z7 := by rw [e8]; exact (m5.1 _ _)
      refine q_top e8 ?_
      refine q_istore_n (lv' := [(0, .ref (E.1 0)), (1, iV a1), (2, iV a2), (3, iV z7)]) F [1, 2, 3, 0] dX11_put_39 rfl (q_n hN (by decide)) rfl ?_
      refine q_aload_n F 0 dX11_put_40 rfl rfl ?_
      refine t_g_Mill_puzzle F (by decide) ib11 wd201 dX11_put_41 ?_
      refine t_g_Puzzle_grid F (kP0 (m5.2.1)) ib4 wd183 ((R3 0 7) + 1) rfl dX11_put_44 ?_
      refine q_iload_n F 1 dX11_put_47 rfl rfl ?_
      refine q_iload_n F 2 dX11_put_48 rfl rfl ?_
      obtain ⟨k9, hw⟩ := hw
      obtain ⟨I10, e11⟩ := ex1 (up2 I2 ((R3 0 7) + 1) a1 a2)
      have hw := hw I10 e11
      have m12 : cM I10 R3 := cM_I m5 e11 ha2
      refine t_ast F 25 (kP1 (m5.2.1)) k9 (by decide) e11 dX11_put_49 ?_
      refine q_iload_n F 3 dX11_put_50 rfl rfl ?_
      refine q_wide (nc' := 2 * z) (ns' := 12 * z) (by omega) (by omega) ?_
      exact hret _ _ _ _ _ _ dX11_put_51 hz7 m12 hw
    · have hw := hw.2 hc
      refine q_lv [] rfl ?_
      exact bX11_put_20 F hR hN hret hX hz ha1 ha2 I2 R3 m5 hw
theorem ydX11_value : yX11_value.cls = RX11 ∧ yX11_value.cls ≠ "java/lang/invoke/MethodHandle" ∧ yX11_value.cls ≠ "java/lang/invoke/VarHandle" ∧ (parseMethodDescriptor yX11_value.desc).map (fun d => d.parameters.length) = some 1 := by decide +kernel
def vX11_value : List Cond := Cond.code yX11_value cX11_value 2 (some .int) :: bG
set_option maxHeartbeats 4000000 in
set_option maxRecDepth 100000 in
theorem kcX11_value {l : Launch} {D : va_G} {E : cE} (hfl : l.stackTraces = false) (z : Nat) {Qx : Nat → cI → cR → Prop} (hz : z = 1 ∨ ∀ k I R, ¬ Qx k I R) {a1 : Int} {I : cI} {R : cR} (hm : cM I R) (ha1 : inR a1) {Q : Int → cI → cR → Prop} (hw : wX11_value a1 I R Q Qx) : gMx l D E cIds yX11_value vX11_value (rmK 8 (1 * z) (6 * z)) [.ref (E.1 0), iV a1] (cef E (I, R)) (cef E) (pI Q) (pX Qx) (1 * z) (6 * z) := by
  unfold wX11_value at hw
  refine k_ofWx hfl (own := RX11) (cc := cX11_value) (maxL := 2) (ret := (some .int)) (lv := [(0, .ref (E.1 0)), (1, iV a1)]) (by decide) rfl rfl (Nat.le_of_ble_eq_true rfl) rfl ?_
  intro X hl hR hN hD F hX
  subst hl; subst hD
  have hret := mk_rIx (Q := Q) F hX
  refine q_aload_n F 0 dX11_value_0 rfl rfl ?_
  refine q_iload_n F 1 dX11_value_1 rfl rfl ?_
  refine q_Vvx F hX (by omega) (by omega) (kcX11_requireCell hX.2.2.2.2 z hz hm ha1 hw) (cIds_in (show ckd 0 = 9 ∧ 0 < 353 by decide).2) (ceMill (show ckd 0 = 9 ∧ 0 < 353 by decide).1) (ci := 9) rfl (bV wd577 wd578 wd912 wd1 wd579) rfl ⟨rfl, rfl⟩ ydX11_requireCell (rmK_le hR (by omega) (by decide)) (av := [iV a1]) rfl rfl (Nat.le_of_ble_eq_true rfl) dX11_value_2 (rmK_cs hR (by omega) (by omega)) (fun I2 R3 m5 hw => ?_)
  refine q_aload_n F 0 dX11_value_5 rfl rfl ?_
  refine t_g_Mill_puzzle F (by decide) ib11 wd201 dX11_value_6 ?_
  refine t_g_Puzzle_grid F (kP0 (m5.2.1)) ib4 wd183 ((R3 0 7) + 1) rfl dX11_value_9 ?_
  refine q_iload_n F 1 dX11_value_12 rfl rfl ?_
  obtain ⟨k6, hw⟩ := hw
  refine t_ald F 25 (kP1 (m5.2.1)) k6 (by decide) dX11_value_13 ?_
  refine q_wide (nc' := 1 * z) (ns' := 6 * z) (by omega) (by omega) ?_
  exact hret _ _ _ _ _ _ dX11_value_14 (m5.1 _ _) m5 hw
theorem ydX8_begin : yX8_begin.cls = RX8 ∧ yX8_begin.cls ≠ "java/lang/invoke/MethodHandle" ∧ yX8_begin.cls ≠ "java/lang/invoke/VarHandle" ∧ (parseMethodDescriptor yX8_begin.desc).map (fun d => d.parameters.length) = some 2 := by decide +kernel
def vX8_begin : List Cond := Cond.code yX8_begin cX8_begin 4 none :: bG
set_option maxHeartbeats 4000000 in
set_option maxRecDepth 100000 in
theorem bX8_begin_27 {X : xC} {E : cE} (F : mF X E RX8 cX8_begin bG) (hR : X.1.2.2.2 = rmK 1 (0) (0)) (hN : X.2.2.1.2.2.2 = 4) {Q : cI → cR → Prop} (hret : rV X E cX8_begin (0) (0) Q) {s0 : Nat} {a1 : Int} {a2 : Int} (hs0 : isS s0) (ha1 : inR a1) (ha2 : inR a2) : ∀ n27 : Nat, ∀ (x3 : Int) (I : cI) (R : cR), inR x3 → cM I R → wX8_begin_27 Q s0 a1 a2 n27 x3 I R → cW X (0) (0) 27 [(0, .ref (E.1 s0)), (3, iV x3)] [] (gw E.1 cIds (cef E (I, R)) ++ []) := by
  intro n27
  induction n27 with
  | zero => intro x3 I R hx3 hm hw; exact hw.elim
  | succ n27 ih =>
    intro x3 I R hx3 hm hw
    change wbX8_begin_27 Q s0 a1 a2 (wX8_begin_27 Q s0 a1 a2 n27) x3 I R at hw
    unfold wbX8_begin_27 at hw
    refine q_iload_n F 1 dX8_begin_27 rfl rfl ?_
    refine q_bipush F dX8_begin_28 (by decide) ?_
    refine q_icmp_ge F hx3 (⟨by decide, by decide⟩ : inR (25)) 60 dX8_begin_30 (by decide) (fun hc => ?_) (fun hc => ?_)
    · have hw := hw.1 hc
      exact hret _ _ _ _ _ dX8_begin_60 hm hw
    · have hw := hw.2 hc
      refine q_aload_n F 0 dX8_begin_33 rfl rfl ?_
      refine t_g_Search_values F (kS0 hs0) ib8 wd92 (s0 + 2) rfl dX8_begin_34 ?_
      refine q_iload_n F 1 dX8_begin_37 rfl rfl ?_
      refine q_iconst F dX8_begin_38 ?_
      obtain ⟨k1, hw⟩ := hw
      obtain ⟨I2, e3⟩ := ex1 (up2 I (s0 + 2) x3 0)
      have hw := hw I2 e3
      have m4 : cM I2 R := cM_I hm e3 (⟨by decide, by decide⟩ : inR (0))
      refine t_ast F 25 (kS2 hs0) k1 (by decide) e3 dX8_begin_39 ?_
      refine q_aload_n F 0 dX8_begin_40 rfl rfl ?_
      refine t_g_Search_only F (kS0 hs0) ib8 wd93 (s0 + 3) rfl dX8_begin_41 ?_
      refine q_iload_n F 1 dX8_begin_44 rfl rfl ?_
      refine q_iconst F dX8_begin_45 ?_
      obtain ⟨k5, hw⟩ := hw
      obtain ⟨I6, e7⟩ := ex1 (up2 I2 (s0 + 3) x3 0)
      have hw := hw I6 e7
      have m8 : cM I6 R := cM_I m4 e7 (⟨by decide, by decide⟩ : inR (0))
      refine t_ast F 25 (kS3 hs0) k5 (by decide) e7 dX8_begin_46 ?_
      refine q_aload_n F 0 dX8_begin_47 rfl rfl ?_
      refine t_g_Search_first F (kS0 hs0) ib8 wd94 (s0 + 4) rfl dX8_begin_48 ?_
      refine q_iload_n F 1 dX8_begin_51 rfl rfl ?_
      refine q_iconst F dX8_begin_52 ?_
      obtain ⟨k9, hw⟩ := hw
      obtain ⟨I10, e11⟩ := ex1 (up2 I6 (s0 + 4) x3 1)
      have hw := hw I10 e11
      have m12 : cM I10 R := cM_I m8 e11 (⟨by decide, by decide⟩ : inR (1))
      refine t_ast F 25 (kS4 hs0) k9 (by decide) e11 dX8_begin_53 ?_
      obtain ⟨k15, hw⟩ := hw
      obtain ⟨z13, e14⟩ := ex1 (x3 + 1)
      have hw := hw z13 e14
      have hz13 : inR z13 := by rw [e14]; exact k15
      refine q_iinc (lv' := [(0, .ref (E.1 s0)), (3, iV z13)]) F 1 [1, 0] dX8_begin_54 rfl (q_n hN (by decide)) e14.symm rfl ?_
      refine q_goto F 27 dX8_begin_57 (by decide) ?_
      exact ih z13 I10 R hz13 m12 hw
set_option maxHeartbeats 4000000 in
set_option maxRecDepth 100000 in
theorem kcX8_begin {l : Launch} {D : va_G} {E : cE} {s0 : Nat} {a1 : Int} {a2 : Int} {I : cI} {R : cR} (hm : cM I R) (hs0 : isS s0) (ha1 : inR a1) (ha2 : inR a2) {Q : cI → cR → Prop} (hw : wX8_begin s0 a1 a2 I R Q) : gM l D E cIds yX8_begin vX8_begin (rmK 1 (0) (0)) [.ref (E.1 s0), iV a1, iV a2] (cef E (I, R)) (cef E) (pV Q) (0) (0) := by
  unfold wX8_begin at hw
  refine k_ofW (own := RX8) (cc := cX8_begin) (maxL := 4) (ret := none) (lv := [(0, .ref (E.1 s0)), (1, iV a1), (2, iV a2)]) (by decide) rfl rfl (Nat.le_of_ble_eq_true rfl) rfl ?_
  intro X hl hR hN hD F K
  subst hl; subst hD
  have hret := mk_rV (Q := Q) F K
  refine q_aload_n F 0 dX8_begin_0 rfl rfl ?_
  refine q_iload_n F 1 dX8_begin_1 rfl rfl ?_
  obtain ⟨I1, e2⟩ := ex1 (up2 I s0 7 a1)
  have hw := hw I1 e2
  have m3 : cM I1 R := cM_I hm e2 ha1
  refine t_p_Search_most F (kS0 hs0) ib8 wd96 e2 dX8_begin_2 ?_
  refine q_aload_n F 0 dX8_begin_5 rfl rfl ?_
  refine q_iload_n F 2 dX8_begin_6 rfl rfl ?_
  obtain ⟨I4, e5⟩ := ex1 (up2 I1 s0 6 a2)
  have hw := hw I4 e5
  have m6 : cM I4 R := cM_I m3 e5 ha2
  refine t_p_Search_without F (kS0 hs0) ib8 wd95 e5 dX8_begin_7 ?_
  refine q_aload_n F 0 dX8_begin_10 rfl rfl ?_
  refine q_iconst F dX8_begin_11 ?_
  obtain ⟨I7, e8⟩ := ex1 (up2 I4 s0 1 0)
  have hw := hw I7 e8
  have m9 : cM I7 R := cM_I m6 e8 (⟨by decide, by decide⟩ : inR (0))
  refine t_p_Search_found F (kS0 hs0) ib8 wd88 e8 dX8_begin_12 ?_
  refine q_aload_n F 0 dX8_begin_15 rfl rfl ?_
  refine q_iconst F dX8_begin_16 ?_
  obtain ⟨I10, e11⟩ := ex1 (up2 I7 s0 2 0)
  have hw := hw I10 e11
  have m12 : cM I10 R := cM_I m9 e11 (⟨by decide, by decide⟩ : inR (0))
  refine t_p_Search_tries F (kS0 hs0) ib8 wd90 e11 dX8_begin_17 ?_
  refine q_aload_n F 0 dX8_begin_20 rfl rfl ?_
  refine q_iconst F dX8_begin_21 ?_
  obtain ⟨I13, e14⟩ := ex1 (up2 I10 s0 8 0)
  have hw := hw I13 e14
  have m15 : cM I13 R := cM_I m12 e14 (⟨by decide, by decide⟩ : inR (0))
  refine t_p_Search_hasGivenUp F (kS0 hs0) ib8 wd97 (Or.inl rfl) e14 dX8_begin_22 ?_
  refine q_iconst F dX8_begin_25 ?_
  refine q_istore_n (lv' := [(0, .ref (E.1 s0)), (1, iV a1), (2, iV a2), (3, iV 0)]) F [1, 2, 3, 0] dX8_begin_26 rfl (q_n hN (by decide)) rfl ?_
  refine q_lv [0, 3] rfl ?_
  obtain ⟨n16, hw⟩ := hw
  exact bX8_begin_27 F hR hN hret hs0 ha1 ha2 n16 0 I13 R (⟨by decide, by decide⟩ : inR (0)) m15 hw
theorem ydX8_keep : yX8_keep.cls = RX8 ∧ yX8_keep.cls ≠ "java/lang/invoke/MethodHandle" ∧ yX8_keep.cls ≠ "java/lang/invoke/VarHandle" ∧ (parseMethodDescriptor yX8_keep.desc).map (fun d => d.parameters.length) = some 0 := by decide +kernel
def vX8_keep : List Cond := Cond.code yX8_keep cX8_keep 2 none :: bG
set_option maxHeartbeats 4000000 in
set_option maxRecDepth 100000 in
theorem bX8_keep_14 {X : xC} {E : cE} (F : mF X E RX8 cX8_keep bG) (hR : X.1.2.2.2 = rmK 1 (0) (0)) (hN : X.2.2.1.2.2.2 = 2) {Q : cI → cR → Prop} (hret : rV X E cX8_keep (0) (0) Q) {s0 : Nat} (hs0 : isS s0) : ∀ n14 : Nat, ∀ (x1 : Int) (I : cI) (R : cR), inR x1 → cM I R → wX8_keep_14 Q s0 n14 x1 I R → cW X (0) (0) 14 [(0, .ref (E.1 s0)), (1, iV x1)] [] (gw E.1 cIds (cef E (I, R)) ++ []) := by
  intro n14
  induction n14 with
  | zero => intro x1 I R hx1 hm hw; exact hw.elim
  | succ n14 ih =>
    intro x1 I R hx1 hm hw
    change wbX8_keep_14 Q s0 (wX8_keep_14 Q s0 n14) x1 I R at hw
    unfold wbX8_keep_14 at hw
    refine q_iload_n F 1 dX8_keep_14 rfl rfl ?_
    refine q_bipush F dX8_keep_15 (by decide) ?_
    refine q_icmp_ge F hx1 (⟨by decide, by decide⟩ : inR (25)) 43 dX8_keep_17 (by decide) (fun hc => ?_) (fun hc => ?_)
    · have hw := hw.1 hc
      refine q_aload_n F 0 dX8_keep_43 rfl rfl ?_
      refine q_dup F dX8_keep_44 rfl ?_
      refine t_g_Search_found F (kS0 hs0) ib8 wd88 dX8_keep_45 ?_
      refine q_iconst F dX8_keep_48 ?_
      refine q_iadd F dX8_keep_49 ?_
      obtain ⟨k1, hw⟩ := hw
      obtain ⟨I2, e3⟩ := ex1 (up2 I s0 1 (((I s0 1) + 1)))
      have hw := hw I2 e3
      have m4 : cM I2 R := cM_I hm e3 k1
      refine t_p_Search_found F (kS0 hs0) ib8 wd88 e3 dX8_keep_50 ?_
      exact hret _ _ _ _ _ dX8_keep_53 m4 hw
    · have hw := hw.2 hc
      refine q_aload_n F 0 dX8_keep_20 rfl rfl ?_
      refine t_g_Search_solutions F (kS0 hs0) ib8 wd85 (s0 + 1) rfl dX8_keep_21 ?_
      refine q_aload_n F 0 dX8_keep_24 rfl rfl ?_
      refine t_g_Search_found F (kS0 hs0) ib8 wd88 dX8_keep_25 ?_
      obtain ⟨k5, hw⟩ := hw
      refine t_qld F (kS1 hs0) k5 (s0 + 5 + Int.toNat ((I s0 1))) (by omega) dX8_keep_28 ?_
      refine q_iload_n F 1 dX8_keep_29 rfl rfl ?_
      refine q_aload_n F 0 dX8_keep_30 rfl rfl ?_
      refine t_g_Search_values F (kS0 hs0) ib8 wd92 (s0 + 2) rfl dX8_keep_31 ?_
      refine q_iload_n F 1 dX8_keep_34 rfl rfl ?_
      obtain ⟨k6, hw⟩ := hw
      refine t_ald F 25 (kS2 hs0) k6 (by decide) dX8_keep_35 ?_
      obtain ⟨k7, hw⟩ := hw
      obtain ⟨I8, e9⟩ := ex1 (up2 I ((s0 + 5 + Int.toNat ((I s0 1)))) x1 ((I (s0 + 2) x1)))
      have hw := hw I8 e9
      have m10 : cM I8 R := cM_I hm e9 (hm.1 _ _)
      refine t_ast F 25 (kS5 hs0 k5) k7 (by decide) e9 dX8_keep_36 ?_
      obtain ⟨k13, hw⟩ := hw
      obtain ⟨z11, e12⟩ := ex1 (x1 + 1)
      have hw := hw z11 e12
      have hz11 : inR z11 := by rw [e12]; exact k13
      refine q_iinc (lv' := [(0, .ref (E.1 s0)), (1, iV z11)]) F 1 [1, 0] dX8_keep_37 rfl (q_n hN (by decide)) e12.symm rfl ?_
      refine q_goto F 14 dX8_keep_40 (by decide) ?_
      exact ih z11 I8 R hz11 m10 hw
set_option maxHeartbeats 4000000 in
set_option maxRecDepth 100000 in
theorem kcX8_keep {l : Launch} {D : va_G} {E : cE} {s0 : Nat} {I : cI} {R : cR} (hm : cM I R) (hs0 : isS s0) {Q : cI → cR → Prop} (hw : wX8_keep s0 I R Q) : gM l D E cIds yX8_keep vX8_keep (rmK 1 (0) (0)) [.ref (E.1 s0)] (cef E (I, R)) (cef E) (pV Q) (0) (0) := by
  unfold wX8_keep at hw
  refine k_ofW (own := RX8) (cc := cX8_keep) (maxL := 2) (ret := none) (lv := [(0, .ref (E.1 s0))]) (by decide) rfl rfl (Nat.le_of_ble_eq_true rfl) rfl ?_
  intro X hl hR hN hD F K
  subst hl; subst hD
  have hret := mk_rV (Q := Q) F K
  refine q_aload_n F 0 dX8_keep_0 rfl rfl ?_
  refine t_g_Search_found F (kS0 hs0) ib8 wd88 dX8_keep_1 ?_
  refine q_aload_n F 0 dX8_keep_4 rfl rfl ?_
  refine t_g_Search_solutions F (kS0 hs0) ib8 wd85 (s0 + 1) rfl dX8_keep_5 ?_
  refine t_qlen F (kS1 hs0) dX8_keep_8 ?_
  refine q_icmp_ge F (hm.1 _ _) (⟨by decide, by decide⟩ : inR (30)) 53 dX8_keep_9 (by decide) (fun hc => ?_) (fun hc => ?_)
  · have hw := hw.1 hc
    exact hret _ _ _ _ _ dX8_keep_53 hm hw
  · have hw := hw.2 hc
    refine q_iconst F dX8_keep_12 ?_
    refine q_istore_n (lv' := [(0, .ref (E.1 s0)), (1, iV 0)]) F [1, 0] dX8_keep_13 rfl (q_n hN (by decide)) rfl ?_
    obtain ⟨n1, hw⟩ := hw
    exact bX8_keep_14 F hR hN hret hs0 n1 0 I R (⟨by decide, by decide⟩ : inR (0)) hm hw
theorem ydX8_giveUp : yX8_giveUp.cls = RX8 ∧ yX8_giveUp.cls ≠ "java/lang/invoke/MethodHandle" ∧ yX8_giveUp.cls ≠ "java/lang/invoke/VarHandle" ∧ (parseMethodDescriptor yX8_giveUp.desc).map (fun d => d.parameters.length) = some 0 := by decide +kernel
def vX8_giveUp : List Cond := Cond.code yX8_giveUp cX8_giveUp 1 none :: bG
set_option maxHeartbeats 4000000 in
set_option maxRecDepth 100000 in
theorem kcX8_giveUp {l : Launch} {D : va_G} {E : cE} {s0 : Nat} {I : cI} {R : cR} (hm : cM I R) (hs0 : isS s0) {Q : cI → cR → Prop} (hw : wX8_giveUp s0 I R Q) : gM l D E cIds yX8_giveUp vX8_giveUp (rmK 1 (0) (0)) [.ref (E.1 s0)] (cef E (I, R)) (cef E) (pV Q) (0) (0) := by
  unfold wX8_giveUp at hw
  refine k_ofW (own := RX8) (cc := cX8_giveUp) (maxL := 1) (ret := none) (lv := [(0, .ref (E.1 s0))]) (by decide) rfl rfl (Nat.le_of_ble_eq_true rfl) rfl ?_
  intro X hl hR hN hD F K
  subst hl; subst hD
  have hret := mk_rV (Q := Q) F K
  refine q_aload_n F 0 dX8_giveUp_0 rfl rfl ?_
  refine q_iconst F dX8_giveUp_1 ?_
  obtain ⟨I1, e2⟩ := ex1 (up2 I s0 8 1)
  have hw := hw I1 e2
  have m3 : cM I1 R := cM_I hm e2 (⟨by decide, by decide⟩ : inR (1))
  refine t_p_Search_hasGivenUp F (kS0 hs0) ib8 wd97 (Or.inr rfl) e2 dX8_giveUp_2 ?_
  refine q_aload_n F 0 dX8_giveUp_5 rfl rfl ?_
  refine q_iconst F dX8_giveUp_6 ?_
  obtain ⟨I4, e5⟩ := ex1 (up2 I1 s0 1 0)
  have hw := hw I4 e5
  have m6 : cM I4 R := cM_I m3 e5 (⟨by decide, by decide⟩ : inR (0))
  refine t_p_Search_found F (kS0 hs0) ib8 wd88 e5 dX8_giveUp_7 ?_
  exact hret _ _ _ _ _ dX8_giveUp_10 m6 hw
theorem ydX8_choice : yX8_choice.cls = RX8 ∧ yX8_choice.cls ≠ "java/lang/invoke/MethodHandle" ∧ yX8_choice.cls ≠ "java/lang/invoke/VarHandle" ∧ (parseMethodDescriptor yX8_choice.desc).map (fun d => d.parameters.length) = some 3 := by decide +kernel
def vX8_choice : List Cond := Cond.code yX8_choice cX8_choice 5 (some .int) :: bG
set_option maxHeartbeats 4000000 in
set_option maxRecDepth 100000 in
theorem kcX8_choice {l : Launch} {D : va_G} {E : cE} {s0 : Nat} {a1 : Int} {a2 : Int} {a3 : Int} {I : cI} {R : cR} (hm : cM I R) (hs0 : isS s0) (ha1 : inR a1) (ha2 : inR a2) (ha3 : inR a3) {Q : Int → cI → cR → Prop} (hw : wX8_choice s0 a1 a2 a3 I R Q) : gM l D E cIds yX8_choice vX8_choice (rmK 1 (0) (0)) [.ref (E.1 s0), iV a1, iV a2, iV a3] (cef E (I, R)) (cef E) (pI Q) (0) (0) := by
  unfold wX8_choice at hw
  refine k_ofW (own := RX8) (cc := cX8_choice) (maxL := 5) (ret := (some .int)) (lv := [(0, .ref (E.1 s0)), (1, iV a1), (2, iV a2), (3, iV a3)]) (by decide) rfl rfl (Nat.le_of_ble_eq_true rfl) rfl ?_
  intro X hl hR hN hD F K
  subst hl; subst hD
  have hret := mk_rI (Q := Q) F K
  refine q_aload_n F 0 dX8_choice_0 rfl rfl ?_
  refine t_g_Search_only F (kS0 hs0) ib8 wd93 (s0 + 3) rfl dX8_choice_1 ?_
  refine q_iload_n F 1 dX8_choice_4 rfl rfl ?_
  obtain ⟨k1, hw⟩ := hw
  refine t_ald F 25 (kS3 hs0) k1 (by decide) dX8_choice_5 ?_
  refine q_if_eq F (hm.1 _ _) 16 dX8_choice_6 (by decide) (fun hc => ?_) (fun hc => ?_)
  · have hw := hw.1 hc
    refine q_aload_n F 0 dX8_choice_16 rfl rfl ?_
    refine t_g_Search_first F (kS0 hs0) ib8 wd94 (s0 + 4) rfl dX8_choice_17 ?_
    refine q_iload_n F 1 dX8_choice_20 rfl rfl ?_
    obtain ⟨k2, hw⟩ := hw
    refine t_ald F 25 (kS4 hs0) k2 (by decide) dX8_choice_21 ?_
    refine q_iload_n F 2 dX8_choice_22 rfl rfl ?_
    refine q_iadd F dX8_choice_23 ?_
    obtain ⟨k3, hw⟩ := hw
    obtain ⟨z4, e5⟩ := ex1 (((I (s0 + 4) a1) + a2))
    have hw := hw z4 e5
    have hz4 : inR z4 := by rw [e5]; exact k3
    refine q_top e5 ?_
    refine q_istore (lv' := [(0, .ref (E.1 s0)), (1, iV a1), (2, iV a2), (3, iV a3), (4, iV z4)]) F [1, 2, 3, 4, 0] dX8_choice_24 (q_n hN (by decide)) rfl ?_
    refine q_iload F 4 dX8_choice_26 rfl ?_
    refine q_iload_n F 3 dX8_choice_28 rfl rfl ?_
    refine q_icmp_le F hz4 ha3 39 dX8_choice_29 (by decide) (fun hc => ?_) (fun hc => ?_)
    · have hw := hw.1 hc
      refine q_iload F 4 dX8_choice_39 rfl ?_
      exact hret _ _ _ _ _ _ dX8_choice_41 hz4 hm hw
    · have hw := hw.2 hc
      refine q_iload F 4 dX8_choice_32 rfl ?_
      refine q_iload_n F 3 dX8_choice_34 rfl rfl ?_
      refine q_isub F dX8_choice_35 ?_
      refine q_goto F 41 dX8_choice_36 (by decide) ?_
      obtain ⟨k6, hw⟩ := hw
      exact hret _ _ _ _ _ _ dX8_choice_41 k6 hm hw
  · have hw := hw.2 hc
    refine q_aload_n F 0 dX8_choice_9 rfl rfl ?_
    refine t_g_Search_only F (kS0 hs0) ib8 wd93 (s0 + 3) rfl dX8_choice_10 ?_
    refine q_iload_n F 1 dX8_choice_13 rfl rfl ?_
    obtain ⟨k7, hw⟩ := hw
    refine t_ald F 25 (kS3 hs0) k7 (by decide) dX8_choice_14 ?_
    exact hret _ _ _ _ _ _ dX8_choice_15 (hm.1 _ _) hm hw
theorem ydX4_isBrokenAt : yX4_isBrokenAt.cls = RX4 ∧ yX4_isBrokenAt.cls ≠ "java/lang/invoke/MethodHandle" ∧ yX4_isBrokenAt.cls ≠ "java/lang/invoke/VarHandle" ∧ (parseMethodDescriptor yX4_isBrokenAt.desc).map (fun d => d.parameters.length) = some 3 := by decide +kernel
def vX4_isBrokenAt : List Cond := Cond.code yX4_isBrokenAt cX4_isBrokenAt 5 (some .boolean) :: bG
set_option maxHeartbeats 4000000 in
set_option maxRecDepth 100000 in
theorem bX4_isBrokenAt_3 {X : xC} {E : cE} (F : mF X E RX4 cX4_isBrokenAt bG) (hR : X.1.2.2.2 = rmK 3 (0) (0)) (hN : X.2.2.1.2.2.2 = 5) {Q : Int → cI → cR → Prop} (hret : rZ X E cX4_isBrokenAt (0) (0) Q) {p : Nat} {a1 : Int} {a2 : Nat} {a3 : Int} (hp : isP p) (ha1 : inR a1) (ha2 : isA 25 a2) (ha3 : inR a3) : ∀ n3 : Nat, ∀ (x4 : Int) (I : cI) (R : cR), inR x4 → cM I R → wX4_isBrokenAt_3 Q p a1 a2 a3 n3 x4 I R → cW X (0) (0) 3 [(0, .ref (E.1 p)), (1, iV a1), (2, .ref (E.1 a2)), (3, iV a3), (4, iV x4)] [] (gw E.1 cIds (cef E (I, R)) ++ []) := by
  intro n3
  induction n3 with
  | zero => intro x4 I R hx4 hm hw; exact hw.elim
  | succ n3 ih =>
    intro x4 I R hx4 hm hw
    change wbX4_isBrokenAt_3 Q p a1 a2 a3 (wX4_isBrokenAt_3 Q p a1 a2 a3 n3) x4 I R at hw
    unfold wbX4_isBrokenAt_3 at hw
    refine q_iload F 4 dX4_isBrokenAt_3 rfl ?_
    refine q_aload_n F 0 dX4_isBrokenAt_5 rfl rfl ?_
    refine t_g_Puzzle_ruleCount F (kP0 hp) ib4 wd188 dX4_isBrokenAt_6 ?_
    refine q_icmp_ge F hx4 (hm.1 _ _) 58 dX4_isBrokenAt_9 (by decide) (fun hc => ?_) (fun hc => ?_)
    · have hw := hw.1 hc
      refine q_iconst F dX4_isBrokenAt_58 ?_
      exact hret _ _ _ _ _ _ dX4_isBrokenAt_59 (Or.inl rfl) (⟨by decide, by decide⟩ : inR (0)) hm hw
    · have hw := hw.2 hc
      refine q_iload F 4 dX4_isBrokenAt_12 rfl ?_
      refine q_iload_n F 3 dX4_isBrokenAt_14 rfl rfl ?_
      refine q_icmp_eq F hx4 ha3 52 dX4_isBrokenAt_15 (by decide) (fun hc => ?_) (fun hc => ?_)
      · have hw := hw.1 hc
        obtain ⟨k3, hw⟩ := hw
        obtain ⟨z1, e2⟩ := ex1 (x4 + 1)
        have hw := hw z1 e2
        have hz1 : inR z1 := by rw [e2]; exact k3
        refine q_iinc (lv' := [(0, .ref (E.1 p)), (1, iV a1), (2, .ref (E.1 a2)), (3, iV a3), (4, iV z1)]) F 4 [1, 2, 3, 4, 0] dX4_isBrokenAt_52 rfl (q_n hN (by decide)) e2.symm rfl ?_
        refine q_goto F 3 dX4_isBrokenAt_55 (by decide) ?_
        exact ih z1 I R hz1 hm hw
      · have hw := hw.2 hc
        refine q_aload_n F 0 dX4_isBrokenAt_18 rfl rfl ?_
        refine t_g_Puzzle_rules F (kP0 hp) ib4 wd184 (p + 2) rfl dX4_isBrokenAt_19 ?_
        refine q_iload F 4 dX4_isBrokenAt_22 rfl ?_
        obtain ⟨k4, hw⟩ := hw
        refine t_rld F (kP2 hp) k4 dX4_isBrokenAt_24 ?_
        refine q_iload_n F 1 dX4_isBrokenAt_25 rfl rfl ?_
        refine q_Vi F (kcX7_hasCell hm (hm.2.2.2.1 _ hp _ k4) ha1 hw) (cIds_in (kR0 (hm.2.2.2.1 _ hp _ k4)).2) (ceRule (kR0 (hm.2.2.2.1 _ hp _ k4)).1) (ci := 5) rfl (bV wd624 wd392 wd393 wd10 wd394) rfl ⟨rfl, rfl⟩ ydX7_hasCell (rmK_le hR (by omega) (by decide)) (av := [iV a1]) rfl rfl (Nat.le_of_ble_eq_true rfl) dX4_isBrokenAt_26 (rmK_cs hR (by omega) (by omega)) (fun r5 I6 R7 h8 m9 hw => ?_)
        refine q_if_eq F h8 52 dX4_isBrokenAt_29 (by decide) (fun hc => ?_) (fun hc => ?_)
        · have hw := hw.1 hc
          obtain ⟨k12, hw⟩ := hw
          obtain ⟨z10, e11⟩ := ex1 (x4 + 1)
          have hw := hw z10 e11
          have hz10 : inR z10 := by rw [e11]; exact k12
          refine q_iinc (lv' := [(0, .ref (E.1 p)), (1, iV a1), (2, .ref (E.1 a2)), (3, iV a3), (4, iV z10)]) F 4 [1, 2, 3, 4, 0] dX4_isBrokenAt_52 rfl (q_n hN (by decide)) e11.symm rfl ?_
          refine q_goto F 3 dX4_isBrokenAt_55 (by decide) ?_
          exact ih z10 I6 R7 hz10 m9 hw
        · have hw := hw.2 hc
          refine q_aload_n F 0 dX4_isBrokenAt_32 rfl rfl ?_
          refine t_g_Puzzle_rules F (kP0 hp) ib4 wd184 (p + 2) rfl dX4_isBrokenAt_33 ?_
          refine q_iload F 4 dX4_isBrokenAt_36 rfl ?_
          obtain ⟨k13, hw⟩ := hw
          refine t_rld F (kP2 hp) k13 dX4_isBrokenAt_38 ?_
          refine q_aload_n F 2 dX4_isBrokenAt_39 rfl rfl ?_
          refine q_aload_n F 0 dX4_isBrokenAt_40 rfl rfl ?_
          refine t_g_Puzzle_highest F (kP0 hp) ib4 wd173 dX4_isBrokenAt_41 ?_
          refine q_Vi F (kcX7_isBroken m9 (m9.2.2.2.1 _ hp _ k13) ha2 (m9.1 _ _) hw) (cIds_in (kR0 (m9.2.2.2.1 _ hp _ k13)).2) (ceRule (kR0 (m9.2.2.2.1 _ hp _ k13)).1) (ci := 5) rfl (bV wd426 wd427 wd428 wd10 wd429) rfl ⟨rfl, rfl⟩ ydX7_isBroken (rmK_le hR (by omega) (by decide)) (av := [.ref (E.1 a2), iV ((I6 p 2))]) rfl rfl (Nat.le_of_ble_eq_true rfl) dX4_isBrokenAt_44 (rmK_cs hR (by omega) (by omega)) (fun r14 I15 R16 h17 m18 hw => ?_)
          refine q_if_eq F h17 52 dX4_isBrokenAt_47 (by decide) (fun hc => ?_) (fun hc => ?_)
          · have hw := hw.1 hc
            obtain ⟨k21, hw⟩ := hw
            obtain ⟨z19, e20⟩ := ex1 (x4 + 1)
            have hw := hw z19 e20
            have hz19 : inR z19 := by rw [e20]; exact k21
            refine q_iinc (lv' := [(0, .ref (E.1 p)), (1, iV a1), (2, .ref (E.1 a2)), (3, iV a3), (4, iV z19)]) F 4 [1, 2, 3, 4, 0] dX4_isBrokenAt_52 rfl (q_n hN (by decide)) e20.symm rfl ?_
            refine q_goto F 3 dX4_isBrokenAt_55 (by decide) ?_
            exact ih z19 I15 R16 hz19 m18 hw
          · have hw := hw.2 hc
            refine q_iconst F dX4_isBrokenAt_50 ?_
            exact hret _ _ _ _ _ _ dX4_isBrokenAt_51 (Or.inr rfl) (⟨by decide, by decide⟩ : inR (1)) m18 hw
set_option maxHeartbeats 4000000 in
set_option maxRecDepth 100000 in
theorem kcX4_isBrokenAt {l : Launch} {D : va_G} {E : cE} {p : Nat} {a1 : Int} {a2 : Nat} {a3 : Int} {I : cI} {R : cR} (hm : cM I R) (hp : isP p) (ha1 : inR a1) (ha2 : isA 25 a2) (ha3 : inR a3) {Q : Int → cI → cR → Prop} (hw : wX4_isBrokenAt p a1 a2 a3 I R Q) : gM l D E cIds yX4_isBrokenAt vX4_isBrokenAt (rmK 3 (0) (0)) [.ref (E.1 p), iV a1, .ref (E.1 a2), iV a3] (cef E (I, R)) (cef E) (pI Q) (0) (0) := by
  unfold wX4_isBrokenAt at hw
  refine k_ofW (own := RX4) (cc := cX4_isBrokenAt) (maxL := 5) (ret := (some .boolean)) (lv := [(0, .ref (E.1 p)), (1, iV a1), (2, .ref (E.1 a2)), (3, iV a3)]) (by decide) rfl rfl (Nat.le_of_ble_eq_true rfl) rfl ?_
  intro X hl hR hN hD F K
  subst hl; subst hD
  have hret := mk_rZ (Q := Q) F K
  refine q_iconst F dX4_isBrokenAt_0 ?_
  refine q_istore (lv' := [(0, .ref (E.1 p)), (1, iV a1), (2, .ref (E.1 a2)), (3, iV a3), (4, iV 0)]) F [1, 2, 3, 4, 0] dX4_isBrokenAt_1 (q_n hN (by decide)) rfl ?_
  obtain ⟨n1, hw⟩ := hw
  exact bX4_isBrokenAt_3 F hR hN hret hp ha1 ha2 ha3 n1 0 I R (⟨by decide, by decide⟩ : inR (0)) hm hw
theorem ydX8_endsFrom : yX8_endsFrom.cls = RX8 ∧ yX8_endsFrom.cls ≠ "java/lang/invoke/MethodHandle" ∧ yX8_endsFrom.cls ≠ "java/lang/invoke/VarHandle" ∧ (parseMethodDescriptor yX8_endsFrom.desc).map (fun d => d.parameters.length) = some 3 := by decide +kernel
def vX8_endsFrom : List Cond := Cond.code yX8_endsFrom cX8_endsFrom 5 (some .boolean) :: bG
set_option maxHeartbeats 4000000 in
set_option maxRecDepth 100000 in
theorem bX8_endsFrom_14 {d : Nat} {X : xC} {E : cE} (F : mF X E RX8 cX8_endsFrom bG) (hR : X.1.2.2.2 = rmK (3 + d + 1) 0 0) (hN : X.2.2.1.2.2.2 = 5) {Q : Int → cI → cR → Prop} (hret : rZ X E cX8_endsFrom (0) (0) Q) {rc : Nat → Nat → Int → cI → cR → (Int → cI → cR → Prop) → Prop} (hrec : ∀ (a0 : Nat) (a1 : Nat) (a2 : Int) (I : cI) (R : cR) (Q' : Int → cI → cR → Prop), isS a0 → isP a1 → inR a2 → cM I R → rc a0 a1 a2 I R Q' → gM X.1.2.1 X.2.2.2.2 E cIds yX8_endsFrom vX8_endsFrom (rmK (3 + d) 0 0) [.ref (E.1 a0), .ref (E.1 a1), iV a2] (cef E (I, R)) (cef E) (pI Q') 0 0) {a0 : Nat} {a1 : Nat} {a2 : Int} (ha0 : isS a0) (ha1 : isP a1) (ha2 : inR a2) : ∀ (I : cI) (R : cR), cM I R → wX8_endsFrom_14 rc Q a0 a1 a2 I R → cW X (0) (0) 14 [(0, .ref (E.1 a0))] [] (gw E.1 cIds (cef E (I, R)) ++ []) := by
  intro I R hm hw
  unfold wX8_endsFrom_14 at hw
  refine q_aload_n F 0 dX8_endsFrom_14 rfl rfl ?_
  refine q_Vv F (kcX8_keep hm ha0 hw) (cIds_in (kS0 ha0).2) (ceSearch (kS0 ha0).1) (ci := 6) rfl (bV wd611 wd612 wd914 wd6 wd613) rfl ⟨rfl, rfl⟩ ydX8_keep (rmK_le hR (by omega) (by decide)) (av := []) rfl rfl (Nat.le_of_ble_eq_true rfl) dX8_endsFrom_15 (rmK_cs hR (by omega) (by omega)) (fun I2 R3 m5 hw => ?_)
  refine q_aload_n F 0 dX8_endsFrom_18 rfl rfl ?_
  refine t_g_Search_found F (kS0 ha0) ib8 wd88 dX8_endsFrom_19 ?_
  refine q_aload_n F 0 dX8_endsFrom_22 rfl rfl ?_
  refine t_g_Search_most F (kS0 ha0) ib8 wd96 dX8_endsFrom_23 ?_
  refine q_icmp_lt F (m5.1 _ _) (m5.1 _ _) 33 dX8_endsFrom_26 (by decide) (fun hc => ?_) (fun hc => ?_)
  · have hw := hw.1 hc
    refine q_iconst F dX8_endsFrom_33 ?_
    exact hret _ _ _ _ _ _ dX8_endsFrom_34 (Or.inl rfl) (⟨by decide, by decide⟩ : inR (0)) m5 hw
  · have hw := hw.2 hc
    refine q_iconst F dX8_endsFrom_29 ?_
    refine q_goto F 34 dX8_endsFrom_30 (by decide) ?_
    exact hret _ _ _ _ _ _ dX8_endsFrom_34 (Or.inr rfl) (⟨by decide, by decide⟩ : inR (1)) m5 hw
set_option maxHeartbeats 4000000 in
set_option maxRecDepth 100000 in
theorem bX8_endsFrom_56 {d : Nat} {X : xC} {E : cE} (F : mF X E RX8 cX8_endsFrom bG) (hR : X.1.2.2.2 = rmK (3 + d + 1) 0 0) (hN : X.2.2.1.2.2.2 = 5) {Q : Int → cI → cR → Prop} (hret : rZ X E cX8_endsFrom (0) (0) Q) {rc : Nat → Nat → Int → cI → cR → (Int → cI → cR → Prop) → Prop} (hrec : ∀ (a0 : Nat) (a1 : Nat) (a2 : Int) (I : cI) (R : cR) (Q' : Int → cI → cR → Prop), isS a0 → isP a1 → inR a2 → cM I R → rc a0 a1 a2 I R Q' → gM X.1.2.1 X.2.2.2.2 E cIds yX8_endsFrom vX8_endsFrom (rmK (3 + d) 0 0) [.ref (E.1 a0), .ref (E.1 a1), iV a2] (cef E (I, R)) (cef E) (pI Q') 0 0) {a0 : Nat} {a1 : Nat} {a2 : Int} (ha0 : isS a0) (ha1 : isP a1) (ha2 : inR a2) : ∀ n56 : Nat, ∀ (x3 : Int) (x4 : Int) (I : cI) (R : cR), inR x3 → inR x4 → cM I R → wX8_endsFrom_56 rc Q a0 a1 a2 n56 x3 x4 I R → cW X (0) (0) 56 [(0, .ref (E.1 a0)), (1, .ref (E.1 a1)), (2, iV a2), (3, iV x3), (4, iV x4)] [] (gw E.1 cIds (cef E (I, R)) ++ []) := by
  intro n56
  induction n56 with
  | zero => intro x3 x4 I R hx3 hx4 hm hw; exact hw.elim
  | succ n56 ih =>
    intro x3 x4 I R hx3 hx4 hm hw
    change wbX8_endsFrom_56 rc Q a0 a1 a2 (wX8_endsFrom_56 rc Q a0 a1 a2 n56) x3 x4 I R at hw
    unfold wbX8_endsFrom_56 at hw
    refine q_iload F 4 dX8_endsFrom_56 rfl ?_
    refine q_iload_n F 3 dX8_endsFrom_58 rfl rfl ?_
    refine q_icmp_ge F hx4 hx3 140 dX8_endsFrom_59 (by decide) (fun hc => ?_) (fun hc => ?_)
    · have hw := hw.1 hc
      refine q_aload_n F 0 dX8_endsFrom_140 rfl rfl ?_
      refine t_g_Search_values F (kS0 ha0) ib8 wd92 (a0 + 2) rfl dX8_endsFrom_141 ?_
      refine q_iload_n F 2 dX8_endsFrom_144 rfl rfl ?_
      refine q_iconst F dX8_endsFrom_145 ?_
      obtain ⟨k1, hw⟩ := hw
      obtain ⟨I2, e3⟩ := ex1 (up2 I (a0 + 2) a2 0)
      have hw := hw I2 e3
      have m4 : cM I2 R := cM_I hm e3 (⟨by decide, by decide⟩ : inR (0))
      refine t_ast F 25 (kS2 ha0) k1 (by decide) e3 dX8_endsFrom_146 ?_
      refine q_iconst F dX8_endsFrom_147 ?_
      exact hret _ _ _ _ _ _ dX8_endsFrom_148 (Or.inl rfl) (⟨by decide, by decide⟩ : inR (0)) m4 hw
    · have hw := hw.2 hc
      refine q_aload_n F 0 dX8_endsFrom_62 rfl rfl ?_
      refine t_g_Search_tries F (kS0 ha0) ib8 wd90 dX8_endsFrom_63 ?_
      refine q_sipush F dX8_endsFrom_66 (by decide) ?_
      refine q_icmp_lt F (hm.1 _ _) (⟨by decide, by decide⟩ : inR (5000)) 78 dX8_endsFrom_69 (by decide) (fun hc => ?_) (fun hc => ?_)
      · have hw := hw.1 hc
        refine q_aload_n F 0 dX8_endsFrom_78 rfl rfl ?_
        refine q_dup F dX8_endsFrom_79 rfl ?_
        refine t_g_Search_tries F (kS0 ha0) ib8 wd90 dX8_endsFrom_80 ?_
        refine q_iconst F dX8_endsFrom_83 ?_
        refine q_iadd F dX8_endsFrom_84 ?_
        obtain ⟨k5, hw⟩ := hw
        obtain ⟨I6, e7⟩ := ex1 (up2 I a0 2 (((I a0 2) + 1)))
        have hw := hw I6 e7
        have m8 : cM I6 R := cM_I hm e7 k5
        refine t_p_Search_tries F (kS0 ha0) ib8 wd90 e7 dX8_endsFrom_85 ?_
        refine q_aload_n F 0 dX8_endsFrom_88 rfl rfl ?_
        refine t_g_Search_values F (kS0 ha0) ib8 wd92 (a0 + 2) rfl dX8_endsFrom_89 ?_
        refine q_iload_n F 2 dX8_endsFrom_92 rfl rfl ?_
        refine q_aload_n F 0 dX8_endsFrom_93 rfl rfl ?_
        refine q_iload_n F 2 dX8_endsFrom_94 rfl rfl ?_
        refine q_iload F 4 dX8_endsFrom_95 rfl ?_
        refine q_aload_n F 1 dX8_endsFrom_97 rfl rfl ?_
        refine t_g_Puzzle_highest F (kP0 ha1) ib4 wd177 dX8_endsFrom_98 ?_
        refine q_Vi F (kcX8_choice m8 ha0 ha2 hx4 (m8.1 _ _) hw) (cIds_in (kS0 ha0).2) (ceSearch (kS0 ha0).1) (ci := 6) rfl (bV wd617 wd618 wd916 wd6 wd619) rfl ⟨rfl, rfl⟩ ydX8_choice (rmK_le hR (by omega) (by decide)) (av := [iV a2, iV x4, iV ((I6 a1 2))]) rfl rfl (Nat.le_of_ble_eq_true rfl) dX8_endsFrom_101 (rmK_cs hR (by omega) (by omega)) (fun r9 I10 R11 h12 m13 hw => ?_)
        obtain ⟨k14, hw⟩ := hw
        obtain ⟨I15, e16⟩ := ex1 (up2 I10 (a0 + 2) a2 r9)
        have hw := hw I15 e16
        have m17 : cM I15 R11 := cM_I m13 e16 h12
        refine t_ast F 25 (kS2 ha0) k14 (by decide) e16 dX8_endsFrom_104 ?_
        refine q_aload_n F 1 dX8_endsFrom_105 rfl rfl ?_
        refine q_iload_n F 2 dX8_endsFrom_106 rfl rfl ?_
        refine q_aload_n F 0 dX8_endsFrom_107 rfl rfl ?_
        refine t_g_Search_values F (kS0 ha0) ib8 wd92 (a0 + 2) rfl dX8_endsFrom_108 ?_
        refine q_aload_n F 0 dX8_endsFrom_111 rfl rfl ?_
        refine t_g_Search_without F (kS0 ha0) ib8 wd95 dX8_endsFrom_112 ?_
        refine q_Vi F (kcX4_isBrokenAt m17 ha1 ha2 (kS2 ha0) (m17.1 _ _) hw) (cIds_in (kP0 ha1).2) (cePuzzle (kP0 ha1).1) (ci := 2) rfl (bV wd620 wd621 wd622 wd9 wd623) rfl ⟨rfl, rfl⟩ ydX4_isBrokenAt (rmK_le hR (by omega) (by decide)) (av := [iV a2, .ref (E.1 (a0 + 2)), iV ((I15 a0 6))]) rfl rfl (Nat.le_of_ble_eq_true rfl) dX8_endsFrom_115 (rmK_cs hR (by omega) (by omega)) (fun r18 I19 R20 h21 m22 hw => ?_)
        refine q_if_ne F h21 134 dX8_endsFrom_118 (by decide) (fun hc => ?_) (fun hc => ?_)
        · have hw := hw.1 hc
          obtain ⟨k25, hw⟩ := hw
          obtain ⟨z23, e24⟩ := ex1 (x4 + 1)
          have hw := hw z23 e24
          have hz23 : inR z23 := by rw [e24]; exact k25
          refine q_iinc (lv' := [(0, .ref (E.1 a0)), (1, .ref (E.1 a1)), (2, iV a2), (3, iV x3), (4, iV z23)]) F 4 [1, 2, 3, 4, 0] dX8_endsFrom_134 rfl (q_n hN (by decide)) e24.symm rfl ?_
          refine q_goto F 56 dX8_endsFrom_137 (by decide) ?_
          exact ih x3 z23 I19 R20 hx3 hz23 m22 hw
        · have hw := hw.2 hc
          refine q_aload_n F 0 dX8_endsFrom_121 rfl rfl ?_
          refine q_aload_n F 1 dX8_endsFrom_122 rfl rfl ?_
          refine q_iload_n F 2 dX8_endsFrom_123 rfl rfl ?_
          refine q_iconst F dX8_endsFrom_124 ?_
          refine q_iadd F dX8_endsFrom_125 ?_
          obtain ⟨k26, hw⟩ := hw
          refine q_Si F (hrec a0 a1 ((a2 + 1)) I19 R20 _ ha0 ha1 k26 m22 hw) (bS wd608 wd609 wd6 wd610) rfl ⟨rfl, rfl⟩ ydX8_endsFrom (rmK_le hR (by omega) (by decide)) (av := [.ref (E.1 a0), .ref (E.1 a1), iV ((a2 + 1))]) rfl rfl (Nat.le_of_ble_eq_true rfl) dX8_endsFrom_126 (rmK_cs hR (by omega) (by omega)) (fun r27 I28 R29 h30 m31 hw => ?_)
          refine q_if_eq F h30 134 dX8_endsFrom_129 (by decide) (fun hc => ?_) (fun hc => ?_)
          · have hw := hw.1 hc
            obtain ⟨k34, hw⟩ := hw
            obtain ⟨z32, e33⟩ := ex1 (x4 + 1)
            have hw := hw z32 e33
            have hz32 : inR z32 := by rw [e33]; exact k34
            refine q_iinc (lv' := [(0, .ref (E.1 a0)), (1, .ref (E.1 a1)), (2, iV a2), (3, iV x3), (4, iV z32)]) F 4 [1, 2, 3, 4, 0] dX8_endsFrom_134 rfl (q_n hN (by decide)) e33.symm rfl ?_
            refine q_goto F 56 dX8_endsFrom_137 (by decide) ?_
            exact ih x3 z32 I28 R29 hx3 hz32 m31 hw
          · have hw := hw.2 hc
            refine q_iconst F dX8_endsFrom_132 ?_
            exact hret _ _ _ _ _ _ dX8_endsFrom_133 (Or.inr rfl) (⟨by decide, by decide⟩ : inR (1)) m31 hw
      · have hw := hw.2 hc
        refine q_aload_n F 0 dX8_endsFrom_72 rfl rfl ?_
        refine q_Vv F (kcX8_giveUp hm ha0 hw) (cIds_in (kS0 ha0).2) (ceSearch (kS0 ha0).1) (ci := 6) rfl (bV wd614 wd615 wd915 wd6 wd616) rfl ⟨rfl, rfl⟩ ydX8_giveUp (rmK_le hR (by omega) (by decide)) (av := []) rfl rfl (Nat.le_of_ble_eq_true rfl) dX8_endsFrom_73 (rmK_cs hR (by omega) (by omega)) (fun I36 R37 m39 hw => ?_)
        refine q_iconst F dX8_endsFrom_76 ?_
        exact hret _ _ _ _ _ _ dX8_endsFrom_77 (Or.inr rfl) (⟨by decide, by decide⟩ : inR (1)) m39 hw
set_option maxHeartbeats 4000000 in
set_option maxRecDepth 100000 in
theorem bX8_endsFrom_52 {d : Nat} {X : xC} {E : cE} (F : mF X E RX8 cX8_endsFrom bG) (hR : X.1.2.2.2 = rmK (3 + d + 1) 0 0) (hN : X.2.2.1.2.2.2 = 5) {Q : Int → cI → cR → Prop} (hret : rZ X E cX8_endsFrom (0) (0) Q) {rc : Nat → Nat → Int → cI → cR → (Int → cI → cR → Prop) → Prop} (hrec : ∀ (a0 : Nat) (a1 : Nat) (a2 : Int) (I : cI) (R : cR) (Q' : Int → cI → cR → Prop), isS a0 → isP a1 → inR a2 → cM I R → rc a0 a1 a2 I R Q' → gM X.1.2.1 X.2.2.2.2 E cIds yX8_endsFrom vX8_endsFrom (rmK (3 + d) 0 0) [.ref (E.1 a0), .ref (E.1 a1), iV a2] (cef E (I, R)) (cef E) (pI Q') 0 0) {a0 : Nat} {a1 : Nat} {a2 : Int} (ha0 : isS a0) (ha1 : isP a1) (ha2 : inR a2) : ∀ (y0 : Int) (I : cI) (R : cR), inR y0 → cM I R → wX8_endsFrom_52 rc Q a0 a1 a2 y0 I R → cW X (0) (0) 52 [(0, .ref (E.1 a0)), (1, .ref (E.1 a1)), (2, iV a2)] [iV y0] (gw E.1 cIds (cef E (I, R)) ++ []) := by
  intro y0 I R hy0 hm hw
  unfold wX8_endsFrom_52 at hw
  refine q_istore_n (lv' := [(0, .ref (E.1 a0)), (1, .ref (E.1 a1)), (2, iV a2), (3, iV y0)]) F [1, 2, 3, 0] dX8_endsFrom_52 rfl (q_n hN (by decide)) rfl ?_
  refine q_iconst F dX8_endsFrom_53 ?_
  refine q_istore (lv' := [(0, .ref (E.1 a0)), (1, .ref (E.1 a1)), (2, iV a2), (3, iV y0), (4, iV 0)]) F [1, 2, 3, 4, 0] dX8_endsFrom_54 (q_n hN (by decide)) rfl ?_
  obtain ⟨n1, hw⟩ := hw
  exact bX8_endsFrom_56 F hR hN hret hrec ha0 ha1 ha2 n1 y0 0 I R hy0 (⟨by decide, by decide⟩ : inR (0)) hm hw
set_option maxHeartbeats 4000000 in
set_option maxRecDepth 100000 in
theorem crX8_endsFrom {l : Launch} {D : va_G} {E : cE} : ∀ (d : Nat) (a0 : Nat) (a1 : Nat) (a2 : Int) (I : cI) (R : cR) (Q : Int → cI → cR → Prop), isS a0 → isP a1 → inR a2 → cM I R → wX8_endsFrom d a0 a1 a2 I R Q → gM l D E cIds yX8_endsFrom vX8_endsFrom (rmK (3 + d) 0 0) [.ref (E.1 a0), .ref (E.1 a1), iV a2] (cef E (I, R)) (cef E) (pI Q) 0 0 := by
  intro d
  induction d with
  | zero => intro a0 a1 a2 I R Q ha0 ha1 ha2 hm hw; exact hw.elim
  | succ d ihd =>
    intro a0 a1 a2 I R Q ha0 ha1 ha2 hm hw
    change wbX8_endsFrom (wX8_endsFrom d) a0 a1 a2 I R Q at hw
    unfold wbX8_endsFrom at hw
    refine k_ofW (own := RX8) (cc := cX8_endsFrom) (maxL := 5) (ret := (some .boolean)) (lv := [(0, .ref (E.1 a0)), (1, .ref (E.1 a1)), (2, iV a2)]) (by decide) rfl rfl (Nat.le_of_ble_eq_true rfl) rfl ?_
    intro X hl hR hN hD F K
    subst hl; subst hD
    have hrec := ihd
    have hret := mk_rZ (Q := Q) F K
    refine q_iload_n F 2 dX8_endsFrom_0 rfl rfl ?_
    refine q_aload_n F 1 dX8_endsFrom_1 rfl rfl ?_
    refine q_Vi F (kcX4_cellCount hm ha1 hw) (cIds_in (kP0 ha1).2) (cePuzzle (kP0 ha1).1) (ci := 2) rfl (bV wd607 wd404 wd405 wd9 wd406) rfl ⟨rfl, rfl⟩ ydX4_cellCount (rmK_le hR (by omega) (by decide)) (av := []) rfl rfl (Nat.le_of_ble_eq_true rfl) dX8_endsFrom_2 (rmK_cs hR (by omega) (by omega)) (fun r1 I2 R3 h4 m5 hw => ?_)
    refine q_icmp_ge F ha2 h4 14 dX8_endsFrom_5 (by decide) (fun hc => ?_) (fun hc => ?_)
    · have hw := hw.1 hc
      refine q_lv [0] rfl ?_
      exact bX8_endsFrom_14 F hR hN hret hrec ha0 ha1 ha2 I2 R3 m5 hw
    · have hw := hw.2 hc
      refine q_iload_n F 2 dX8_endsFrom_8 rfl rfl ?_
      refine q_bipush F dX8_endsFrom_9 (by decide) ?_
      refine q_icmp_lt F ha2 (⟨by decide, by decide⟩ : inR (25)) 35 dX8_endsFrom_11 (by decide) (fun hc => ?_) (fun hc => ?_)
      · have hw := hw.1 hc
        refine q_aload_n F 0 dX8_endsFrom_35 rfl rfl ?_
        refine t_g_Search_only F (kS0 ha0) ib8 wd93 (a0 + 3) rfl dX8_endsFrom_36 ?_
        refine q_iload_n F 2 dX8_endsFrom_39 rfl rfl ?_
        obtain ⟨k6, hw⟩ := hw
        refine t_ald F 25 (kS3 ha0) k6 (by decide) dX8_endsFrom_40 ?_
        refine q_if_ne F (m5.1 _ _) 51 dX8_endsFrom_41 (by decide) (fun hc => ?_) (fun hc => ?_)
        · have hw := hw.1 hc
          refine q_iconst F dX8_endsFrom_51 ?_
          exact bX8_endsFrom_52 F hR hN hret hrec ha0 ha1 ha2 1 I2 R3 (⟨by decide, by decide⟩ : inR (1)) m5 hw
        · have hw := hw.2 hc
          refine q_aload_n F 1 dX8_endsFrom_44 rfl rfl ?_
          refine t_g_Puzzle_highest F (kP0 ha1) ib4 wd177 dX8_endsFrom_45 ?_
          refine q_goto F 52 dX8_endsFrom_48 (by decide) ?_
          exact bX8_endsFrom_52 F hR hN hret hrec ha0 ha1 ha2 ((I2 a1 2)) I2 R3 (m5.1 _ _) m5 hw
      · have hw := hw.2 hc
        refine q_lv [0] rfl ?_
        exact bX8_endsFrom_14 F hR hN hret hrec ha0 ha1 ha2 I2 R3 m5 hw
theorem kcX8_endsFrom {l : Launch} {D : va_G} {E : cE} (d : Nat) {a0 : Nat} {a1 : Nat} {a2 : Int} {I : cI} {R : cR} (hm : cM I R) (ha0 : isS a0) (ha1 : isP a1) (ha2 : inR a2) {Q : Int → cI → cR → Prop} (hw : wX8_endsFrom d a0 a1 a2 I R Q) : gM l D E cIds yX8_endsFrom vX8_endsFrom (rmK (3 + d) 0 0) [.ref (E.1 a0), .ref (E.1 a1), iV a2] (cef E (I, R)) (cef E) (pI Q) 0 0 := crX8_endsFrom d a0 a1 a2 I R Q ha0 ha1 ha2 hm hw
theorem ydX8_findInGrid : yX8_findInGrid.cls = RX8 ∧ yX8_findInGrid.cls ≠ "java/lang/invoke/MethodHandle" ∧ yX8_findInGrid.cls ≠ "java/lang/invoke/VarHandle" ∧ (parseMethodDescriptor yX8_findInGrid.desc).map (fun d => d.parameters.length) = some 2 := by decide +kernel
def vX8_findInGrid : List Cond := Cond.code yX8_findInGrid cX8_findInGrid 4 (some .int) :: bG
set_option maxHeartbeats 4000000 in
set_option maxRecDepth 100000 in
theorem bX8_findInGrid_8 {X : xC} {E : cE} (F : mF X E RX8 cX8_findInGrid bG) (hR : X.1.2.2.2 = rmK 31 (0) (0)) (hN : X.2.2.1.2.2.2 = 4) {Q : Int → cI → cR → Prop} (hret : rI X E cX8_findInGrid (0) (0) Q) {s0 : Nat} {a1 : Nat} {a2 : Int} (hs0 : isS s0) (ha1 : isP a1) (ha2 : inR a2) : ∀ n8 : Nat, ∀ (x3 : Int) (I : cI) (R : cR), inR x3 → cM I R → wX8_findInGrid_8 Q s0 a1 a2 n8 x3 I R → cW X (0) (0) 8 [(0, .ref (E.1 s0)), (1, .ref (E.1 a1)), (3, iV x3)] [] (gw E.1 cIds (cef E (I, R)) ++ []) := by
  intro n8
  induction n8 with
  | zero => intro x3 I R hx3 hm hw; exact hw.elim
  | succ n8 ih =>
    intro x3 I R hx3 hm hw
    change wbX8_findInGrid_8 Q s0 a1 a2 (wX8_findInGrid_8 Q s0 a1 a2 n8) x3 I R at hw
    unfold wbX8_findInGrid_8 at hw
    refine q_iload_n F 2 dX8_findInGrid_8 rfl rfl ?_
    refine q_aload_n F 1 dX8_findInGrid_9 rfl rfl ?_
    refine q_Vi F (kcX4_cellCount hm ha1 hw) (cIds_in (kP0 ha1).2) (cePuzzle (kP0 ha1).1) (ci := 2) rfl (bV wd607 wd404 wd405 wd9 wd406) rfl ⟨rfl, rfl⟩ ydX4_cellCount (rmK_le hR (by omega) (by decide)) (av := []) rfl rfl (Nat.le_of_ble_eq_true rfl) dX8_findInGrid_10 (rmK_cs hR (by omega) (by omega)) (fun r1 I2 R3 h4 m5 hw => ?_)
    refine q_icmp_ge F hx3 h4 34 dX8_findInGrid_13 (by decide) (fun hc => ?_) (fun hc => ?_)
    · have hw := hw.1 hc
      refine q_aload_n F 0 dX8_findInGrid_34 rfl rfl ?_
      refine q_aload_n F 1 dX8_findInGrid_35 rfl rfl ?_
      refine q_iconst F dX8_findInGrid_36 ?_
      refine q_Si F (kcX8_endsFrom 27 m5 hs0 ha1 (⟨by decide, by decide⟩ : inR (0)) hw) (bS wd608 wd609 wd6 wd610) rfl ⟨rfl, rfl⟩ ydX8_endsFrom (rmK_le hR (by omega) (by decide)) (av := [.ref (E.1 s0), .ref (E.1 a1), iV 0]) rfl rfl (Nat.le_of_ble_eq_true rfl) dX8_findInGrid_37 (rmK_cs hR (by omega) (by omega)) (fun r6 I7 R8 h9 m10 hw => ?_)
      refine q_pop F dX8_findInGrid_40 rfl ?_
      refine q_aload_n F 0 dX8_findInGrid_41 rfl rfl ?_
      refine t_g_Search_hasGivenUp F (kS0 hs0) ib8 wd97 dX8_findInGrid_42 ?_
      refine q_if_eq F (m10.1 _ _) 52 dX8_findInGrid_45 (by decide) (fun hc => ?_) (fun hc => ?_)
      · have hw := hw.1 hc
        refine q_aload_n F 0 dX8_findInGrid_52 rfl rfl ?_
        refine t_g_Search_found F (kS0 hs0) ib8 wd88 dX8_findInGrid_53 ?_
        exact hret _ _ _ _ _ _ dX8_findInGrid_56 (m10.1 _ _) m10 hw
      · have hw := hw.2 hc
        refine q_iconst F dX8_findInGrid_48 ?_
        refine q_goto F 56 dX8_findInGrid_49 (by decide) ?_
        exact hret _ _ _ _ _ _ dX8_findInGrid_56 (⟨by decide, by decide⟩ : inR (-1)) m10 hw
    · have hw := hw.2 hc
      refine q_aload_n F 0 dX8_findInGrid_16 rfl rfl ?_
      refine t_g_Search_only F (kS0 hs0) ib8 wd93 (s0 + 3) rfl dX8_findInGrid_17 ?_
      refine q_iload_n F 2 dX8_findInGrid_20 rfl rfl ?_
      refine q_aload_n F 1 dX8_findInGrid_21 rfl rfl ?_
      refine t_g_Puzzle_grid F (kP0 ha1) ib4 wd182 (a1 + 1) rfl dX8_findInGrid_22 ?_
      refine q_iload_n F 2 dX8_findInGrid_25 rfl rfl ?_
      obtain ⟨k11, hw⟩ := hw
      refine t_ald F 25 (kP1 ha1) k11 (by decide) dX8_findInGrid_26 ?_
      obtain ⟨k12, hw⟩ := hw
      obtain ⟨I13, e14⟩ := ex1 (up2 I2 (s0 + 3) x3 ((I2 (a1 + 1) x3)))
      have hw := hw I13 e14
      have m15 : cM I13 R3 := cM_I m5 e14 (m5.1 _ _)
      refine t_ast F 25 (kS3 hs0) k12 (by decide) e14 dX8_findInGrid_27 ?_
      obtain ⟨k18, hw⟩ := hw
      obtain ⟨z16, e17⟩ := ex1 (x3 + 1)
      have hw := hw z16 e17
      have hz16 : inR z16 := by rw [e17]; exact k18
      refine q_iinc (lv' := [(0, .ref (E.1 s0)), (1, .ref (E.1 a1)), (3, iV z16)]) F 2 [1, 2, 0] dX8_findInGrid_28 rfl (q_n hN (by decide)) e17.symm rfl ?_
      refine q_goto F 8 dX8_findInGrid_31 (by decide) ?_
      exact ih z16 I13 R3 hz16 m15 hw
set_option maxHeartbeats 4000000 in
set_option maxRecDepth 100000 in
theorem kcX8_findInGrid {l : Launch} {D : va_G} {E : cE} {s0 : Nat} {a1 : Nat} {a2 : Int} {I : cI} {R : cR} (hm : cM I R) (hs0 : isS s0) (ha1 : isP a1) (ha2 : inR a2) {Q : Int → cI → cR → Prop} (hw : wX8_findInGrid s0 a1 a2 I R Q) : gM l D E cIds yX8_findInGrid vX8_findInGrid (rmK 31 (0) (0)) [.ref (E.1 s0), .ref (E.1 a1), iV a2] (cef E (I, R)) (cef E) (pI Q) (0) (0) := by
  unfold wX8_findInGrid at hw
  refine k_ofW (own := RX8) (cc := cX8_findInGrid) (maxL := 4) (ret := (some .int)) (lv := [(0, .ref (E.1 s0)), (1, .ref (E.1 a1)), (2, iV a2)]) (by decide) rfl rfl (Nat.le_of_ble_eq_true rfl) rfl ?_
  intro X hl hR hN hD F K
  subst hl; subst hD
  have hret := mk_rI (Q := Q) F K
  refine q_aload_n F 0 dX8_findInGrid_0 rfl rfl ?_
  refine q_iload_n F 2 dX8_findInGrid_1 rfl rfl ?_
  refine q_iconst F dX8_findInGrid_2 ?_
  refine q_Vv F (kcX8_begin hm hs0 ha2 (⟨by decide, by decide⟩ : inR (-1)) hw) (cIds_in (kS0 hs0).2) (ceSearch (kS0 hs0).1) (ci := 6) rfl (bV wd604 wd605 wd913 wd6 wd606) rfl ⟨rfl, rfl⟩ ydX8_begin (rmK_le hR (by omega) (by decide)) (av := [iV a2, iV (-1)]) rfl rfl (Nat.le_of_ble_eq_true rfl) dX8_findInGrid_3 (rmK_cs hR (by omega) (by omega)) (fun I2 R3 m5 hw => ?_)
  refine q_iconst F dX8_findInGrid_6 ?_
  refine q_istore_n (lv' := [(0, .ref (E.1 s0)), (1, .ref (E.1 a1)), (2, iV a2), (3, iV 0)]) F [1, 2, 3, 0] dX8_findInGrid_7 rfl (q_n hN (by decide)) rfl ?_
  refine q_lv [0, 1, 3] rfl ?_
  obtain ⟨n6, hw⟩ := hw
  exact bX8_findInGrid_8 F hR hN hret hs0 ha1 ha2 n6 0 I2 R3 (⟨by decide, by decide⟩ : inR (0)) m5 hw
theorem ydX11_search : yX11_search.cls = RX11 ∧ yX11_search.cls ≠ "java/lang/invoke/MethodHandle" ∧ yX11_search.cls ≠ "java/lang/invoke/VarHandle" ∧ (parseMethodDescriptor yX11_search.desc).map (fun d => d.parameters.length) = some 1 := by decide +kernel
def vX11_search : List Cond := Cond.code yX11_search cX11_search 2 (some .int) :: bG
set_option maxHeartbeats 4000000 in
set_option maxRecDepth 100000 in
theorem bX11_search_11 {z : Nat} {X : xC} {E : cE} (F : mF X E RX11 cX11_search bG) (hR : X.1.2.2.2 = rmK 32 (1 * z) (6 * z)) (hN : X.2.2.1.2.2.2 = 2) {Q : Int → cI → cR → Prop} {Qx : Nat → cI → cR → Prop} (hret : rI X E cX11_search (1 * z) (6 * z) Q) (hX : kXx X E cIds (some .int) (cef E) (pI Q) (pX Qx) (1 * z) (6 * z)) (hz : z = 1 ∨ ∀ k I R, ¬ Qx k I R) {a1 : Int} (ha1 : inR a1) : ∀ (I : cI) (R : cR), cM I R → wX11_search_11 Q Qx a1 I R → cW X (0) (0) 11 [] [] (gw E.1 cIds (cef E (I, R)) ++ []) := by
  intro I R hm hw
  unfold wX11_search_11 at hw
  exact q_thr1 F hX hR (by decide) hz 6 (by decide) wd582 rfl dX11_search_11 dX11_search_14 dX11_search_15 dX11_search_17 dX11_search_20 (fun hz1 => by omega) (fun hz1 => by omega) hm hw
set_option maxHeartbeats 4000000 in
set_option maxRecDepth 100000 in
theorem kcX11_search {l : Launch} {D : va_G} {E : cE} (hfl : l.stackTraces = false) (z : Nat) {Qx : Nat → cI → cR → Prop} (hz : z = 1 ∨ ∀ k I R, ¬ Qx k I R) {a1 : Int} {I : cI} {R : cR} (hm : cM I R) (ha1 : inR a1) {Q : Int → cI → cR → Prop} (hw : wX11_search a1 I R Q Qx) : gMx l D E cIds yX11_search vX11_search (rmK 32 (1 * z) (6 * z)) [.ref (E.1 0), iV a1] (cef E (I, R)) (cef E) (pI Q) (pX Qx) (1 * z) (6 * z) := by
  unfold wX11_search at hw
  refine k_ofWx hfl (own := RX11) (cc := cX11_search) (maxL := 2) (ret := (some .int)) (lv := [(0, .ref (E.1 0)), (1, iV a1)]) (by decide) rfl rfl (Nat.le_of_ble_eq_true rfl) rfl ?_
  intro X hl hR hN hD F hX
  subst hl; subst hD
  have hret := mk_rIx (Q := Q) F hX
  refine q_iload_n F 1 dX11_search_0 rfl rfl ?_
  refine q_iconst F dX11_search_1 ?_
  refine q_icmp_lt F ha1 (⟨by decide, by decide⟩ : inR (1)) 11 dX11_search_2 (by decide) (fun hc => ?_) (fun hc => ?_)
  · have hw := hw.1 hc
    refine q_lv [] rfl ?_
    exact bX11_search_11 F hR hN hret hX hz ha1 I R hm hw
  · have hw := hw.2 hc
    refine q_iload_n F 1 dX11_search_5 rfl rfl ?_
    refine q_bipush F dX11_search_6 (by decide) ?_
    refine q_icmp_le F ha1 (⟨by decide, by decide⟩ : inR (30)) 21 dX11_search_8 (by decide) (fun hc => ?_) (fun hc => ?_)
    · have hw := hw.1 hc
      refine q_aload_n F 0 dX11_search_21 rfl rfl ?_
      refine q_Vvx F hX (by omega) (by omega) (kcX11_requirePuzzle hX.2.2.2.2 z hz hm hw) (cIds_in (show ckd 0 = 9 ∧ 0 < 353 by decide).2) (ceMill (show ckd 0 = 9 ∧ 0 < 353 by decide).1) (ci := 9) rfl (bV wd529 wd530 wd906 wd1 wd531) rfl ⟨rfl, rfl⟩ ydX11_requirePuzzle (rmK_le hR (by omega) (by decide)) (av := []) rfl rfl (Nat.le_of_ble_eq_true rfl) dX11_search_22 (rmK_cs hR (by omega) (by omega)) (fun I2 R3 m5 hw => ?_)
      refine q_aload_n F 0 dX11_search_25 rfl rfl ?_
      refine t_g_Mill_kept F (by decide) ib11 wd197 dX11_search_26 ?_
      refine q_aload_n F 0 dX11_search_29 rfl rfl ?_
      refine t_g_Mill_puzzle F (by decide) ib11 wd201 dX11_search_30 ?_
      refine q_iload_n F 1 dX11_search_33 rfl rfl ?_
      refine q_Vi F (kcX8_findInGrid m5 (Or.inl rfl) (m5.2.1) ha1 hw) (cIds_in (kS0 (Or.inl rfl)).2) (ceSearch (kS0 (Or.inl rfl)).1) (ci := 6) rfl (bV wd600 wd601 wd602 wd6 wd603) rfl ⟨rfl, rfl⟩ ydX8_findInGrid (rmK_le hR (by omega) (by decide)) (av := [.ref (E.1 ((R3 0 7))), iV a1]) rfl rfl (Nat.le_of_ble_eq_true rfl) dX11_search_34 (rmK_cs hR (by omega) (by omega)) (fun r6 I7 R8 h9 m10 hw => ?_)
      refine q_wide (nc' := 1 * z) (ns' := 6 * z) (by omega) (by omega) ?_
      exact hret _ _ _ _ _ _ dX11_search_37 h9 m10 hw
    · have hw := hw.2 hc
      refine q_lv [] rfl ?_
      exact bX11_search_11 F hR hN hret hX hz ha1 I R hm hw
theorem ydX11_solution : yX11_solution.cls = RX11 ∧ yX11_solution.cls ≠ "java/lang/invoke/MethodHandle" ∧ yX11_solution.cls ≠ "java/lang/invoke/VarHandle" ∧ (parseMethodDescriptor yX11_solution.desc).map (fun d => d.parameters.length) = some 2 := by decide +kernel
def vX11_solution : List Cond := Cond.code yX11_solution cX11_solution 3 (some .int) :: bG
set_option maxHeartbeats 4000000 in
set_option maxRecDepth 100000 in
theorem bX11_solution_15 {z : Nat} {X : xC} {E : cE} (F : mF X E RX11 cX11_solution bG) (hR : X.1.2.2.2 = rmK 8 (1 * z) (6 * z)) (hN : X.2.2.1.2.2.2 = 3) {Q : Int → cI → cR → Prop} {Qx : Nat → cI → cR → Prop} (hret : rI X E cX11_solution (1 * z) (6 * z) Q) (hX : kXx X E cIds (some .int) (cef E) (pI Q) (pX Qx) (1 * z) (6 * z)) (hz : z = 1 ∨ ∀ k I R, ¬ Qx k I R) {a1 : Int} {a2 : Int} (ha1 : inR a1) (ha2 : inR a2) : ∀ (I : cI) (R : cR), cM I R → wX11_solution_15 Q Qx a1 a2 I R → cW X (0) (0) 15 [] [] (gw E.1 cIds (cef E (I, R)) ++ []) := by
  intro I R hm hw
  unfold wX11_solution_15 at hw
  exact q_thr2 F hX hR (by decide) hz 7 (by decide) wd459 rfl dX11_solution_15 dX11_solution_18 dX11_solution_19 dX11_solution_21 dX11_solution_24 (fun hz1 => by omega) (fun hz1 => by omega) hm hw
set_option maxHeartbeats 4000000 in
set_option maxRecDepth 100000 in
theorem kcX11_solution {l : Launch} {D : va_G} {E : cE} (hfl : l.stackTraces = false) (z : Nat) {Qx : Nat → cI → cR → Prop} (hz : z = 1 ∨ ∀ k I R, ¬ Qx k I R) {a1 : Int} {a2 : Int} {I : cI} {R : cR} (hm : cM I R) (ha1 : inR a1) (ha2 : inR a2) {Q : Int → cI → cR → Prop} (hw : wX11_solution a1 a2 I R Q Qx) : gMx l D E cIds yX11_solution vX11_solution (rmK 8 (1 * z) (6 * z)) [.ref (E.1 0), iV a1, iV a2] (cef E (I, R)) (cef E) (pI Q) (pX Qx) (1 * z) (6 * z) := by
  unfold wX11_solution at hw
  refine k_ofWx hfl (own := RX11) (cc := cX11_solution) (maxL := 3) (ret := (some .int)) (lv := [(0, .ref (E.1 0)), (1, iV a1), (2, iV a2)]) (by decide) rfl rfl (Nat.le_of_ble_eq_true rfl) rfl ?_
  intro X hl hR hN hD F hX
  subst hl; subst hD
  have hret := mk_rIx (Q := Q) F hX
  refine q_iload_n F 1 dX11_solution_0 rfl rfl ?_
  refine q_if_lt F ha1 15 dX11_solution_1 (by decide) (fun hc => ?_) (fun hc => ?_)
  · have hw := hw.1 hc
    refine q_lv [] rfl ?_
    exact bX11_solution_15 F hR hN hret hX hz ha1 ha2 I R hm hw
  · have hw := hw.2 hc
    refine q_iload_n F 1 dX11_solution_4 rfl rfl ?_
    refine q_aload_n F 0 dX11_solution_5 rfl rfl ?_
    refine t_g_Mill_kept F (by decide) ib11 wd197 dX11_solution_6 ?_
    refine t_g_Search_found F (kS0 (Or.inl rfl)) ib8 wd89 dX11_solution_9 ?_
    refine q_icmp_lt F ha1 (hm.1 _ _) 25 dX11_solution_12 (by decide) (fun hc => ?_) (fun hc => ?_)
    · have hw := hw.1 hc
      refine q_aload_n F 0 dX11_solution_25 rfl rfl ?_
      refine q_iload_n F 2 dX11_solution_26 rfl rfl ?_
      refine q_Vvx F hX (by omega) (by omega) (kcX11_requireCell hX.2.2.2.2 z hz hm ha2 hw) (cIds_in (show ckd 0 = 9 ∧ 0 < 353 by decide).2) (ceMill (show ckd 0 = 9 ∧ 0 < 353 by decide).1) (ci := 9) rfl (bV wd577 wd578 wd912 wd1 wd579) rfl ⟨rfl, rfl⟩ ydX11_requireCell (rmK_le hR (by omega) (by decide)) (av := [iV a2]) rfl rfl (Nat.le_of_ble_eq_true rfl) dX11_solution_27 (rmK_cs hR (by omega) (by omega)) (fun I2 R3 m5 hw => ?_)
      refine q_aload_n F 0 dX11_solution_30 rfl rfl ?_
      refine t_g_Mill_kept F (by decide) ib11 wd197 dX11_solution_31 ?_
      refine t_g_Search_solutions F (kS0 (Or.inl rfl)) ib8 wd87 11 rfl dX11_solution_34 ?_
      refine q_iload_n F 1 dX11_solution_37 rfl rfl ?_
      obtain ⟨k6, hw⟩ := hw
      refine t_qld F (kS1 (Or.inl rfl)) k6 (15 + Int.toNat (a1)) (by omega) dX11_solution_38 ?_
      refine q_iload_n F 2 dX11_solution_39 rfl rfl ?_
      obtain ⟨k7, hw⟩ := hw
      refine t_ald F 25 (kS5 (Or.inl rfl) k6) k7 (by decide) dX11_solution_40 ?_
      refine q_wide (nc' := 1 * z) (ns' := 6 * z) (by omega) (by omega) ?_
      exact hret _ _ _ _ _ _ dX11_solution_41 (m5.1 _ _) m5 hw
    · have hw := hw.2 hc
      refine q_lv [] rfl ?_
      exact bX11_solution_15 F hR hN hret hX hz ha1 ha2 I R hm hw
theorem ydX8_findsJustOne : yX8_findsJustOne.cls = RX8 ∧ yX8_findsJustOne.cls ≠ "java/lang/invoke/MethodHandle" ∧ yX8_findsJustOne.cls ≠ "java/lang/invoke/VarHandle" ∧ (parseMethodDescriptor yX8_findsJustOne.desc).map (fun d => d.parameters.length) = some 2 := by decide +kernel
def vX8_findsJustOne : List Cond := Cond.code yX8_findsJustOne cX8_findsJustOne 3 (some .boolean) :: bG
set_option maxHeartbeats 4000000 in
set_option maxRecDepth 100000 in
theorem kcX8_findsJustOne {l : Launch} {D : va_G} {E : cE} {s0 : Nat} {a1 : Nat} {a2 : Int} {I : cI} {R : cR} (hm : cM I R) (hs0 : isS s0) (ha1 : isP a1) (ha2 : inR a2) {Q : Int → cI → cR → Prop} (hw : wX8_findsJustOne s0 a1 a2 I R Q) : gM l D E cIds yX8_findsJustOne vX8_findsJustOne (rmK 31 (0) (0)) [.ref (E.1 s0), .ref (E.1 a1), iV a2] (cef E (I, R)) (cef E) (pI Q) (0) (0) := by
  unfold wX8_findsJustOne at hw
  refine k_ofW (own := RX8) (cc := cX8_findsJustOne) (maxL := 3) (ret := (some .boolean)) (lv := [(0, .ref (E.1 s0)), (1, .ref (E.1 a1)), (2, iV a2)]) (by decide) rfl rfl (Nat.le_of_ble_eq_true rfl) rfl ?_
  intro X hl hR hN hD F K
  subst hl; subst hD
  have hret := mk_rZ (Q := Q) F K
  refine q_aload_n F 0 dX8_findsJustOne_0 rfl rfl ?_
  refine q_iconst F dX8_findsJustOne_1 ?_
  refine q_iload_n F 2 dX8_findsJustOne_2 rfl rfl ?_
  refine q_Vv F (kcX8_begin hm hs0 (⟨by decide, by decide⟩ : inR (2)) ha2 hw) (cIds_in (kS0 hs0).2) (ceSearch (kS0 hs0).1) (ci := 6) rfl (bV wd604 wd605 wd913 wd6 wd606) rfl ⟨rfl, rfl⟩ ydX8_begin (rmK_le hR (by omega) (by decide)) (av := [iV 2, iV a2]) rfl rfl (Nat.le_of_ble_eq_true rfl) dX8_findsJustOne_3 (rmK_cs hR (by omega) (by omega)) (fun I2 R3 m5 hw => ?_)
  refine q_aload_n F 0 dX8_findsJustOne_6 rfl rfl ?_
  refine q_aload_n F 1 dX8_findsJustOne_7 rfl rfl ?_
  refine q_iconst F dX8_findsJustOne_8 ?_
  refine q_Si F (kcX8_endsFrom 27 m5 hs0 ha1 (⟨by decide, by decide⟩ : inR (0)) hw) (bS wd608 wd609 wd6 wd610) rfl ⟨rfl, rfl⟩ ydX8_endsFrom (rmK_le hR (by omega) (by decide)) (av := [.ref (E.1 s0), .ref (E.1 a1), iV 0]) rfl rfl (Nat.le_of_ble_eq_true rfl) dX8_findsJustOne_9 (rmK_cs hR (by omega) (by omega)) (fun r6 I7 R8 h9 m10 hw => ?_)
  refine q_pop F dX8_findsJustOne_12 rfl ?_
  refine q_aload_n F 0 dX8_findsJustOne_13 rfl rfl ?_
  refine t_g_Search_found F (kS0 hs0) ib8 wd88 dX8_findsJustOne_14 ?_
  refine q_iconst F dX8_findsJustOne_17 ?_
  refine q_icmp_ne F (m10.1 _ _) (⟨by decide, by decide⟩ : inR (1)) 25 dX8_findsJustOne_18 (by decide) (fun hc => ?_) (fun hc => ?_)
  · have hw := hw.1 hc
    refine q_iconst F dX8_findsJustOne_25 ?_
    exact hret _ _ _ _ _ _ dX8_findsJustOne_26 (Or.inl rfl) (⟨by decide, by decide⟩ : inR (0)) m10 hw
  · have hw := hw.2 hc
    refine q_iconst F dX8_findsJustOne_21 ?_
    refine q_goto F 26 dX8_findsJustOne_22 (by decide) ?_
    exact hret _ _ _ _ _ _ dX8_findsJustOne_26 (Or.inr rfl) (⟨by decide, by decide⟩ : inR (1)) m10 hw
theorem ydX11_isNeeded : yX11_isNeeded.cls = RX11 ∧ yX11_isNeeded.cls ≠ "java/lang/invoke/MethodHandle" ∧ yX11_isNeeded.cls ≠ "java/lang/invoke/VarHandle" ∧ (parseMethodDescriptor yX11_isNeeded.desc).map (fun d => d.parameters.length) = some 1 := by decide +kernel
def vX11_isNeeded : List Cond := Cond.code yX11_isNeeded cX11_isNeeded 2 (some .boolean) :: bG
set_option maxHeartbeats 4000000 in
set_option maxRecDepth 100000 in
theorem kcX11_isNeeded {l : Launch} {D : va_G} {E : cE} (hfl : l.stackTraces = false) (z : Nat) {Qx : Nat → cI → cR → Prop} (hz : z = 1 ∨ ∀ k I R, ¬ Qx k I R) {a1 : Int} {I : cI} {R : cR} (hm : cM I R) (ha1 : inR a1) {Q : Int → cI → cR → Prop} (hw : wX11_isNeeded a1 I R Q Qx) : gMx l D E cIds yX11_isNeeded vX11_isNeeded (rmK 32 (1 * z) (6 * z)) [.ref (E.1 0), iV a1] (cef E (I, R)) (cef E) (pI Q) (pX Qx) (1 * z) (6 * z) := by
  unfold wX11_isNeeded at hw
  refine k_ofWx hfl (own := RX11) (cc := cX11_isNeeded) (maxL := 2) (ret := (some .boolean)) (lv := [(0, .ref (E.1 0)), (1, iV a1)]) (by decide) rfl rfl (Nat.le_of_ble_eq_true rfl) rfl ?_
  intro X hl hR hN hD F hX
  subst hl; subst hD
  have hret := mk_rZx (Q := Q) F hX
  refine q_aload_n F 0 dX11_isNeeded_0 rfl rfl ?_
  refine q_iload_n F 1 dX11_isNeeded_1 rfl rfl ?_
  refine q_Vvx F hX (by omega) (by omega) (kcX11_requireRule hX.2.2.2.2 z hz hm ha1 hw) (cIds_in (show ckd 0 = 9 ∧ 0 < 353 by decide).2) (ceMill (show ckd 0 = 9 ∧ 0 < 353 by decide).1) (ci := 9) rfl (bV wd507 wd508 wd905 wd1 wd509) rfl ⟨rfl, rfl⟩ ydX11_requireRule (rmK_le hR (by omega) (by decide)) (av := [iV a1]) rfl rfl (Nat.le_of_ble_eq_true rfl) dX11_isNeeded_2 (rmK_cs hR (by omega) (by omega)) (fun I2 R3 m5 hw => ?_)
  refine q_aload_n F 0 dX11_isNeeded_5 rfl rfl ?_
  refine t_g_Mill_probe F (by decide) ib11 wd198 dX11_isNeeded_6 ?_
  refine q_aload_n F 0 dX11_isNeeded_9 rfl rfl ?_
  refine t_g_Mill_puzzle F (by decide) ib11 wd201 dX11_isNeeded_10 ?_
  refine q_iconst F dX11_isNeeded_13 ?_
  refine q_Vi F (kcX8_findsJustOne m5 (Or.inr rfl) (m5.2.1) (⟨by decide, by decide⟩ : inR (-1)) hw) (cIds_in (kS0 (Or.inr rfl)).2) (ceSearch (kS0 (Or.inr rfl)).1) (ci := 6) rfl (bV wd634 wd635 wd636 wd6 wd637) rfl ⟨rfl, rfl⟩ ydX8_findsJustOne (rmK_le hR (by omega) (by decide)) (av := [.ref (E.1 ((R3 0 7))), iV (-1)]) rfl rfl (Nat.le_of_ble_eq_true rfl) dX11_isNeeded_14 (rmK_cs hR (by omega) (by omega)) (fun r6 I7 R8 h9 m10 hw => ?_)
  refine q_if_eq F h9 35 dX11_isNeeded_17 (by decide) (fun hc => ?_) (fun hc => ?_)
  · have hw := hw.1 hc
    refine q_iconst F dX11_isNeeded_35 ?_
    refine q_goto F 40 dX11_isNeeded_36 (by decide) ?_
    refine q_wide (nc' := 1 * z) (ns' := 6 * z) (by omega) (by omega) ?_
    exact hret _ _ _ _ _ _ dX11_isNeeded_40 (Or.inr rfl) (⟨by decide, by decide⟩ : inR (1)) m10 hw
  · have hw := hw.2 hc
    refine q_aload_n F 0 dX11_isNeeded_20 rfl rfl ?_
    refine t_g_Mill_probe F (by decide) ib11 wd198 dX11_isNeeded_21 ?_
    refine q_aload_n F 0 dX11_isNeeded_24 rfl rfl ?_
    refine t_g_Mill_puzzle F (by decide) ib11 wd201 dX11_isNeeded_25 ?_
    refine q_iload_n F 1 dX11_isNeeded_28 rfl rfl ?_
    refine q_Vi F (kcX8_findsJustOne m10 (Or.inr rfl) (m10.2.1) ha1 hw) (cIds_in (kS0 (Or.inr rfl)).2) (ceSearch (kS0 (Or.inr rfl)).1) (ci := 6) rfl (bV wd634 wd635 wd636 wd6 wd637) rfl ⟨rfl, rfl⟩ ydX8_findsJustOne (rmK_le hR (by omega) (by decide)) (av := [.ref (E.1 ((R8 0 7))), iV a1]) rfl rfl (Nat.le_of_ble_eq_true rfl) dX11_isNeeded_29 (rmK_cs hR (by omega) (by omega)) (fun r11 I12 R13 h14 m15 hw => ?_)
    refine q_if_ne F h14 39 dX11_isNeeded_32 (by decide) (fun hc => ?_) (fun hc => ?_)
    · have hw := hw.1 hc
      refine q_iconst F dX11_isNeeded_39 ?_
      refine q_wide (nc' := 1 * z) (ns' := 6 * z) (by omega) (by omega) ?_
      exact hret _ _ _ _ _ _ dX11_isNeeded_40 (Or.inl rfl) (⟨by decide, by decide⟩ : inR (0)) m15 hw
    · have hw := hw.2 hc
      refine q_iconst F dX11_isNeeded_35 ?_
      refine q_goto F 40 dX11_isNeeded_36 (by decide) ?_
      refine q_wide (nc' := 1 * z) (ns' := 6 * z) (by omega) (by omega) ?_
      exact hret _ _ _ _ _ _ dX11_isNeeded_40 (Or.inr rfl) (⟨by decide, by decide⟩ : inR (1)) m15 hw
