/-! ===== walks: X6_countValues, X11_look, X11_possible, X6_hasValue, X6_holdsFrom, X6_isRefuted, X6_gradeOf, X6_findFirstBy, X6_findFirst, X11_hint, X6_takeOut, X6_deduceBy, X6_doPasses, X11_reason, X6_countCellsWith, X11_reasoned, X7_takeParts, X4_becomeCopyWithoutGivens ===== -/
theorem ydX6_countValues : yX6_countValues.cls = RX6 ∧ yX6_countValues.cls ≠ "java/lang/invoke/MethodHandle" ∧ yX6_countValues.cls ≠ "java/lang/invoke/VarHandle" ∧ (parseMethodDescriptor yX6_countValues.desc).map (fun d => d.parameters.length) = some 1 := by decide +kernel
def vX6_countValues : List Cond := Cond.code yX6_countValues cX6_countValues 4 (some .int) :: bG
set_option maxHeartbeats 4000000 in
set_option maxRecDepth 100000 in
theorem bX6_countValues_4 {X : xC} {E : cE} (F : mF X E RX6 cX6_countValues bG) (hR : X.1.2.2.2 = rmK 2 (0) (0)) (hN : X.2.2.1.2.2.2 = 4) {Q : Int → cI → cR → Prop} (hret : rI X E cX6_countValues (0) (0) Q) {a1 : Nat} (ha1 : isP a1) : ∀ n4 : Nat, ∀ (x2 : Int) (x3 : Int) (I : cI) (R : cR), inR x2 → inR x3 → cM I R → wX6_countValues_4 Q a1 n4 x2 x3 I R → cW X (0) (0) 4 [(0, .ref (E.1 80)), (1, .ref (E.1 a1)), (2, iV x2), (3, iV x3)] [] (gw E.1 cIds (cef E (I, R)) ++ []) := by
  intro n4
  induction n4 with
  | zero => intro x2 x3 I R hx2 hx3 hm hw; exact hw.elim
  | succ n4 ih =>
    intro x2 x3 I R hx2 hx3 hm hw
    change wbX6_countValues_4 Q a1 (wX6_countValues_4 Q a1 n4) x2 x3 I R at hw
    unfold wbX6_countValues_4 at hw
    refine q_iload_n F 3 dX6_countValues_4 rfl rfl ?_
    refine q_aload_n F 1 dX6_countValues_5 rfl rfl ?_
    refine q_Vi F (kcX4_cellCount hm ha1 hw) (cIds_in (kP0 ha1).2) (cePuzzle (kP0 ha1).1) (ci := 2) rfl (bV wd403 wd404 wd405 wd9 wd406) rfl ⟨rfl, rfl⟩ ydX4_cellCount (rmK_le hR (by omega) (by decide)) (av := []) rfl rfl (Nat.le_of_ble_eq_true rfl) dX6_countValues_6 (rmK_cs hR (by omega) (by omega)) (fun r1 I2 R3 h4 m5 hw => ?_)
    refine q_icmp_ge F hx3 h4 30 dX6_countValues_9 (by decide) (fun hc => ?_) (fun hc => ?_)
    · have hw := hw.1 hc
      refine q_iload_n F 2 dX6_countValues_30 rfl rfl ?_
      exact hret _ _ _ _ _ _ dX6_countValues_31 hx2 m5 hw
    · have hw := hw.2 hc
      refine q_iload_n F 2 dX6_countValues_12 rfl rfl ?_
      refine q_aload_n F 0 dX6_countValues_13 rfl rfl ?_
      refine t_g_Reasoner_sets F (by decide) ib6 wd104 81 rfl dX6_countValues_14 ?_
      refine q_iload_n F 3 dX6_countValues_17 rfl rfl ?_
      obtain ⟨k6, hw⟩ := hw
      refine t_ald F 25 kA_81 k6 (by decide) dX6_countValues_18 ?_
      refine q_bc F hR (by omega) (m5.1 _ _) wd646 dX6_countValues_19 (Nat.le_of_ble_eq_true rfl) ?_
      refine q_iadd F dX6_countValues_22 ?_
      obtain ⟨k7, hw⟩ := hw
      obtain ⟨z8, e9⟩ := ex1 ((x2 + (bc ((I2 81 x3)))))
      have hw := hw z8 e9
      have hz8 : inR z8 := by rw [e9]; exact k7
      refine q_top e9 ?_
      refine q_istore_n (lv' := [(0, .ref (E.1 80)), (1, .ref (E.1 a1)), (2, iV z8), (3, iV x3)]) F [1, 2, 0, 3] dX6_countValues_23 rfl (q_n hN (by decide)) rfl ?_
      obtain ⟨k12, hw⟩ := hw
      obtain ⟨z10, e11⟩ := ex1 (x3 + 1)
      have hw := hw z10 e11
      have hz10 : inR z10 := by rw [e11]; exact k12
      refine q_iinc (lv' := [(0, .ref (E.1 80)), (1, .ref (E.1 a1)), (2, iV z8), (3, iV z10)]) F 3 [1, 2, 3, 0] dX6_countValues_24 rfl (q_n hN (by decide)) e11.symm rfl ?_
      refine q_goto F 4 dX6_countValues_27 (by decide) ?_
      exact ih z8 z10 I2 R3 hz8 hz10 m5 hw
set_option maxHeartbeats 4000000 in
set_option maxRecDepth 100000 in
theorem kcX6_countValues {l : Launch} {D : va_G} {E : cE} {a1 : Nat} {I : cI} {R : cR} (hm : cM I R) (ha1 : isP a1) {Q : Int → cI → cR → Prop} (hw : wX6_countValues a1 I R Q) : gM l D E cIds yX6_countValues vX6_countValues (rmK 2 (0) (0)) [.ref (E.1 80), .ref (E.1 a1)] (cef E (I, R)) (cef E) (pI Q) (0) (0) := by
  unfold wX6_countValues at hw
  refine k_ofW (own := RX6) (cc := cX6_countValues) (maxL := 4) (ret := (some .int)) (lv := [(0, .ref (E.1 80)), (1, .ref (E.1 a1))]) (by decide) rfl rfl (Nat.le_of_ble_eq_true rfl) rfl ?_
  intro X hl hR hN hD F K
  subst hl; subst hD
  have hret := mk_rI (Q := Q) F K
  refine q_iconst F dX6_countValues_0 ?_
  refine q_istore_n (lv' := [(0, .ref (E.1 80)), (1, .ref (E.1 a1)), (2, iV 0)]) F [1, 2, 0] dX6_countValues_1 rfl (q_n hN (by decide)) rfl ?_
  refine q_iconst F dX6_countValues_2 ?_
  refine q_istore_n (lv' := [(0, .ref (E.1 80)), (1, .ref (E.1 a1)), (2, iV 0), (3, iV 0)]) F [1, 2, 3, 0] dX6_countValues_3 rfl (q_n hN (by decide)) rfl ?_
  obtain ⟨n1, hw⟩ := hw
  exact bX6_countValues_4 F hR hN hret ha1 n1 0 0 I R (⟨by decide, by decide⟩ : inR (0)) (⟨by decide, by decide⟩ : inR (0)) hm hw
theorem ydX11_look : yX11_look.cls = RX11 ∧ yX11_look.cls ≠ "java/lang/invoke/MethodHandle" ∧ yX11_look.cls ≠ "java/lang/invoke/VarHandle" ∧ (parseMethodDescriptor yX11_look.desc).map (fun d => d.parameters.length) = some 0 := by decide +kernel
def vX11_look : List Cond := Cond.code yX11_look cX11_look 1 (some .int) :: bG
set_option maxHeartbeats 4000000 in
set_option maxRecDepth 100000 in
theorem kcX11_look {l : Launch} {D : va_G} {E : cE} {I : cI} {R : cR} (hm : cM I R)  {Q : Int → cI → cR → Prop} (hw : wX11_look  I R Q) : gM l D E cIds yX11_look vX11_look (rmK 3 (0) (0)) [.ref (E.1 0)] (cef E (I, R)) (cef E) (pI Q) (0) (0) := by
  unfold wX11_look at hw
  refine k_ofW (own := RX11) (cc := cX11_look) (maxL := 1) (ret := (some .int)) (lv := [(0, .ref (E.1 0))]) (by decide) rfl rfl (Nat.le_of_ble_eq_true rfl) rfl ?_
  intro X hl hR hN hD F K
  subst hl; subst hD
  have hret := mk_rI (Q := Q) F K
  refine q_aload_n F 0 dX11_look_0 rfl rfl ?_
  refine t_g_Mill_reasoner F (by decide) ib11 wd199 dX11_look_1 ?_
  refine q_aload_n F 0 dX11_look_4 rfl rfl ?_
  refine t_g_Mill_puzzle F (by decide) ib11 wd201 dX11_look_5 ?_
  refine q_Vv F (kcX6_begin hm (hm.2.1) hw) (cIds_in (show ckd 80 = 4 ∧ 80 < 353 by decide).2) (ceReasoner (show ckd 80 = 4 ∧ 80 < 353 by decide).1) (ci := 4) rfl (bV wd399 wd400 wd401 wd7 wd402) rfl ⟨rfl, rfl⟩ ydX6_begin (rmK_le hR (by omega) (by decide)) (av := [.ref (E.1 ((R 0 7)))]) rfl rfl (Nat.le_of_ble_eq_true rfl) dX11_look_8 (rmK_cs hR (by omega) (by omega)) (fun I2 R3 m5 hw => ?_)
  refine q_aload_n F 0 dX11_look_11 rfl rfl ?_
  refine t_g_Mill_reasoner F (by decide) ib11 wd199 dX11_look_12 ?_
  refine q_aload_n F 0 dX11_look_15 rfl rfl ?_
  refine t_g_Mill_puzzle F (by decide) ib11 wd201 dX11_look_16 ?_
  refine q_Vi F (kcX6_countValues m5 (m5.2.1) hw) (cIds_in (show ckd 80 = 4 ∧ 80 < 353 by decide).2) (ceReasoner (show ckd 80 = 4 ∧ 80 < 353 by decide).1) (ci := 4) rfl (bV wd642 wd643 wd644 wd7 wd645) rfl ⟨rfl, rfl⟩ ydX6_countValues (rmK_le hR (by omega) (by decide)) (av := [.ref (E.1 ((R3 0 7)))]) rfl rfl (Nat.le_of_ble_eq_true rfl) dX11_look_19 (rmK_cs hR (by omega) (by omega)) (fun r6 I7 R8 h9 m10 hw => ?_)
  exact hret _ _ _ _ _ _ dX11_look_22 h9 m10 hw
theorem ydX11_possible : yX11_possible.cls = RX11 ∧ yX11_possible.cls ≠ "java/lang/invoke/MethodHandle" ∧ yX11_possible.cls ≠ "java/lang/invoke/VarHandle" ∧ (parseMethodDescriptor yX11_possible.desc).map (fun d => d.parameters.length) = some 1 := by decide +kernel
def vX11_possible : List Cond := Cond.code yX11_possible cX11_possible 2 (some .int) :: bG
set_option maxHeartbeats 4000000 in
set_option maxRecDepth 100000 in
theorem kcX11_possible {l : Launch} {D : va_G} {E : cE} (hfl : l.stackTraces = false) (z : Nat) {Qx : Nat → cI → cR → Prop} (hz : z = 1 ∨ ∀ k I R, ¬ Qx k I R) {a1 : Int} {I : cI} {R : cR} (hm : cM I R) (ha1 : inR a1) {Q : Int → cI → cR → Prop} (hw : wX11_possible a1 I R Q Qx) : gMx l D E cIds yX11_possible vX11_possible (rmK 8 (1 * z) (6 * z)) [.ref (E.1 0), iV a1] (cef E (I, R)) (cef E) (pI Q) (pX Qx) (1 * z) (6 * z) := by
  unfold wX11_possible at hw
  refine k_ofWx hfl (own := RX11) (cc := cX11_possible) (maxL := 2) (ret := (some .int)) (lv := [(0, .ref (E.1 0)), (1, iV a1)]) (by decide) rfl rfl (Nat.le_of_ble_eq_true rfl) rfl ?_
  intro X hl hR hN hD F hX
  subst hl; subst hD
  have hret := mk_rIx (Q := Q) F hX
  refine q_aload_n F 0 dX11_possible_0 rfl rfl ?_
  refine q_iload_n F 1 dX11_possible_1 rfl rfl ?_
  refine q_Vvx F hX (by omega) (by omega) (kcX11_requireCell hX.2.2.2.2 z hz hm ha1 hw) (cIds_in (show ckd 0 = 9 ∧ 0 < 353 by decide).2) (ceMill (show ckd 0 = 9 ∧ 0 < 353 by decide).1) (ci := 9) rfl (bV wd577 wd578 wd912 wd1 wd579) rfl ⟨rfl, rfl⟩ ydX11_requireCell (rmK_le hR (by omega) (by decide)) (av := [iV a1]) rfl rfl (Nat.le_of_ble_eq_true rfl) dX11_possible_2 (rmK_cs hR (by omega) (by omega)) (fun I2 R3 m5 hw => ?_)
  refine q_aload_n F 0 dX11_possible_5 rfl rfl ?_
  refine t_g_Mill_reasoner F (by decide) ib11 wd199 dX11_possible_6 ?_
  refine t_g_Reasoner_sets F (by decide) ib6 wd105 81 rfl dX11_possible_9 ?_
  refine q_iload_n F 1 dX11_possible_12 rfl rfl ?_
  obtain ⟨k6, hw⟩ := hw
  refine t_ald F 25 kA_81 k6 (by decide) dX11_possible_13 ?_
  refine q_wide (nc' := 1 * z) (ns' := 6 * z) (by omega) (by omega) ?_
  exact hret _ _ _ _ _ _ dX11_possible_14 (m5.1 _ _) m5 hw
theorem ydX6_hasValue : yX6_hasValue.cls = RX6 ∧ yX6_hasValue.cls ≠ "java/lang/invoke/MethodHandle" ∧ yX6_hasValue.cls ≠ "java/lang/invoke/VarHandle" ∧ (parseMethodDescriptor yX6_hasValue.desc).map (fun d => d.parameters.length) = some 2 := by decide +kernel
def vX6_hasValue : List Cond := Cond.code yX6_hasValue cX6_hasValue 3 (some .boolean) :: bG
set_option maxHeartbeats 4000000 in
set_option maxRecDepth 100000 in
theorem kcX6_hasValue {l : Launch} {D : va_G} {E : cE} {a1 : Int} {a2 : Int} {I : cI} {R : cR} (hm : cM I R) (ha1 : inR a1) (ha2 : inR a2) {Q : Int → cI → cR → Prop} (hw : wX6_hasValue a1 a2 I R Q) : gM l D E cIds yX6_hasValue vX6_hasValue (rmK 1 (0) (0)) [.ref (E.1 80), iV a1, iV a2] (cef E (I, R)) (cef E) (pI Q) (0) (0) := by
  unfold wX6_hasValue at hw
  refine k_ofW (own := RX6) (cc := cX6_hasValue) (maxL := 3) (ret := (some .boolean)) (lv := [(0, .ref (E.1 80)), (1, iV a1), (2, iV a2)]) (by decide) rfl rfl (Nat.le_of_ble_eq_true rfl) rfl ?_
  intro X hl hR hN hD F K
  subst hl; subst hD
  have hret := mk_rZ (Q := Q) F K
  refine q_aload_n F 0 dX6_hasValue_0 rfl rfl ?_
  refine t_g_Reasoner_sets F (by decide) ib6 wd104 81 rfl dX6_hasValue_1 ?_
  refine q_iload_n F 1 dX6_hasValue_4 rfl rfl ?_
  obtain ⟨k1, hw⟩ := hw
  refine t_ald F 25 kA_81 k1 (by decide) dX6_hasValue_5 ?_
  refine q_iload_n F 2 dX6_hasValue_6 rfl rfl ?_
  refine q_iconst F dX6_hasValue_7 ?_
  refine q_isub F dX6_hasValue_8 ?_
  refine q_ishr F dX6_hasValue_9 ?_
  refine q_iconst F dX6_hasValue_10 ?_
  refine q_iand F dX6_hasValue_11 ?_
  refine q_if_eq F (ti_rng _) 19 dX6_hasValue_12 (by decide) (fun hc => ?_) (fun hc => ?_)
  · have hw := hw.1 hc
    refine q_iconst F dX6_hasValue_19 ?_
    exact hret _ _ _ _ _ _ dX6_hasValue_20 (Or.inl rfl) (⟨by decide, by decide⟩ : inR (0)) hm hw
  · have hw := hw.2 hc
    refine q_iconst F dX6_hasValue_15 ?_
    refine q_goto F 20 dX6_hasValue_16 (by decide) ?_
    exact hret _ _ _ _ _ _ dX6_hasValue_20 (Or.inr rfl) (⟨by decide, by decide⟩ : inR (1)) hm hw
theorem ydX6_holdsFrom : yX6_holdsFrom.cls = RX6 ∧ yX6_holdsFrom.cls ≠ "java/lang/invoke/MethodHandle" ∧ yX6_holdsFrom.cls ≠ "java/lang/invoke/VarHandle" ∧ (parseMethodDescriptor yX6_holdsFrom.desc).map (fun d => d.parameters.length) = some 5 := by decide +kernel
def vX6_holdsFrom : List Cond := Cond.code yX6_holdsFrom cX6_holdsFrom 7 (some .boolean) :: bG
set_option maxHeartbeats 4000000 in
set_option maxRecDepth 100000 in
theorem bX6_holdsFrom_53 {d : Nat} {X : xC} {E : cE} (F : mF X E RX6 cX6_holdsFrom bG) (hR : X.1.2.2.2 = rmK (2 + d + 1) 0 0) (hN : X.2.2.1.2.2.2 = 7) {Q : Int → cI → cR → Prop} (hret : rZ X E cX6_holdsFrom (0) (0) Q) {rc : Nat → Int → Int → Int → cI → cR → (Int → cI → cR → Prop) → Prop} (hrec : ∀ (a1 : Nat) (a2 : Int) (a3 : Int) (a4 : Int) (I : cI) (R : cR) (Q' : Int → cI → cR → Prop), isR a1 → inR a2 → inR a3 → inR a4 → cM I R → rc a1 a2 a3 a4 I R Q' → gM X.1.2.1 X.2.2.2.2 E cIds yX6_holdsFrom vX6_holdsFrom (rmK (2 + d) 0 0) [.ref (E.1 80), .ref (E.1 a1), iV a2, iV a3, iV a4] (cef E (I, R)) (cef E) (pI Q') 0 0) {a1 : Nat} {a2 : Int} {a3 : Int} {a4 : Int} (ha1 : isR a1) (ha2 : inR a2) (ha3 : inR a3) (ha4 : inR a4) : ∀ n53 : Nat, ∀ (x5 : Int) (x6 : Int) (I : cI) (R : cR), inR x5 → inR x6 → cM I R → wX6_holdsFrom_53 rc Q a1 a2 a3 a4 n53 x5 x6 I R → cW X (0) (0) 53 [(0, .ref (E.1 80)), (1, .ref (E.1 a1)), (2, iV a2), (3, iV a3), (4, iV a4), (5, iV x5), (6, iV x6)] [] (gw E.1 cIds (cef E (I, R)) ++ []) := by
  intro n53
  induction n53 with
  | zero => intro x5 x6 I R hx5 hx6 hm hw; exact hw.elim
  | succ n53 ih =>
    intro x5 x6 I R hx5 hx6 hm hw
    change wbX6_holdsFrom_53 rc Q a1 a2 a3 a4 (wX6_holdsFrom_53 rc Q a1 a2 a3 a4 n53) x5 x6 I R at hw
    unfold wbX6_holdsFrom_53 at hw
    refine q_iload F 6 dX6_holdsFrom_53 rfl ?_
    refine q_iload F 4 dX6_holdsFrom_55 rfl ?_
    refine q_icmp_gt F hx6 ha4 102 dX6_holdsFrom_57 (by decide) (fun hc => ?_) (fun hc => ?_)
    · have hw := hw.1 hc
      refine q_aload_n F 0 dX6_holdsFrom_102 rfl rfl ?_
      refine t_g_Reasoner_values F (by decide) ib6 wd118 82 rfl dX6_holdsFrom_103 ?_
      refine q_iload F 5 dX6_holdsFrom_106 rfl ?_
      refine q_iconst F dX6_holdsFrom_108 ?_
      obtain ⟨k1, hw⟩ := hw
      obtain ⟨I2, e3⟩ := ex1 (up2 I 82 x5 0)
      have hw := hw I2 e3
      have m4 : cM I2 R := cM_I hm e3 (⟨by decide, by decide⟩ : inR (0))
      refine t_ast F 25 kA_82 k1 (by decide) e3 dX6_holdsFrom_109 ?_
      refine q_iconst F dX6_holdsFrom_110 ?_
      exact hret _ _ _ _ _ _ dX6_holdsFrom_111 (Or.inl rfl) (⟨by decide, by decide⟩ : inR (0)) m4 hw
    · have hw := hw.2 hc
      refine q_aload_n F 0 dX6_holdsFrom_60 rfl rfl ?_
      refine q_iload F 5 dX6_holdsFrom_61 rfl ?_
      refine q_iload F 6 dX6_holdsFrom_63 rfl ?_
      refine q_Vi F (kcX6_hasValue hm hx5 hx6 hw) (cIds_in (show ckd 80 = 4 ∧ 80 < 353 by decide).2) (ceReasoner (show ckd 80 = 4 ∧ 80 < 353 by decide).1) (ci := 4) rfl (bV wd671 wd672 wd919 wd7 wd673) rfl ⟨rfl, rfl⟩ ydX6_hasValue (rmK_le hR (by omega) (by decide)) (av := [iV x5, iV x6]) rfl rfl (Nat.le_of_ble_eq_true rfl) dX6_holdsFrom_65 (rmK_cs hR (by omega) (by omega)) (fun r5 I6 R7 h8 m9 hw => ?_)
      refine q_if_eq F h8 96 dX6_holdsFrom_68 (by decide) (fun hc => ?_) (fun hc => ?_)
      · have hw := hw.1 hc
        obtain ⟨k12, hw⟩ := hw
        obtain ⟨z10, e11⟩ := ex1 (x6 + 1)
        have hw := hw z10 e11
        have hz10 : inR z10 := by rw [e11]; exact k12
        refine q_iinc (lv' := [(0, .ref (E.1 80)), (1, .ref (E.1 a1)), (2, iV a2), (3, iV a3), (4, iV a4), (5, iV x5), (6, iV z10)]) F 6 [1, 2, 3, 4, 5, 6, 0] dX6_holdsFrom_96 rfl (q_n hN (by decide)) e11.symm rfl ?_
        refine q_goto F 53 dX6_holdsFrom_99 (by decide) ?_
        exact ih x5 z10 I6 R7 hx5 hz10 m9 hw
      · have hw := hw.2 hc
        refine q_aload_n F 0 dX6_holdsFrom_71 rfl rfl ?_
        refine t_g_Reasoner_values F (by decide) ib6 wd118 82 rfl dX6_holdsFrom_72 ?_
        refine q_iload F 5 dX6_holdsFrom_75 rfl ?_
        refine q_iload F 6 dX6_holdsFrom_77 rfl ?_
        obtain ⟨k13, hw⟩ := hw
        obtain ⟨I14, e15⟩ := ex1 (up2 I6 82 x5 x6)
        have hw := hw I14 e15
        have m16 : cM I14 R7 := cM_I m9 e15 hx6
        refine t_ast F 25 kA_82 k13 (by decide) e15 dX6_holdsFrom_79 ?_
        refine q_aload_n F 0 dX6_holdsFrom_80 rfl rfl ?_
        refine q_aload_n F 1 dX6_holdsFrom_81 rfl rfl ?_
        refine q_iload_n F 2 dX6_holdsFrom_82 rfl rfl ?_
        refine q_iload_n F 3 dX6_holdsFrom_83 rfl rfl ?_
        refine q_iconst F dX6_holdsFrom_84 ?_
        refine q_iadd F dX6_holdsFrom_85 ?_
        refine q_iload F 4 dX6_holdsFrom_86 rfl ?_
        obtain ⟨k17, hw⟩ := hw
        refine q_Si F (hrec a1 a2 ((a3 + 1)) a4 I14 R7 _ ha1 ha2 k17 ha4 m16 hw) (bS wd674 wd675 wd7 wd676) rfl ⟨rfl, rfl⟩ ydX6_holdsFrom (rmK_le hR (by omega) (by decide)) (av := [.ref (E.1 80), .ref (E.1 a1), iV a2, iV ((a3 + 1)), iV a4]) rfl rfl (Nat.le_of_ble_eq_true rfl) dX6_holdsFrom_88 (rmK_cs hR (by omega) (by omega)) (fun r18 I19 R20 h21 m22 hw => ?_)
        refine q_if_eq F h21 96 dX6_holdsFrom_91 (by decide) (fun hc => ?_) (fun hc => ?_)
        · have hw := hw.1 hc
          obtain ⟨k25, hw⟩ := hw
          obtain ⟨z23, e24⟩ := ex1 (x6 + 1)
          have hw := hw z23 e24
          have hz23 : inR z23 := by rw [e24]; exact k25
          refine q_iinc (lv' := [(0, .ref (E.1 80)), (1, .ref (E.1 a1)), (2, iV a2), (3, iV a3), (4, iV a4), (5, iV x5), (6, iV z23)]) F 6 [1, 2, 3, 4, 5, 6, 0] dX6_holdsFrom_96 rfl (q_n hN (by decide)) e24.symm rfl ?_
          refine q_goto F 53 dX6_holdsFrom_99 (by decide) ?_
          exact ih x5 z23 I19 R20 hx5 hz23 m22 hw
        · have hw := hw.2 hc
          refine q_iconst F dX6_holdsFrom_94 ?_
          exact hret _ _ _ _ _ _ dX6_holdsFrom_95 (Or.inr rfl) (⟨by decide, by decide⟩ : inR (1)) m22 hw
set_option maxHeartbeats 4000000 in
set_option maxRecDepth 100000 in
theorem crX6_holdsFrom {l : Launch} {D : va_G} {E : cE} : ∀ (d : Nat) (a1 : Nat) (a2 : Int) (a3 : Int) (a4 : Int) (I : cI) (R : cR) (Q : Int → cI → cR → Prop), isR a1 → inR a2 → inR a3 → inR a4 → cM I R → wX6_holdsFrom d a1 a2 a3 a4 I R Q → gM l D E cIds yX6_holdsFrom vX6_holdsFrom (rmK (2 + d) 0 0) [.ref (E.1 80), .ref (E.1 a1), iV a2, iV a3, iV a4] (cef E (I, R)) (cef E) (pI Q) 0 0 := by
  intro d
  induction d with
  | zero => intro a1 a2 a3 a4 I R Q ha1 ha2 ha3 ha4 hm hw; exact hw.elim
  | succ d ihd =>
    intro a1 a2 a3 a4 I R Q ha1 ha2 ha3 ha4 hm hw
    change wbX6_holdsFrom (wX6_holdsFrom d) a1 a2 a3 a4 I R Q at hw
    unfold wbX6_holdsFrom at hw
    refine k_ofW (own := RX6) (cc := cX6_holdsFrom) (maxL := 7) (ret := (some .boolean)) (lv := [(0, .ref (E.1 80)), (1, .ref (E.1 a1)), (2, iV a2), (3, iV a3), (4, iV a4)]) (by decide) rfl rfl (Nat.le_of_ble_eq_true rfl) rfl ?_
    intro X hl hR hN hD F K
    subst hl; subst hD
    have hrec := ihd
    have hret := mk_rZ (Q := Q) F K
    refine q_aload_n F 1 dX6_holdsFrom_0 rfl rfl ?_
    refine q_aload_n F 0 dX6_holdsFrom_1 rfl rfl ?_
    refine t_g_Reasoner_values F (by decide) ib6 wd118 82 rfl dX6_holdsFrom_2 ?_
    refine q_iload F 4 dX6_holdsFrom_5 rfl ?_
    refine q_Vi F (kcX7_isBroken hm ha1 kA_82 ha4 hw) (cIds_in (kR0 ha1).2) (ceRule (kR0 ha1).1) (ci := 5) rfl (bV wd677 wd427 wd428 wd10 wd429) rfl ⟨rfl, rfl⟩ ydX7_isBroken (rmK_le hR (by omega) (by decide)) (av := [.ref (E.1 82), iV a4]) rfl rfl (Nat.le_of_ble_eq_true rfl) dX6_holdsFrom_7 (rmK_cs hR (by omega) (by omega)) (fun r1 I2 R3 h4 m5 hw => ?_)
    refine q_if_eq F h4 15 dX6_holdsFrom_10 (by decide) (fun hc => ?_) (fun hc => ?_)
    · have hw := hw.1 hc
      refine q_iload_n F 3 dX6_holdsFrom_15 rfl rfl ?_
      refine q_aload_n F 1 dX6_holdsFrom_16 rfl rfl ?_
      refine t_g_Rule_size F (kR0 ha1) ib7 wd158 dX6_holdsFrom_17 ?_
      refine q_icmp_lt F ha3 (m5.1 _ _) 25 dX6_holdsFrom_20 (by decide) (fun hc => ?_) (fun hc => ?_)
      · have hw := hw.1 hc
        refine q_iload_n F 3 dX6_holdsFrom_25 rfl rfl ?_
        refine q_iload_n F 2 dX6_holdsFrom_26 rfl rfl ?_
        refine q_icmp_ne F ha3 ha2 42 dX6_holdsFrom_27 (by decide) (fun hc => ?_) (fun hc => ?_)
        · have hw := hw.1 hc
          refine q_aload_n F 1 dX6_holdsFrom_42 rfl rfl ?_
          refine t_g_Rule_cells F (kR0 ha1) ib7 wd163 (a1 + 130) rfl dX6_holdsFrom_43 ?_
          refine q_iload_n F 3 dX6_holdsFrom_46 rfl rfl ?_
          obtain ⟨k6, hw⟩ := hw
          refine t_ald F 5 (kR4 ha1) k6 (by decide) dX6_holdsFrom_47 ?_
          obtain ⟨z7, e8⟩ := ex1 ((I2 (a1 + 130) a3))
          have hw := hw z7 e8
          have hz7 : inR z7 := by rw [e8]; exact (m5.1 _ _)
          refine q_top e8 ?_
          refine q_istore (lv' := [(0, .ref (E.1 80)), (1, .ref (E.1 a1)), (2, iV a2), (3, iV a3), (4, iV a4), (5, iV z7)]) F [1, 2, 3, 4, 5, 0] dX6_holdsFrom_48 (q_n hN (by decide)) rfl ?_
          refine q_iconst F dX6_holdsFrom_50 ?_
          refine q_istore (lv' := [(0, .ref (E.1 80)), (1, .ref (E.1 a1)), (2, iV a2), (3, iV a3), (4, iV a4), (5, iV z7), (6, iV 1)]) F [1, 2, 3, 4, 5, 6, 0] dX6_holdsFrom_51 (q_n hN (by decide)) rfl ?_
          obtain ⟨n9, hw⟩ := hw
          exact bX6_holdsFrom_53 F hR hN hret hrec ha1 ha2 ha3 ha4 n9 z7 1 I2 R3 hz7 (⟨by decide, by decide⟩ : inR (1)) m5 hw
        · have hw := hw.2 hc
          refine q_aload_n F 0 dX6_holdsFrom_30 rfl rfl ?_
          refine q_aload_n F 1 dX6_holdsFrom_31 rfl rfl ?_
          refine q_iload_n F 2 dX6_holdsFrom_32 rfl rfl ?_
          refine q_iload_n F 3 dX6_holdsFrom_33 rfl rfl ?_
          refine q_iconst F dX6_holdsFrom_34 ?_
          refine q_iadd F dX6_holdsFrom_35 ?_
          refine q_iload F 4 dX6_holdsFrom_36 rfl ?_
          obtain ⟨k10, hw⟩ := hw
          refine q_Si F (hrec a1 a2 ((a3 + 1)) a4 I2 R3 _ ha1 ha2 k10 ha4 m5 hw) (bS wd674 wd675 wd7 wd676) rfl ⟨rfl, rfl⟩ ydX6_holdsFrom (rmK_le hR (by omega) (by decide)) (av := [.ref (E.1 80), .ref (E.1 a1), iV a2, iV ((a3 + 1)), iV a4]) rfl rfl (Nat.le_of_ble_eq_true rfl) dX6_holdsFrom_38 (rmK_cs hR (by omega) (by omega)) (fun r11 I12 R13 h14 m15 hw => ?_)
          obtain ⟨k16, hw⟩ := hw
          exact hret _ _ _ _ _ _ dX6_holdsFrom_41 k16 h14 m15 hw
      · have hw := hw.2 hc
        refine q_iconst F dX6_holdsFrom_23 ?_
        exact hret _ _ _ _ _ _ dX6_holdsFrom_24 (Or.inr rfl) (⟨by decide, by decide⟩ : inR (1)) m5 hw
    · have hw := hw.2 hc
      refine q_iconst F dX6_holdsFrom_13 ?_
      exact hret _ _ _ _ _ _ dX6_holdsFrom_14 (Or.inl rfl) (⟨by decide, by decide⟩ : inR (0)) m5 hw
theorem kcX6_holdsFrom {l : Launch} {D : va_G} {E : cE} (d : Nat) {a1 : Nat} {a2 : Int} {a3 : Int} {a4 : Int} {I : cI} {R : cR} (hm : cM I R) (ha1 : isR a1) (ha2 : inR a2) (ha3 : inR a3) (ha4 : inR a4) {Q : Int → cI → cR → Prop} (hw : wX6_holdsFrom d a1 a2 a3 a4 I R Q) : gM l D E cIds yX6_holdsFrom vX6_holdsFrom (rmK (2 + d) 0 0) [.ref (E.1 80), .ref (E.1 a1), iV a2, iV a3, iV a4] (cef E (I, R)) (cef E) (pI Q) 0 0 := crX6_holdsFrom d a1 a2 a3 a4 I R Q ha1 ha2 ha3 ha4 hm hw
theorem ydX6_isRefuted : yX6_isRefuted.cls = RX6 ∧ yX6_isRefuted.cls ≠ "java/lang/invoke/MethodHandle" ∧ yX6_isRefuted.cls ≠ "java/lang/invoke/VarHandle" ∧ (parseMethodDescriptor yX6_isRefuted.desc).map (fun d => d.parameters.length) = some 4 := by decide +kernel
def vX6_isRefuted : List Cond := Cond.code yX6_isRefuted cX6_isRefuted 6 (some .boolean) :: bG
set_option maxHeartbeats 4000000 in
set_option maxRecDepth 100000 in
theorem bX6_isRefuted_19 {X : xC} {E : cE} (F : mF X E RX6 cX6_isRefuted bG) (hR : X.1.2.2.2 = rmK 10 (0) (0)) (hN : X.2.2.1.2.2.2 = 6) {Q : Int → cI → cR → Prop} (hret : rZ X E cX6_isRefuted (0) (0) Q) {a1 : Nat} {a2 : Int} {a3 : Int} {a4 : Int} (ha1 : isR a1) (ha2 : inR a2) (ha3 : inR a3) (ha4 : inR a4) : ∀ n19 : Nat, ∀ (x5 : Int) (I : cI) (R : cR), inR x5 → cM I R → wX6_isRefuted_19 Q a1 a2 a3 a4 n19 x5 I R → cW X (0) (0) 19 [(0, .ref (E.1 80)), (1, .ref (E.1 a1)), (2, iV a2), (3, iV a3), (4, iV a4), (5, iV x5)] [] (gw E.1 cIds (cef E (I, R)) ++ []) := by
  intro n19
  induction n19 with
  | zero => intro x5 I R hx5 hm hw; exact hw.elim
  | succ n19 ih =>
    intro x5 I R hx5 hm hw
    change wbX6_isRefuted_19 Q a1 a2 a3 a4 (wX6_isRefuted_19 Q a1 a2 a3 a4 n19) x5 I R at hw
    unfold wbX6_isRefuted_19 at hw
    refine q_iload F 5 dX6_isRefuted_19 rfl ?_
    refine q_aload_n F 1 dX6_isRefuted_21 rfl rfl ?_
    refine t_g_Rule_size F (kR0 ha1) ib7 wd158 dX6_isRefuted_22 ?_
    refine q_icmp_ge F hx5 (hm.1 _ _) 47 dX6_isRefuted_25 (by decide) (fun hc => ?_) (fun hc => ?_)
    · have hw := hw.1 hc
      refine q_aload_n F 0 dX6_isRefuted_47 rfl rfl ?_
      refine t_g_Reasoner_values F (by decide) ib6 wd118 82 rfl dX6_isRefuted_48 ?_
      refine q_aload_n F 1 dX6_isRefuted_51 rfl rfl ?_
      refine t_g_Rule_cells F (kR0 ha1) ib7 wd163 (a1 + 130) rfl dX6_isRefuted_52 ?_
      refine q_iload_n F 2 dX6_isRefuted_55 rfl rfl ?_
      obtain ⟨k1, hw⟩ := hw
      refine t_ald F 5 (kR4 ha1) k1 (by decide) dX6_isRefuted_56 ?_
      refine q_iload_n F 3 dX6_isRefuted_57 rfl rfl ?_
      obtain ⟨k2, hw⟩ := hw
      obtain ⟨I3, e4⟩ := ex1 (up2 I 82 ((I (a1 + 130) a2)) a3)
      have hw := hw I3 e4
      have m5 : cM I3 R := cM_I hm e4 ha3
      refine t_ast F 25 kA_82 k2 (by decide) e4 dX6_isRefuted_58 ?_
      refine q_aload_n F 0 dX6_isRefuted_59 rfl rfl ?_
      refine q_aload_n F 1 dX6_isRefuted_60 rfl rfl ?_
      refine q_iload_n F 2 dX6_isRefuted_61 rfl rfl ?_
      refine q_iconst F dX6_isRefuted_62 ?_
      refine q_iload F 4 dX6_isRefuted_63 rfl ?_
      refine q_Si F (kcX6_holdsFrom 7 m5 ha1 ha2 (⟨by decide, by decide⟩ : inR (0)) ha4 hw) (bS wd674 wd675 wd7 wd676) rfl ⟨rfl, rfl⟩ ydX6_holdsFrom (rmK_le hR (by omega) (by decide)) (av := [.ref (E.1 80), .ref (E.1 a1), iV a2, iV 0, iV a4]) rfl rfl (Nat.le_of_ble_eq_true rfl) dX6_isRefuted_65 (rmK_cs hR (by omega) (by omega)) (fun r6 I7 R8 h9 m10 hw => ?_)
      refine q_if_ne F h9 75 dX6_isRefuted_68 (by decide) (fun hc => ?_) (fun hc => ?_)
      · have hw := hw.1 hc
        refine q_iconst F dX6_isRefuted_75 ?_
        exact hret _ _ _ _ _ _ dX6_isRefuted_76 (Or.inl rfl) (⟨by decide, by decide⟩ : inR (0)) m10 hw
      · have hw := hw.2 hc
        refine q_iconst F dX6_isRefuted_71 ?_
        refine q_goto F 76 dX6_isRefuted_72 (by decide) ?_
        exact hret _ _ _ _ _ _ dX6_isRefuted_76 (Or.inr rfl) (⟨by decide, by decide⟩ : inR (1)) m10 hw
    · have hw := hw.2 hc
      refine q_aload_n F 0 dX6_isRefuted_28 rfl rfl ?_
      refine t_g_Reasoner_values F (by decide) ib6 wd118 82 rfl dX6_isRefuted_29 ?_
      refine q_aload_n F 1 dX6_isRefuted_32 rfl rfl ?_
      refine t_g_Rule_cells F (kR0 ha1) ib7 wd163 (a1 + 130) rfl dX6_isRefuted_33 ?_
      refine q_iload F 5 dX6_isRefuted_36 rfl ?_
      obtain ⟨k11, hw⟩ := hw
      refine t_ald F 5 (kR4 ha1) k11 (by decide) dX6_isRefuted_38 ?_
      refine q_iconst F dX6_isRefuted_39 ?_
      obtain ⟨k12, hw⟩ := hw
      obtain ⟨I13, e14⟩ := ex1 (up2 I 82 ((I (a1 + 130) x5)) 0)
      have hw := hw I13 e14
      have m15 : cM I13 R := cM_I hm e14 (⟨by decide, by decide⟩ : inR (0))
      refine t_ast F 25 kA_82 k12 (by decide) e14 dX6_isRefuted_40 ?_
      obtain ⟨k18, hw⟩ := hw
      obtain ⟨z16, e17⟩ := ex1 (x5 + 1)
      have hw := hw z16 e17
      have hz16 : inR z16 := by rw [e17]; exact k18
      refine q_iinc (lv' := [(0, .ref (E.1 80)), (1, .ref (E.1 a1)), (2, iV a2), (3, iV a3), (4, iV a4), (5, iV z16)]) F 5 [1, 2, 3, 4, 5, 0] dX6_isRefuted_41 rfl (q_n hN (by decide)) e17.symm rfl ?_
      refine q_goto F 19 dX6_isRefuted_44 (by decide) ?_
      exact ih z16 I13 R hz16 m15 hw
set_option maxHeartbeats 4000000 in
set_option maxRecDepth 100000 in
theorem kcX6_isRefuted {l : Launch} {D : va_G} {E : cE} {a1 : Nat} {a2 : Int} {a3 : Int} {a4 : Int} {I : cI} {R : cR} (hm : cM I R) (ha1 : isR a1) (ha2 : inR a2) (ha3 : inR a3) (ha4 : inR a4) {Q : Int → cI → cR → Prop} (hw : wX6_isRefuted a1 a2 a3 a4 I R Q) : gM l D E cIds yX6_isRefuted vX6_isRefuted (rmK 10 (0) (0)) [.ref (E.1 80), .ref (E.1 a1), iV a2, iV a3, iV a4] (cef E (I, R)) (cef E) (pI Q) (0) (0) := by
  unfold wX6_isRefuted at hw
  refine k_ofW (own := RX6) (cc := cX6_isRefuted) (maxL := 6) (ret := (some .boolean)) (lv := [(0, .ref (E.1 80)), (1, .ref (E.1 a1)), (2, iV a2), (3, iV a3), (4, iV a4)]) (by decide) rfl rfl (Nat.le_of_ble_eq_true rfl) rfl ?_
  intro X hl hR hN hD F K
  subst hl; subst hD
  have hret := mk_rZ (Q := Q) F K
  refine q_aload_n F 0 dX6_isRefuted_0 rfl rfl ?_
  refine q_aload_n F 1 dX6_isRefuted_1 rfl rfl ?_
  refine t_g_Rule_cells F (kR0 ha1) ib7 wd163 (a1 + 130) rfl dX6_isRefuted_2 ?_
  refine q_iload_n F 2 dX6_isRefuted_5 rfl rfl ?_
  obtain ⟨k1, hw⟩ := hw
  refine t_ald F 5 (kR4 ha1) k1 (by decide) dX6_isRefuted_6 ?_
  refine q_iload_n F 3 dX6_isRefuted_7 rfl rfl ?_
  refine q_Vi F (kcX6_hasValue hm (hm.1 _ _) ha3 hw) (cIds_in (show ckd 80 = 4 ∧ 80 < 353 by decide).2) (ceReasoner (show ckd 80 = 4 ∧ 80 < 353 by decide).1) (ci := 4) rfl (bV wd671 wd672 wd919 wd7 wd673) rfl ⟨rfl, rfl⟩ ydX6_hasValue (rmK_le hR (by omega) (by decide)) (av := [iV ((I (a1 + 130) a2)), iV a3]) rfl rfl (Nat.le_of_ble_eq_true rfl) dX6_isRefuted_8 (rmK_cs hR (by omega) (by omega)) (fun r2 I3 R4 h5 m6 hw => ?_)
  refine q_if_ne F h5 16 dX6_isRefuted_11 (by decide) (fun hc => ?_) (fun hc => ?_)
  · have hw := hw.1 hc
    refine q_iconst F dX6_isRefuted_16 ?_
    refine q_istore (lv' := [(0, .ref (E.1 80)), (1, .ref (E.1 a1)), (2, iV a2), (3, iV a3), (4, iV a4), (5, iV 0)]) F [1, 2, 3, 4, 5, 0] dX6_isRefuted_17 (q_n hN (by decide)) rfl ?_
    obtain ⟨n7, hw⟩ := hw
    exact bX6_isRefuted_19 F hR hN hret ha1 ha2 ha3 ha4 n7 0 I3 R4 (⟨by decide, by decide⟩ : inR (0)) m6 hw
  · have hw := hw.2 hc
    refine q_iconst F dX6_isRefuted_14 ?_
    exact hret _ _ _ _ _ _ dX6_isRefuted_15 (Or.inl rfl) (⟨by decide, by decide⟩ : inR (0)) m6 hw
theorem ydX6_gradeOf : yX6_gradeOf.cls = RX6 ∧ yX6_gradeOf.cls ≠ "java/lang/invoke/MethodHandle" ∧ yX6_gradeOf.cls ≠ "java/lang/invoke/VarHandle" ∧ (parseMethodDescriptor yX6_gradeOf.desc).map (fun d => d.parameters.length) = some 1 := by decide +kernel
def vX6_gradeOf : List Cond := Cond.code yX6_gradeOf cX6_gradeOf 4 (some .int) :: bG
set_option maxHeartbeats 4000000 in
set_option maxRecDepth 100000 in
theorem bX6_gradeOf_4 {X : xC} {E : cE} (F : mF X E RX6 cX6_gradeOf bG) (hR : X.1.2.2.2 = rmK 2 (0) (0)) (hN : X.2.2.1.2.2.2 = 4) {Q : Int → cI → cR → Prop} (hret : rI X E cX6_gradeOf (0) (0) Q) {a1 : Nat} (ha1 : isR a1) : ∀ n4 : Nat, ∀ (x2 : Int) (x3 : Int) (I : cI) (R : cR), inR x2 → inR x3 → cM I R → wX6_gradeOf_4 Q a1 n4 x2 x3 I R → cW X (0) (0) 4 [(0, .ref (E.1 80)), (1, .ref (E.1 a1)), (2, iV x2), (3, iV x3)] [] (gw E.1 cIds (cef E (I, R)) ++ []) := by
  intro n4
  induction n4 with
  | zero => intro x2 x3 I R hx2 hx3 hm hw; exact hw.elim
  | succ n4 ih =>
    intro x2 x3 I R hx2 hx3 hm hw
    change wbX6_gradeOf_4 Q a1 (wX6_gradeOf_4 Q a1 n4) x2 x3 I R at hw
    unfold wbX6_gradeOf_4 at hw
    refine q_iload_n F 3 dX6_gradeOf_4 rfl rfl ?_
    refine q_aload_n F 1 dX6_gradeOf_5 rfl rfl ?_
    refine t_g_Rule_size F (kR0 ha1) ib7 wd158 dX6_gradeOf_6 ?_
    refine q_icmp_ge F hx3 (hm.1 _ _) 39 dX6_gradeOf_9 (by decide) (fun hc => ?_) (fun hc => ?_)
    · have hw := hw.1 hc
      refine q_iload_n F 2 dX6_gradeOf_39 rfl rfl ?_
      exact hret _ _ _ _ _ _ dX6_gradeOf_40 hx2 hm hw
    · have hw := hw.2 hc
      refine q_aload_n F 0 dX6_gradeOf_12 rfl rfl ?_
      refine t_g_Reasoner_sets F (by decide) ib6 wd104 81 rfl dX6_gradeOf_13 ?_
      refine q_aload_n F 1 dX6_gradeOf_16 rfl rfl ?_
      refine t_g_Rule_cells F (kR0 ha1) ib7 wd163 (a1 + 130) rfl dX6_gradeOf_17 ?_
      refine q_iload_n F 3 dX6_gradeOf_20 rfl rfl ?_
      obtain ⟨k1, hw⟩ := hw
      refine t_ald F 5 (kR4 ha1) k1 (by decide) dX6_gradeOf_21 ?_
      obtain ⟨k2, hw⟩ := hw
      refine t_ald F 25 kA_81 k2 (by decide) dX6_gradeOf_22 ?_
      refine q_bc F hR (by omega) (hm.1 _ _) wd646 dX6_gradeOf_23 (Nat.le_of_ble_eq_true rfl) ?_
      refine q_iconst F dX6_gradeOf_26 ?_
      refine q_icmp_le F (bc_in _) (⟨by decide, by decide⟩ : inR (1)) 33 dX6_gradeOf_27 (by decide) (fun hc => ?_) (fun hc => ?_)
      · have hw := hw.1 hc
        obtain ⟨k5, hw⟩ := hw
        obtain ⟨z3, e4⟩ := ex1 (x3 + 1)
        have hw := hw z3 e4
        have hz3 : inR z3 := by rw [e4]; exact k5
        refine q_iinc (lv' := [(0, .ref (E.1 80)), (1, .ref (E.1 a1)), (2, iV x2), (3, iV z3)]) F 3 [1, 2, 3, 0] dX6_gradeOf_33 rfl (q_n hN (by decide)) e4.symm rfl ?_
        refine q_goto F 4 dX6_gradeOf_36 (by decide) ?_
        exact ih x2 z3 I R hx2 hz3 hm hw
      · have hw := hw.2 hc
        obtain ⟨k8, hw⟩ := hw
        obtain ⟨z6, e7⟩ := ex1 (x2 + 1)
        have hw := hw z6 e7
        have hz6 : inR z6 := by rw [e7]; exact k8
        refine q_iinc (lv' := [(0, .ref (E.1 80)), (1, .ref (E.1 a1)), (2, iV z6), (3, iV x3)]) F 2 [1, 2, 0, 3] dX6_gradeOf_30 rfl (q_n hN (by decide)) e7.symm rfl ?_
        obtain ⟨k11, hw⟩ := hw
        obtain ⟨z9, e10⟩ := ex1 (x3 + 1)
        have hw := hw z9 e10
        have hz9 : inR z9 := by rw [e10]; exact k11
        refine q_iinc (lv' := [(0, .ref (E.1 80)), (1, .ref (E.1 a1)), (2, iV z6), (3, iV z9)]) F 3 [1, 2, 3, 0] dX6_gradeOf_33 rfl (q_n hN (by decide)) e10.symm rfl ?_
        refine q_goto F 4 dX6_gradeOf_36 (by decide) ?_
        exact ih z6 z9 I R hz6 hz9 hm hw
set_option maxHeartbeats 4000000 in
set_option maxRecDepth 100000 in
theorem kcX6_gradeOf {l : Launch} {D : va_G} {E : cE} {a1 : Nat} {I : cI} {R : cR} (hm : cM I R) (ha1 : isR a1) {Q : Int → cI → cR → Prop} (hw : wX6_gradeOf a1 I R Q) : gM l D E cIds yX6_gradeOf vX6_gradeOf (rmK 2 (0) (0)) [.ref (E.1 80), .ref (E.1 a1)] (cef E (I, R)) (cef E) (pI Q) (0) (0) := by
  unfold wX6_gradeOf at hw
  refine k_ofW (own := RX6) (cc := cX6_gradeOf) (maxL := 4) (ret := (some .int)) (lv := [(0, .ref (E.1 80)), (1, .ref (E.1 a1))]) (by decide) rfl rfl (Nat.le_of_ble_eq_true rfl) rfl ?_
  intro X hl hR hN hD F K
  subst hl; subst hD
  have hret := mk_rI (Q := Q) F K
  refine q_iconst F dX6_gradeOf_0 ?_
  refine q_istore_n (lv' := [(0, .ref (E.1 80)), (1, .ref (E.1 a1)), (2, iV 0)]) F [1, 2, 0] dX6_gradeOf_1 rfl (q_n hN (by decide)) rfl ?_
  refine q_iconst F dX6_gradeOf_2 ?_
  refine q_istore_n (lv' := [(0, .ref (E.1 80)), (1, .ref (E.1 a1)), (2, iV 0), (3, iV 0)]) F [1, 2, 3, 0] dX6_gradeOf_3 rfl (q_n hN (by decide)) rfl ?_
  obtain ⟨n1, hw⟩ := hw
  exact bX6_gradeOf_4 F hR hN hret ha1 n1 0 0 I R (⟨by decide, by decide⟩ : inR (0)) (⟨by decide, by decide⟩ : inR (0)) hm hw
theorem ydX6_findFirstBy : yX6_findFirstBy.cls = RX6 ∧ yX6_findFirstBy.cls ≠ "java/lang/invoke/MethodHandle" ∧ yX6_findFirstBy.cls ≠ "java/lang/invoke/VarHandle" ∧ (parseMethodDescriptor yX6_findFirstBy.desc).map (fun d => d.parameters.length) = some 2 := by decide +kernel
def vX6_findFirstBy : List Cond := Cond.code yX6_findFirstBy cX6_findFirstBy 5 (some .boolean) :: bG
set_option maxHeartbeats 4000000 in
set_option maxRecDepth 100000 in
theorem bX6_findFirstBy_13 {X : xC} {E : cE} (F : mF X E RX6 cX6_findFirstBy bG) (hR : X.1.2.2.2 = rmK 11 (0) (0)) (hN : X.2.2.1.2.2.2 = 5) {Q : Int → cI → cR → Prop} (hret : rZ X E cX6_findFirstBy (0) (0) Q) {a1 : Nat} {a2 : Int} (ha1 : isR a1) (ha2 : inR a2) {K2 : Int → cI → cR → Prop} (hK2 : ∀ (x3 : Int) (I : cI) (R : cR), inR x3 → cM I R → K2 x3 I R → cW X (0) (0) 2 [(0, .ref (E.1 80)), (1, .ref (E.1 a1)), (2, iV a2), (3, iV x3)] [] (gw E.1 cIds (cef E (I, R)) ++ [])) : ∀ n13 : Nat, ∀ (x3 : Int) (x4 : Int) (I : cI) (R : cR), inR x3 → inR x4 → cM I R → wX6_findFirstBy_13 Q a1 a2 K2 n13 x3 x4 I R → cW X (0) (0) 13 [(0, .ref (E.1 80)), (1, .ref (E.1 a1)), (2, iV a2), (3, iV x3), (4, iV x4)] [] (gw E.1 cIds (cef E (I, R)) ++ []) := by
  intro n13
  induction n13 with
  | zero => intro x3 x4 I R hx3 hx4 hm hw; exact hw.elim
  | succ n13 ih =>
    intro x3 x4 I R hx3 hx4 hm hw
    change wbX6_findFirstBy_13 Q a1 a2 K2 (wX6_findFirstBy_13 Q a1 a2 K2 n13) x3 x4 I R at hw
    unfold wbX6_findFirstBy_13 at hw
    refine q_iload F 4 dX6_findFirstBy_13 rfl ?_
    refine q_iload_n F 2 dX6_findFirstBy_15 rfl rfl ?_
    refine q_icmp_gt F hx4 ha2 64 dX6_findFirstBy_16 (by decide) (fun hc => ?_) (fun hc => ?_)
    · have hw := hw.1 hc
      obtain ⟨k3, hw⟩ := hw
      obtain ⟨z1, e2⟩ := ex1 (x3 + 1)
      have hw := hw z1 e2
      have hz1 : inR z1 := by rw [e2]; exact k3
      refine q_iinc (lv' := [(0, .ref (E.1 80)), (1, .ref (E.1 a1)), (2, iV a2), (3, iV z1), (4, iV x4)]) F 3 [1, 2, 3, 0, 4] dX6_findFirstBy_64 rfl (q_n hN (by decide)) e2.symm rfl ?_
      refine q_goto F 2 dX6_findFirstBy_67 (by decide) ?_
      refine q_lv [0, 1, 2, 3] rfl ?_
      exact hK2 z1 I R hz1 hm hw
    · have hw := hw.2 hc
      refine q_aload_n F 0 dX6_findFirstBy_19 rfl rfl ?_
      refine q_aload_n F 1 dX6_findFirstBy_20 rfl rfl ?_
      refine q_iload_n F 3 dX6_findFirstBy_21 rfl rfl ?_
      refine q_iload F 4 dX6_findFirstBy_22 rfl ?_
      refine q_iload_n F 2 dX6_findFirstBy_24 rfl rfl ?_
      refine q_Vi F (kcX6_isRefuted hm ha1 hx3 hx4 ha2 hw) (cIds_in (show ckd 80 = 4 ∧ 80 < 353 by decide).2) (ceReasoner (show ckd 80 = 4 ∧ 80 < 353 by decide).1) (ci := 4) rfl (bV wd668 wd669 wd918 wd7 wd670) rfl ⟨rfl, rfl⟩ ydX6_isRefuted (rmK_le hR (by omega) (by decide)) (av := [.ref (E.1 a1), iV x3, iV x4, iV a2]) rfl rfl (Nat.le_of_ble_eq_true rfl) dX6_findFirstBy_25 (rmK_cs hR (by omega) (by omega)) (fun r4 I5 R6 h7 m8 hw => ?_)
      refine q_if_eq F h7 58 dX6_findFirstBy_28 (by decide) (fun hc => ?_) (fun hc => ?_)
      · have hw := hw.1 hc
        obtain ⟨k11, hw⟩ := hw
        obtain ⟨z9, e10⟩ := ex1 (x4 + 1)
        have hw := hw z9 e10
        have hz9 : inR z9 := by rw [e10]; exact k11
        refine q_iinc (lv' := [(0, .ref (E.1 80)), (1, .ref (E.1 a1)), (2, iV a2), (3, iV x3), (4, iV z9)]) F 4 [1, 2, 3, 4, 0] dX6_findFirstBy_58 rfl (q_n hN (by decide)) e10.symm rfl ?_
        refine q_goto F 13 dX6_findFirstBy_61 (by decide) ?_
        exact ih x3 z9 I5 R6 hx3 hz9 m8 hw
      · have hw := hw.2 hc
        refine q_aload_n F 0 dX6_findFirstBy_31 rfl rfl ?_
        refine q_aload_n F 1 dX6_findFirstBy_32 rfl rfl ?_
        refine t_g_Rule_cells F (kR0 ha1) ib7 wd163 (a1 + 130) rfl dX6_findFirstBy_33 ?_
        refine q_iload_n F 3 dX6_findFirstBy_36 rfl rfl ?_
        obtain ⟨k12, hw⟩ := hw
        refine t_ald F 5 (kR4 ha1) k12 (by decide) dX6_findFirstBy_37 ?_
        obtain ⟨I13, e14⟩ := ex1 (up2 I5 80 4 ((I5 (a1 + 130) x3)))
        have hw := hw I13 e14
        have m15 : cM I13 R6 := cM_I m8 e14 (m8.1 _ _)
        refine t_p_Reasoner_firstCell F (by decide) ib6 wd112 e14 dX6_findFirstBy_38 ?_
        refine q_aload_n F 0 dX6_findFirstBy_41 rfl rfl ?_
        refine q_iload F 4 dX6_findFirstBy_42 rfl ?_
        obtain ⟨I16, e17⟩ := ex1 (up2 I13 80 5 x4)
        have hw := hw I16 e17
        have m18 : cM I16 R6 := cM_I m15 e17 hx4
        refine t_p_Reasoner_firstValue F (by decide) ib6 wd114 e17 dX6_findFirstBy_44 ?_
        refine q_aload_n F 0 dX6_findFirstBy_47 rfl rfl ?_
        refine q_aload_n F 0 dX6_findFirstBy_48 rfl rfl ?_
        refine q_aload_n F 1 dX6_findFirstBy_49 rfl rfl ?_
        refine q_Vi F (kcX6_gradeOf m18 ha1 hw) (cIds_in (show ckd 80 = 4 ∧ 80 < 353 by decide).2) (ceReasoner (show ckd 80 = 4 ∧ 80 < 353 by decide).1) (ci := 4) rfl (bV wd678 wd679 wd920 wd7 wd680) rfl ⟨rfl, rfl⟩ ydX6_gradeOf (rmK_le hR (by omega) (by decide)) (av := [.ref (E.1 a1)]) rfl rfl (Nat.le_of_ble_eq_true rfl) dX6_findFirstBy_50 (rmK_cs hR (by omega) (by omega)) (fun r19 I20 R21 h22 m23 hw => ?_)
        obtain ⟨I24, e25⟩ := ex1 (up2 I20 80 6 r19)
        have hw := hw I24 e25
        have m26 : cM I24 R21 := cM_I m23 e25 h22
        refine t_p_Reasoner_firstGrade F (by decide) ib6 wd116 e25 dX6_findFirstBy_53 ?_
        refine q_iconst F dX6_findFirstBy_56 ?_
        exact hret _ _ _ _ _ _ dX6_findFirstBy_57 (Or.inr rfl) (⟨by decide, by decide⟩ : inR (1)) m26 hw
set_option maxHeartbeats 4000000 in
set_option maxRecDepth 100000 in
theorem bX6_findFirstBy_2 {X : xC} {E : cE} (F : mF X E RX6 cX6_findFirstBy bG) (hR : X.1.2.2.2 = rmK 11 (0) (0)) (hN : X.2.2.1.2.2.2 = 5) {Q : Int → cI → cR → Prop} (hret : rZ X E cX6_findFirstBy (0) (0) Q) {a1 : Nat} {a2 : Int} (ha1 : isR a1) (ha2 : inR a2) : ∀ n2 : Nat, ∀ (x3 : Int) (I : cI) (R : cR), inR x3 → cM I R → wX6_findFirstBy_2 Q a1 a2 n2 x3 I R → cW X (0) (0) 2 [(0, .ref (E.1 80)), (1, .ref (E.1 a1)), (2, iV a2), (3, iV x3)] [] (gw E.1 cIds (cef E (I, R)) ++ []) := by
  intro n2
  induction n2 with
  | zero => intro x3 I R hx3 hm hw; exact hw.elim
  | succ n2 ih =>
    intro x3 I R hx3 hm hw
    change wbX6_findFirstBy_2 Q a1 a2 (wX6_findFirstBy_2 Q a1 a2 n2) x3 I R at hw
    unfold wbX6_findFirstBy_2 at hw
    refine q_iload_n F 3 dX6_findFirstBy_2 rfl rfl ?_
    refine q_aload_n F 1 dX6_findFirstBy_3 rfl rfl ?_
    refine t_g_Rule_size F (kR0 ha1) ib7 wd158 dX6_findFirstBy_4 ?_
    refine q_icmp_ge F hx3 (hm.1 _ _) 70 dX6_findFirstBy_7 (by decide) (fun hc => ?_) (fun hc => ?_)
    · have hw := hw.1 hc
      refine q_iconst F dX6_findFirstBy_70 ?_
      exact hret _ _ _ _ _ _ dX6_findFirstBy_71 (Or.inl rfl) (⟨by decide, by decide⟩ : inR (0)) hm hw
    · have hw := hw.2 hc
      refine q_iconst F dX6_findFirstBy_10 ?_
      refine q_istore (lv' := [(0, .ref (E.1 80)), (1, .ref (E.1 a1)), (2, iV a2), (3, iV x3), (4, iV 1)]) F [1, 2, 3, 4, 0] dX6_findFirstBy_11 (q_n hN (by decide)) rfl ?_
      obtain ⟨n1, hw⟩ := hw
      exact bX6_findFirstBy_13 F hR hN hret ha1 ha2 ih n1 x3 1 I R hx3 (⟨by decide, by decide⟩ : inR (1)) hm hw
set_option maxHeartbeats 4000000 in
set_option maxRecDepth 100000 in
theorem kcX6_findFirstBy {l : Launch} {D : va_G} {E : cE} {a1 : Nat} {a2 : Int} {I : cI} {R : cR} (hm : cM I R) (ha1 : isR a1) (ha2 : inR a2) {Q : Int → cI → cR → Prop} (hw : wX6_findFirstBy a1 a2 I R Q) : gM l D E cIds yX6_findFirstBy vX6_findFirstBy (rmK 11 (0) (0)) [.ref (E.1 80), .ref (E.1 a1), iV a2] (cef E (I, R)) (cef E) (pI Q) (0) (0) := by
  unfold wX6_findFirstBy at hw
  refine k_ofW (own := RX6) (cc := cX6_findFirstBy) (maxL := 5) (ret := (some .boolean)) (lv := [(0, .ref (E.1 80)), (1, .ref (E.1 a1)), (2, iV a2)]) (by decide) rfl rfl (Nat.le_of_ble_eq_true rfl) rfl ?_
  intro X hl hR hN hD F K
  subst hl; subst hD
  have hret := mk_rZ (Q := Q) F K
  refine q_iconst F dX6_findFirstBy_0 ?_
  refine q_istore_n (lv' := [(0, .ref (E.1 80)), (1, .ref (E.1 a1)), (2, iV a2), (3, iV 0)]) F [1, 2, 3, 0] dX6_findFirstBy_1 rfl (q_n hN (by decide)) rfl ?_
  obtain ⟨n1, hw⟩ := hw
  exact bX6_findFirstBy_2 F hR hN hret ha1 ha2 n1 0 I R (⟨by decide, by decide⟩ : inR (0)) hm hw
theorem ydX6_findFirst : yX6_findFirst.cls = RX6 ∧ yX6_findFirst.cls ≠ "java/lang/invoke/MethodHandle" ∧ yX6_findFirst.cls ≠ "java/lang/invoke/VarHandle" ∧ (parseMethodDescriptor yX6_findFirst.desc).map (fun d => d.parameters.length) = some 1 := by decide +kernel
def vX6_findFirst : List Cond := Cond.code yX6_findFirst cX6_findFirst 3 (some .boolean) :: bG
set_option maxHeartbeats 4000000 in
set_option maxRecDepth 100000 in
theorem bX6_findFirst_2 {X : xC} {E : cE} (F : mF X E RX6 cX6_findFirst bG) (hR : X.1.2.2.2 = rmK 12 (0) (0)) (hN : X.2.2.1.2.2.2 = 3) {Q : Int → cI → cR → Prop} (hret : rZ X E cX6_findFirst (0) (0) Q) {a1 : Nat} (ha1 : isP a1) : ∀ n2 : Nat, ∀ (x2 : Int) (I : cI) (R : cR), inR x2 → cM I R → wX6_findFirst_2 Q a1 n2 x2 I R → cW X (0) (0) 2 [(0, .ref (E.1 80)), (1, .ref (E.1 a1)), (2, iV x2)] [] (gw E.1 cIds (cef E (I, R)) ++ []) := by
  intro n2
  induction n2 with
  | zero => intro x2 I R hx2 hm hw; exact hw.elim
  | succ n2 ih =>
    intro x2 I R hx2 hm hw
    change wbX6_findFirst_2 Q a1 (wX6_findFirst_2 Q a1 n2) x2 I R at hw
    unfold wbX6_findFirst_2 at hw
    refine q_iload_n F 2 dX6_findFirst_2 rfl rfl ?_
    refine q_aload_n F 1 dX6_findFirst_3 rfl rfl ?_
    refine t_g_Puzzle_ruleCount F (kP0 ha1) ib4 wd190 dX6_findFirst_4 ?_
    refine q_icmp_ge F hx2 (hm.1 _ _) 40 dX6_findFirst_7 (by decide) (fun hc => ?_) (fun hc => ?_)
    · have hw := hw.1 hc
      refine q_iconst F dX6_findFirst_40 ?_
      exact hret _ _ _ _ _ _ dX6_findFirst_41 (Or.inl rfl) (⟨by decide, by decide⟩ : inR (0)) hm hw
    · have hw := hw.2 hc
      refine q_aload_n F 0 dX6_findFirst_10 rfl rfl ?_
      refine q_aload_n F 1 dX6_findFirst_11 rfl rfl ?_
      refine t_g_Puzzle_rules F (kP0 ha1) ib4 wd186 (a1 + 2) rfl dX6_findFirst_12 ?_
      refine q_iload_n F 2 dX6_findFirst_15 rfl rfl ?_
      obtain ⟨k1, hw⟩ := hw
      refine t_rld F (kP2 ha1) k1 dX6_findFirst_16 ?_
      refine q_aload_n F 1 dX6_findFirst_17 rfl rfl ?_
      refine t_g_Puzzle_highest F (kP0 ha1) ib4 wd176 dX6_findFirst_18 ?_
      refine q_Vi F (kcX6_findFirstBy hm (hm.2.2.2.1 _ ha1 _ k1) (hm.1 _ _) hw) (cIds_in (show ckd 80 = 4 ∧ 80 < 353 by decide).2) (ceReasoner (show ckd 80 = 4 ∧ 80 < 353 by decide).1) (ci := 4) rfl (bV wd665 wd666 wd917 wd7 wd667) rfl ⟨rfl, rfl⟩ ydX6_findFirstBy (rmK_le hR (by omega) (by decide)) (av := [.ref (E.1 ((R (a1 + 2) x2))), iV ((I a1 2))]) rfl rfl (Nat.le_of_ble_eq_true rfl) dX6_findFirst_21 (rmK_cs hR (by omega) (by omega)) (fun r2 I3 R4 h5 m6 hw => ?_)
      refine q_if_eq F h5 34 dX6_findFirst_24 (by decide) (fun hc => ?_) (fun hc => ?_)
      · have hw := hw.1 hc
        obtain ⟨k9, hw⟩ := hw
        obtain ⟨z7, e8⟩ := ex1 (x2 + 1)
        have hw := hw z7 e8
        have hz7 : inR z7 := by rw [e8]; exact k9
        refine q_iinc (lv' := [(0, .ref (E.1 80)), (1, .ref (E.1 a1)), (2, iV z7)]) F 2 [1, 2, 0] dX6_findFirst_34 rfl (q_n hN (by decide)) e8.symm rfl ?_
        refine q_goto F 2 dX6_findFirst_37 (by decide) ?_
        exact ih z7 I3 R4 hz7 m6 hw
      · have hw := hw.2 hc
        refine q_aload_n F 0 dX6_findFirst_27 rfl rfl ?_
        refine q_iload_n F 2 dX6_findFirst_28 rfl rfl ?_
        obtain ⟨I10, e11⟩ := ex1 (up2 I3 80 3 x2)
        have hw := hw I10 e11
        have m12 : cM I10 R4 := cM_I m6 e11 hx2
        refine t_p_Reasoner_firstRule F (by decide) ib6 wd110 e11 dX6_findFirst_29 ?_
        refine q_iconst F dX6_findFirst_32 ?_
        exact hret _ _ _ _ _ _ dX6_findFirst_33 (Or.inr rfl) (⟨by decide, by decide⟩ : inR (1)) m12 hw
set_option maxHeartbeats 4000000 in
set_option maxRecDepth 100000 in
theorem kcX6_findFirst {l : Launch} {D : va_G} {E : cE} {a1 : Nat} {I : cI} {R : cR} (hm : cM I R) (ha1 : isP a1) {Q : Int → cI → cR → Prop} (hw : wX6_findFirst a1 I R Q) : gM l D E cIds yX6_findFirst vX6_findFirst (rmK 12 (0) (0)) [.ref (E.1 80), .ref (E.1 a1)] (cef E (I, R)) (cef E) (pI Q) (0) (0) := by
  unfold wX6_findFirst at hw
  refine k_ofW (own := RX6) (cc := cX6_findFirst) (maxL := 3) (ret := (some .boolean)) (lv := [(0, .ref (E.1 80)), (1, .ref (E.1 a1))]) (by decide) rfl rfl (Nat.le_of_ble_eq_true rfl) rfl ?_
  intro X hl hR hN hD F K
  subst hl; subst hD
  have hret := mk_rZ (Q := Q) F K
  refine q_iconst F dX6_findFirst_0 ?_
  refine q_istore_n (lv' := [(0, .ref (E.1 80)), (1, .ref (E.1 a1)), (2, iV 0)]) F [1, 2, 0] dX6_findFirst_1 rfl (q_n hN (by decide)) rfl ?_
  obtain ⟨n1, hw⟩ := hw
  exact bX6_findFirst_2 F hR hN hret ha1 n1 0 I R (⟨by decide, by decide⟩ : inR (0)) hm hw
theorem ydX11_hint : yX11_hint.cls = RX11 ∧ yX11_hint.cls ≠ "java/lang/invoke/MethodHandle" ∧ yX11_hint.cls ≠ "java/lang/invoke/VarHandle" ∧ (parseMethodDescriptor yX11_hint.desc).map (fun d => d.parameters.length) = some 1 := by decide +kernel
def vX11_hint : List Cond := Cond.code yX11_hint cX11_hint 2 (some .int) :: bG
set_option maxHeartbeats 4000000 in
set_option maxRecDepth 100000 in
theorem bX11_hint_9 {z : Nat} {X : xC} {E : cE} (F : mF X E RX11 cX11_hint bG) (hR : X.1.2.2.2 = rmK 13 (1 * z) (6 * z)) (hN : X.2.2.1.2.2.2 = 2) {Q : Int → cI → cR → Prop} {Qx : Nat → cI → cR → Prop} (hret : rI X E cX11_hint (1 * z) (6 * z) Q) (hX : kXx X E cIds (some .int) (cef E) (pI Q) (pX Qx) (1 * z) (6 * z)) (hz : z = 1 ∨ ∀ k I R, ¬ Qx k I R) {a1 : Int} (ha1 : inR a1) : ∀ (I : cI) (R : cR), cM I R → wX11_hint_9 Q Qx a1 I R → cW X (0) (0) 9 [] [] (gw E.1 cIds (cef E (I, R)) ++ []) := by
  intro I R hm hw
  unfold wX11_hint_9 at hw
  exact q_thr2 F hX hR (by decide) hz 8 (by decide) wd459 rfl dX11_hint_9 dX11_hint_12 dX11_hint_13 dX11_hint_15 dX11_hint_18 (fun hz1 => by omega) (fun hz1 => by omega) hm hw
set_option maxHeartbeats 4000000 in
set_option maxRecDepth 100000 in
theorem kcX11_hint {l : Launch} {D : va_G} {E : cE} (hfl : l.stackTraces = false) (z : Nat) {Qx : Nat → cI → cR → Prop} (hz : z = 1 ∨ ∀ k I R, ¬ Qx k I R) {a1 : Int} {I : cI} {R : cR} (hm : cM I R) (ha1 : inR a1) {Q : Int → cI → cR → Prop} (hw : wX11_hint a1 I R Q Qx) : gMx l D E cIds yX11_hint vX11_hint (rmK 13 (1 * z) (6 * z)) [.ref (E.1 0), iV a1] (cef E (I, R)) (cef E) (pI Q) (pX Qx) (1 * z) (6 * z) := by
  unfold wX11_hint at hw
  refine k_ofWx hfl (own := RX11) (cc := cX11_hint) (maxL := 2) (ret := (some .int)) (lv := [(0, .ref (E.1 0)), (1, iV a1)]) (by decide) rfl rfl (Nat.le_of_ble_eq_true rfl) rfl ?_
  intro X hl hR hN hD F hX
  subst hl; subst hD
  have hret := mk_rIx (Q := Q) F hX
  refine q_iload_n F 1 dX11_hint_0 rfl rfl ?_
  refine q_if_lt F ha1 9 dX11_hint_1 (by decide) (fun hc => ?_) (fun hc => ?_)
  · have hw := hw.1 hc
    refine q_lv [] rfl ?_
    exact bX11_hint_9 F hR hN hret hX hz ha1 I R hm hw
  · have hw := hw.2 hc
    refine q_iload_n F 1 dX11_hint_4 rfl rfl ?_
    refine q_iconst F dX11_hint_5 ?_
    refine q_icmp_le F ha1 (⟨by decide, by decide⟩ : inR (3)) 19 dX11_hint_6 (by decide) (fun hc => ?_) (fun hc => ?_)
    · have hw := hw.1 hc
      refine q_aload_n F 0 dX11_hint_19 rfl rfl ?_
      refine t_g_Mill_reasoner F (by decide) ib11 wd199 dX11_hint_20 ?_
      refine q_aload_n F 0 dX11_hint_23 rfl rfl ?_
      refine t_g_Mill_puzzle F (by decide) ib11 wd201 dX11_hint_24 ?_
      refine q_Vi F (kcX6_findFirst hm (hm.2.1) hw) (cIds_in (show ckd 80 = 4 ∧ 80 < 353 by decide).2) (ceReasoner (show ckd 80 = 4 ∧ 80 < 353 by decide).1) (ci := 4) rfl (bV wd661 wd662 wd663 wd7 wd664) rfl ⟨rfl, rfl⟩ ydX6_findFirst (rmK_le hR (by omega) (by decide)) (av := [.ref (E.1 ((R 0 7)))]) rfl rfl (Nat.le_of_ble_eq_true rfl) dX11_hint_27 (rmK_cs hR (by omega) (by omega)) (fun r1 I2 R3 h4 m5 hw => ?_)
      refine q_if_ne F h4 35 dX11_hint_30 (by decide) (fun hc => ?_) (fun hc => ?_)
      · have hw := hw.1 hc
        refine q_iload_n F 1 dX11_hint_35 rfl rfl ?_
        by_cases c0 : a1 = 0
        · have hw := hw.1 c0
          refine q_swIn F 0 ha1 64 dX11_hint_36 (c0.trans (by decide)) (by decide) rfl (by decide) ?_
          refine q_aload_n F 0 dX11_hint_64 rfl rfl ?_
          refine t_g_Mill_reasoner F (by decide) ib11 wd199 dX11_hint_65 ?_
          refine t_g_Reasoner_firstRule F (by decide) ib6 wd111 dX11_hint_68 ?_
          refine q_wide (nc' := 1 * z) (ns' := 6 * z) (by omega) (by omega) ?_
          exact hret _ _ _ _ _ _ dX11_hint_71 (m5.1 _ _) m5 hw
        by_cases c1 : a1 = 1
        · have hw := hw.2.1 c1
          refine q_swIn F 1 ha1 72 dX11_hint_36 (c1.trans (by decide)) (by decide) rfl (by decide) ?_
          refine q_aload_n F 0 dX11_hint_72 rfl rfl ?_
          refine t_g_Mill_reasoner F (by decide) ib11 wd199 dX11_hint_73 ?_
          refine t_g_Reasoner_firstCell F (by decide) ib6 wd113 dX11_hint_76 ?_
          refine q_wide (nc' := 1 * z) (ns' := 6 * z) (by omega) (by omega) ?_
          exact hret _ _ _ _ _ _ dX11_hint_79 (m5.1 _ _) m5 hw
        by_cases c2 : a1 = 2
        · have hw := hw.2.2.1 c2
          refine q_swIn F 2 ha1 80 dX11_hint_36 (c2.trans (by decide)) (by decide) rfl (by decide) ?_
          refine q_aload_n F 0 dX11_hint_80 rfl rfl ?_
          refine t_g_Mill_reasoner F (by decide) ib11 wd199 dX11_hint_81 ?_
          refine t_g_Reasoner_firstValue F (by decide) ib6 wd115 dX11_hint_84 ?_
          refine q_wide (nc' := 1 * z) (ns' := 6 * z) (by omega) (by omega) ?_
          exact hret _ _ _ _ _ _ dX11_hint_87 (m5.1 _ _) m5 hw
        have hw := hw.2.2.2 c0 c1 c2
        refine q_swOut F ha1 88 dX11_hint_36 (by omega) (by decide) ?_
        refine q_aload_n F 0 dX11_hint_88 rfl rfl ?_
        refine t_g_Mill_reasoner F (by decide) ib11 wd199 dX11_hint_89 ?_
        refine t_g_Reasoner_firstGrade F (by decide) ib6 wd117 dX11_hint_92 ?_
        refine q_wide (nc' := 1 * z) (ns' := 6 * z) (by omega) (by omega) ?_
        exact hret _ _ _ _ _ _ dX11_hint_95 (m5.1 _ _) m5 hw
      · have hw := hw.2 hc
        refine q_iconst F dX11_hint_33 ?_
        refine q_wide (nc' := 1 * z) (ns' := 6 * z) (by omega) (by omega) ?_
        exact hret _ _ _ _ _ _ dX11_hint_34 (⟨by decide, by decide⟩ : inR (-1)) m5 hw
    · have hw := hw.2 hc
      refine q_lv [] rfl ?_
      exact bX11_hint_9 F hR hN hret hX hz ha1 I R hm hw
theorem ydX6_takeOut : yX6_takeOut.cls = RX6 ∧ yX6_takeOut.cls ≠ "java/lang/invoke/MethodHandle" ∧ yX6_takeOut.cls ≠ "java/lang/invoke/VarHandle" ∧ (parseMethodDescriptor yX6_takeOut.desc).map (fun d => d.parameters.length) = some 2 := by decide +kernel
def vX6_takeOut : List Cond := Cond.code yX6_takeOut cX6_takeOut 3 none :: bG
set_option maxHeartbeats 4000000 in
set_option maxRecDepth 100000 in
theorem kcX6_takeOut {l : Launch} {D : va_G} {E : cE} {a1 : Int} {a2 : Int} {I : cI} {R : cR} (hm : cM I R) (ha1 : inR a1) (ha2 : inR a2) {Q : cI → cR → Prop} (hw : wX6_takeOut a1 a2 I R Q) : gM l D E cIds yX6_takeOut vX6_takeOut (rmK 2 (0) (0)) [.ref (E.1 80), iV a1, iV a2] (cef E (I, R)) (cef E) (pV Q) (0) (0) := by
  unfold wX6_takeOut at hw
  refine k_ofW (own := RX6) (cc := cX6_takeOut) (maxL := 3) (ret := none) (lv := [(0, .ref (E.1 80)), (1, iV a1), (2, iV a2)]) (by decide) rfl rfl (Nat.le_of_ble_eq_true rfl) rfl ?_
  intro X hl hR hN hD F K
  subst hl; subst hD
  have hret := mk_rV (Q := Q) F K
  refine q_aload_n F 0 dX6_takeOut_0 rfl rfl ?_
  refine q_iload_n F 1 dX6_takeOut_1 rfl rfl ?_
  refine q_iload_n F 2 dX6_takeOut_2 rfl rfl ?_
  refine q_Vi F (kcX6_hasValue hm ha1 ha2 hw) (cIds_in (show ckd 80 = 4 ∧ 80 < 353 by decide).2) (ceReasoner (show ckd 80 = 4 ∧ 80 < 353 by decide).1) (ci := 4) rfl (bV wd671 wd672 wd919 wd7 wd673) rfl ⟨rfl, rfl⟩ ydX6_hasValue (rmK_le hR (by omega) (by decide)) (av := [iV a1, iV a2]) rfl rfl (Nat.le_of_ble_eq_true rfl) dX6_takeOut_3 (rmK_cs hR (by omega) (by omega)) (fun r1 I2 R3 h4 m5 hw => ?_)
  refine q_if_eq F h4 23 dX6_takeOut_6 (by decide) (fun hc => ?_) (fun hc => ?_)
  · have hw := hw.1 hc
    exact hret _ _ _ _ _ dX6_takeOut_23 m5 hw
  · have hw := hw.2 hc
    refine q_aload_n F 0 dX6_takeOut_9 rfl rfl ?_
    refine t_g_Reasoner_sets F (by decide) ib6 wd104 81 rfl dX6_takeOut_10 ?_
    refine q_iload_n F 1 dX6_takeOut_13 rfl rfl ?_
    refine q_dup2 F dX6_takeOut_14 rfl rfl ?_
    obtain ⟨k6, hw⟩ := hw
    refine t_ald F 25 kA_81 k6 (by decide) dX6_takeOut_15 ?_
    refine q_iconst F dX6_takeOut_16 ?_
    refine q_iload_n F 2 dX6_takeOut_17 rfl rfl ?_
    refine q_iconst F dX6_takeOut_18 ?_
    refine q_isub F dX6_takeOut_19 ?_
    refine q_ishl F dX6_takeOut_20 ?_
    refine q_isub F dX6_takeOut_21 ?_
    obtain ⟨k7, hw⟩ := hw
    obtain ⟨k8, hw⟩ := hw
    obtain ⟨I9, e10⟩ := ex1 (up2 I2 81 a1 (((I2 81 a1) - (iShl 1 ((a2 - 1))))))
    have hw := hw I9 e10
    have m11 : cM I9 R3 := cM_I m5 e10 k7
    refine t_ast F 25 kA_81 k8 (by decide) e10 dX6_takeOut_22 ?_
    exact hret _ _ _ _ _ dX6_takeOut_23 m11 hw
theorem ydX6_deduceBy : yX6_deduceBy.cls = RX6 ∧ yX6_deduceBy.cls ≠ "java/lang/invoke/MethodHandle" ∧ yX6_deduceBy.cls ≠ "java/lang/invoke/VarHandle" ∧ (parseMethodDescriptor yX6_deduceBy.desc).map (fun d => d.parameters.length) = some 2 := by decide +kernel
def vX6_deduceBy : List Cond := Cond.code yX6_deduceBy cX6_deduceBy 6 (some .int) :: bG
set_option maxHeartbeats 4000000 in
set_option maxRecDepth 100000 in
theorem bX6_deduceBy_17 {X : xC} {E : cE} (F : mF X E RX6 cX6_deduceBy bG) (hR : X.1.2.2.2 = rmK 11 (0) (0)) (hN : X.2.2.1.2.2.2 = 6) {Q : Int → cI → cR → Prop} (hret : rI X E cX6_deduceBy (0) (0) Q) {a1 : Nat} {a2 : Int} (ha1 : isR a1) (ha2 : inR a2) {K5 : Int → Int → cI → cR → Prop} (hK5 : ∀ (x3 : Int) (x4 : Int) (I : cI) (R : cR), inR x3 → inR x4 → cM I R → K5 x3 x4 I R → cW X (0) (0) 5 [(0, .ref (E.1 80)), (1, .ref (E.1 a1)), (2, iV a2), (3, iV x3), (4, iV x4)] [] (gw E.1 cIds (cef E (I, R)) ++ [])) : ∀ n17 : Nat, ∀ (x3 : Int) (x4 : Int) (x5 : Int) (I : cI) (R : cR), inR x3 → inR x4 → inR x5 → cM I R → wX6_deduceBy_17 Q a1 a2 K5 n17 x3 x4 x5 I R → cW X (0) (0) 17 [(0, .ref (E.1 80)), (1, .ref (E.1 a1)), (2, iV a2), (3, iV x3), (4, iV x4), (5, iV x5)] [] (gw E.1 cIds (cef E (I, R)) ++ []) := by
  intro n17
  induction n17 with
  | zero => intro x3 x4 x5 I R hx3 hx4 hx5 hm hw; exact hw.elim
  | succ n17 ih =>
    intro x3 x4 x5 I R hx3 hx4 hx5 hm hw
    change wbX6_deduceBy_17 Q a1 a2 K5 (wX6_deduceBy_17 Q a1 a2 K5 n17) x3 x4 x5 I R at hw
    unfold wbX6_deduceBy_17 at hw
    refine q_iload F 5 dX6_deduceBy_17 rfl ?_
    refine q_iload_n F 2 dX6_deduceBy_19 rfl rfl ?_
    refine q_icmp_gt F hx5 ha2 74 dX6_deduceBy_20 (by decide) (fun hc => ?_) (fun hc => ?_)
    · have hw := hw.1 hc
      obtain ⟨k3, hw⟩ := hw
      obtain ⟨z1, e2⟩ := ex1 (x4 + 1)
      have hw := hw z1 e2
      have hz1 : inR z1 := by rw [e2]; exact k3
      refine q_iinc (lv' := [(0, .ref (E.1 80)), (1, .ref (E.1 a1)), (2, iV a2), (3, iV x3), (4, iV z1), (5, iV x5)]) F 4 [1, 2, 3, 4, 0, 5] dX6_deduceBy_74 rfl (q_n hN (by decide)) e2.symm rfl ?_
      refine q_goto F 5 dX6_deduceBy_77 (by decide) ?_
      refine q_lv [0, 1, 2, 3, 4] rfl ?_
      exact hK5 x3 z1 I R hx3 hz1 hm hw
    · have hw := hw.2 hc
      refine q_aload_n F 0 dX6_deduceBy_23 rfl rfl ?_
      refine q_aload_n F 1 dX6_deduceBy_24 rfl rfl ?_
      refine q_iload F 4 dX6_deduceBy_25 rfl ?_
      refine q_iload F 5 dX6_deduceBy_27 rfl ?_
      refine q_iload_n F 2 dX6_deduceBy_29 rfl rfl ?_
      refine q_Vi F (kcX6_isRefuted hm ha1 hx4 hx5 ha2 hw) (cIds_in (show ckd 80 = 4 ∧ 80 < 353 by decide).2) (ceReasoner (show ckd 80 = 4 ∧ 80 < 353 by decide).1) (ci := 4) rfl (bV wd668 wd669 wd918 wd7 wd670) rfl ⟨rfl, rfl⟩ ydX6_isRefuted (rmK_le hR (by omega) (by decide)) (av := [.ref (E.1 a1), iV x4, iV x5, iV a2]) rfl rfl (Nat.le_of_ble_eq_true rfl) dX6_deduceBy_30 (rmK_cs hR (by omega) (by omega)) (fun r4 I5 R6 h7 m8 hw => ?_)
      refine q_if_eq F h7 68 dX6_deduceBy_33 (by decide) (fun hc => ?_) (fun hc => ?_)
      · have hw := hw.1 hc
        obtain ⟨k11, hw⟩ := hw
        obtain ⟨z9, e10⟩ := ex1 (x5 + 1)
        have hw := hw z9 e10
        have hz9 : inR z9 := by rw [e10]; exact k11
        refine q_iinc (lv' := [(0, .ref (E.1 80)), (1, .ref (E.1 a1)), (2, iV a2), (3, iV x3), (4, iV x4), (5, iV z9)]) F 5 [1, 2, 3, 4, 5, 0] dX6_deduceBy_68 rfl (q_n hN (by decide)) e10.symm rfl ?_
        refine q_goto F 17 dX6_deduceBy_71 (by decide) ?_
        exact ih x3 x4 z9 I5 R6 hx3 hx4 hz9 m8 hw
      · have hw := hw.2 hc
        refine q_aload_n F 0 dX6_deduceBy_36 rfl rfl ?_
        refine q_aload_n F 0 dX6_deduceBy_37 rfl rfl ?_
        refine t_g_Reasoner_greatestGrade F (by decide) ib6 wd108 dX6_deduceBy_38 ?_
        refine q_aload_n F 0 dX6_deduceBy_41 rfl rfl ?_
        refine q_aload_n F 1 dX6_deduceBy_42 rfl rfl ?_
        refine q_Vi F (kcX6_gradeOf m8 ha1 hw) (cIds_in (show ckd 80 = 4 ∧ 80 < 353 by decide).2) (ceReasoner (show ckd 80 = 4 ∧ 80 < 353 by decide).1) (ci := 4) rfl (bV wd678 wd679 wd920 wd7 wd680) rfl ⟨rfl, rfl⟩ ydX6_gradeOf (rmK_le hR (by omega) (by decide)) (av := [.ref (E.1 a1)]) rfl rfl (Nat.le_of_ble_eq_true rfl) dX6_deduceBy_43 (rmK_cs hR (by omega) (by omega)) (fun r12 I13 R14 h15 m16 hw => ?_)
        refine q_max F hR (by omega) (m8.1 _ _) h15 wd692 dX6_deduceBy_46 (Nat.le_of_ble_eq_true rfl) ?_
        obtain ⟨I17, e18⟩ := ex1 (up2 I13 80 2 ((imax ((I5 80 2)) r12)))
        have hw := hw I17 e18
        have m19 : cM I17 R14 := cM_I m16 e18 (imax_in (m8.1 _ _) h15)
        refine t_p_Reasoner_greatestGrade F (by decide) ib6 wd108 e18 dX6_deduceBy_49 ?_
        refine q_aload_n F 0 dX6_deduceBy_52 rfl rfl ?_
        refine q_aload_n F 1 dX6_deduceBy_53 rfl rfl ?_
        refine t_g_Rule_cells F (kR0 ha1) ib7 wd163 (a1 + 130) rfl dX6_deduceBy_54 ?_
        refine q_iload F 4 dX6_deduceBy_57 rfl ?_
        obtain ⟨k20, hw⟩ := hw
        refine t_ald F 5 (kR4 ha1) k20 (by decide) dX6_deduceBy_59 ?_
        refine q_iload F 5 dX6_deduceBy_60 rfl ?_
        refine q_Vv F (kcX6_takeOut m19 (m19.1 _ _) hx5 hw) (cIds_in (show ckd 80 = 4 ∧ 80 < 353 by decide).2) (ceReasoner (show ckd 80 = 4 ∧ 80 < 353 by decide).1) (ci := 4) rfl (bV wd695 wd696 wd697 wd7 wd698) rfl ⟨rfl, rfl⟩ ydX6_takeOut (rmK_le hR (by omega) (by decide)) (av := [iV ((I17 (a1 + 130) x4)), iV x5]) rfl rfl (Nat.le_of_ble_eq_true rfl) dX6_deduceBy_62 (rmK_cs hR (by omega) (by omega)) (fun I22 R23 m25 hw => ?_)
        obtain ⟨k28, hw⟩ := hw
        obtain ⟨z26, e27⟩ := ex1 (x3 + 1)
        have hw := hw z26 e27
        have hz26 : inR z26 := by rw [e27]; exact k28
        refine q_iinc (lv' := [(0, .ref (E.1 80)), (1, .ref (E.1 a1)), (2, iV a2), (3, iV z26), (4, iV x4), (5, iV x5)]) F 3 [1, 2, 3, 0, 4, 5] dX6_deduceBy_65 rfl (q_n hN (by decide)) e27.symm rfl ?_
        obtain ⟨k31, hw⟩ := hw
        obtain ⟨z29, e30⟩ := ex1 (x5 + 1)
        have hw := hw z29 e30
        have hz29 : inR z29 := by rw [e30]; exact k31
        refine q_iinc (lv' := [(0, .ref (E.1 80)), (1, .ref (E.1 a1)), (2, iV a2), (3, iV z26), (4, iV x4), (5, iV z29)]) F 5 [1, 2, 3, 4, 5, 0] dX6_deduceBy_68 rfl (q_n hN (by decide)) e30.symm rfl ?_
        refine q_goto F 17 dX6_deduceBy_71 (by decide) ?_
        exact ih z26 x4 z29 I22 R23 hz26 hx4 hz29 m25 hw
set_option maxHeartbeats 4000000 in
set_option maxRecDepth 100000 in
theorem bX6_deduceBy_5 {X : xC} {E : cE} (F : mF X E RX6 cX6_deduceBy bG) (hR : X.1.2.2.2 = rmK 11 (0) (0)) (hN : X.2.2.1.2.2.2 = 6) {Q : Int → cI → cR → Prop} (hret : rI X E cX6_deduceBy (0) (0) Q) {a1 : Nat} {a2 : Int} (ha1 : isR a1) (ha2 : inR a2) : ∀ n5 : Nat, ∀ (x3 : Int) (x4 : Int) (I : cI) (R : cR), inR x3 → inR x4 → cM I R → wX6_deduceBy_5 Q a1 a2 n5 x3 x4 I R → cW X (0) (0) 5 [(0, .ref (E.1 80)), (1, .ref (E.1 a1)), (2, iV a2), (3, iV x3), (4, iV x4)] [] (gw E.1 cIds (cef E (I, R)) ++ []) := by
  intro n5
  induction n5 with
  | zero => intro x3 x4 I R hx3 hx4 hm hw; exact hw.elim
  | succ n5 ih =>
    intro x3 x4 I R hx3 hx4 hm hw
    change wbX6_deduceBy_5 Q a1 a2 (wX6_deduceBy_5 Q a1 a2 n5) x3 x4 I R at hw
    unfold wbX6_deduceBy_5 at hw
    refine q_iload F 4 dX6_deduceBy_5 rfl ?_
    refine q_aload_n F 1 dX6_deduceBy_7 rfl rfl ?_
    refine t_g_Rule_size F (kR0 ha1) ib7 wd158 dX6_deduceBy_8 ?_
    refine q_icmp_ge F hx4 (hm.1 _ _) 80 dX6_deduceBy_11 (by decide) (fun hc => ?_) (fun hc => ?_)
    · have hw := hw.1 hc
      refine q_iload_n F 3 dX6_deduceBy_80 rfl rfl ?_
      exact hret _ _ _ _ _ _ dX6_deduceBy_81 hx3 hm hw
    · have hw := hw.2 hc
      refine q_iconst F dX6_deduceBy_14 ?_
      refine q_istore (lv' := [(0, .ref (E.1 80)), (1, .ref (E.1 a1)), (2, iV a2), (3, iV x3), (4, iV x4), (5, iV 1)]) F [1, 2, 3, 4, 5, 0] dX6_deduceBy_15 (q_n hN (by decide)) rfl ?_
      obtain ⟨n1, hw⟩ := hw
      exact bX6_deduceBy_17 F hR hN hret ha1 ha2 ih n1 x3 x4 1 I R hx3 hx4 (⟨by decide, by decide⟩ : inR (1)) hm hw
set_option maxHeartbeats 4000000 in
set_option maxRecDepth 100000 in
theorem kcX6_deduceBy {l : Launch} {D : va_G} {E : cE} {a1 : Nat} {a2 : Int} {I : cI} {R : cR} (hm : cM I R) (ha1 : isR a1) (ha2 : inR a2) {Q : Int → cI → cR → Prop} (hw : wX6_deduceBy a1 a2 I R Q) : gM l D E cIds yX6_deduceBy vX6_deduceBy (rmK 11 (0) (0)) [.ref (E.1 80), .ref (E.1 a1), iV a2] (cef E (I, R)) (cef E) (pI Q) (0) (0) := by
  unfold wX6_deduceBy at hw
  refine k_ofW (own := RX6) (cc := cX6_deduceBy) (maxL := 6) (ret := (some .int)) (lv := [(0, .ref (E.1 80)), (1, .ref (E.1 a1)), (2, iV a2)]) (by decide) rfl rfl (Nat.le_of_ble_eq_true rfl) rfl ?_
  intro X hl hR hN hD F K
  subst hl; subst hD
  have hret := mk_rI (Q := Q) F K
  refine q_iconst F dX6_deduceBy_0 ?_
  refine q_istore_n (lv' := [(0, .ref (E.1 80)), (1, .ref (E.1 a1)), (2, iV a2), (3, iV 0)]) F [1, 2, 3, 0] dX6_deduceBy_1 rfl (q_n hN (by decide)) rfl ?_
  refine q_iconst F dX6_deduceBy_2 ?_
  refine q_istore (lv' := [(0, .ref (E.1 80)), (1, .ref (E.1 a1)), (2, iV a2), (3, iV 0), (4, iV 0)]) F [1, 2, 3, 4, 0] dX6_deduceBy_3 (q_n hN (by decide)) rfl ?_
  obtain ⟨n1, hw⟩ := hw
  exact bX6_deduceBy_5 F hR hN hret ha1 ha2 n1 0 0 I R (⟨by decide, by decide⟩ : inR (0)) (⟨by decide, by decide⟩ : inR (0)) hm hw
theorem ydX6_doPasses : yX6_doPasses.cls = RX6 ∧ yX6_doPasses.cls ≠ "java/lang/invoke/MethodHandle" ∧ yX6_doPasses.cls ≠ "java/lang/invoke/VarHandle" ∧ (parseMethodDescriptor yX6_doPasses.desc).map (fun d => d.parameters.length) = some 1 := by decide +kernel
def vX6_doPasses : List Cond := Cond.code yX6_doPasses cX6_doPasses 6 (some .int) :: bG
set_option maxHeartbeats 4000000 in
set_option maxRecDepth 100000 in
theorem bX6_doPasses_26 {X : xC} {E : cE} (F : mF X E RX6 cX6_doPasses bG) (hR : X.1.2.2.2 = rmK 12 (0) (0)) (hN : X.2.2.1.2.2.2 = 6) {Q : Int → cI → cR → Prop} (hret : rI X E cX6_doPasses (0) (0) Q) {a1 : Nat} (ha1 : isP a1) {K14 : Int → Int → cI → cR → Prop} (hK14 : ∀ (x2 : Int) (x3 : Int) (I : cI) (R : cR), inR x2 → inR x3 → cM I R → K14 x2 x3 I R → cW X (0) (0) 14 [(0, .ref (E.1 80)), (1, .ref (E.1 a1)), (2, iV x2), (3, iV x3)] [] (gw E.1 cIds (cef E (I, R)) ++ [])) : ∀ n26 : Nat, ∀ (x2 : Int) (x3 : Int) (x4 : Int) (x5 : Int) (I : cI) (R : cR), inR x2 → inR x3 → inR x4 → inR x5 → cM I R → wX6_doPasses_26 Q a1 K14 n26 x2 x3 x4 x5 I R → cW X (0) (0) 26 [(0, .ref (E.1 80)), (1, .ref (E.1 a1)), (2, iV x2), (3, iV x3), (4, iV x4), (5, iV x5)] [] (gw E.1 cIds (cef E (I, R)) ++ []) := by
  intro n26
  induction n26 with
  | zero => intro x2 x3 x4 x5 I R hx2 hx3 hx4 hx5 hm hw; exact hw.elim
  | succ n26 ih =>
    intro x2 x3 x4 x5 I R hx2 hx3 hx4 hx5 hm hw
    change wbX6_doPasses_26 Q a1 K14 (wX6_doPasses_26 Q a1 K14 n26) x2 x3 x4 x5 I R at hw
    unfold wbX6_doPasses_26 at hw
    refine q_iload F 5 dX6_doPasses_26 rfl ?_
    refine q_aload_n F 1 dX6_doPasses_28 rfl rfl ?_
    refine t_g_Puzzle_ruleCount F (kP0 ha1) ib4 wd190 dX6_doPasses_29 ?_
    refine q_icmp_ge F hx5 (hm.1 _ _) 61 dX6_doPasses_32 (by decide) (fun hc => ?_) (fun hc => ?_)
    · have hw := hw.1 hc
      refine q_aload_n F 0 dX6_doPasses_61 rfl rfl ?_
      refine q_dup F dX6_doPasses_62 rfl ?_
      refine t_g_Reasoner_passes F (by decide) ib6 wd106 dX6_doPasses_63 ?_
      refine q_iconst F dX6_doPasses_66 ?_
      refine q_iadd F dX6_doPasses_67 ?_
      obtain ⟨k1, hw⟩ := hw
      obtain ⟨I2, e3⟩ := ex1 (up2 I 80 1 (((I 80 1) + 1)))
      have hw := hw I2 e3
      have m4 : cM I2 R := cM_I hm e3 k1
      refine t_p_Reasoner_passes F (by decide) ib6 wd106 e3 dX6_doPasses_68 ?_
      refine q_iload_n F 2 dX6_doPasses_71 rfl rfl ?_
      refine q_iload F 4 dX6_doPasses_72 rfl ?_
      refine q_iadd F dX6_doPasses_74 ?_
      obtain ⟨k5, hw⟩ := hw
      obtain ⟨z6, e7⟩ := ex1 ((x2 + x4))
      have hw := hw z6 e7
      have hz6 : inR z6 := by rw [e7]; exact k5
      refine q_top e7 ?_
      refine q_istore_n (lv' := [(0, .ref (E.1 80)), (1, .ref (E.1 a1)), (2, iV z6), (3, iV x3), (4, iV x4), (5, iV x5)]) F [1, 2, 0, 3, 4, 5] dX6_doPasses_75 rfl (q_n hN (by decide)) rfl ?_
      refine q_iload F 4 dX6_doPasses_76 rfl ?_
      refine q_if_ne F hx4 84 dX6_doPasses_78 (by decide) (fun hc => ?_) (fun hc => ?_)
      · have hw := hw.1 hc
        obtain ⟨k10, hw⟩ := hw
        obtain ⟨z8, e9⟩ := ex1 (x3 + 1)
        have hw := hw z8 e9
        have hz8 : inR z8 := by rw [e9]; exact k10
        refine q_iinc (lv' := [(0, .ref (E.1 80)), (1, .ref (E.1 a1)), (2, iV z6), (3, iV z8), (4, iV x4), (5, iV x5)]) F 3 [1, 2, 3, 0, 4, 5] dX6_doPasses_84 rfl (q_n hN (by decide)) e9.symm rfl ?_
        refine q_goto F 14 dX6_doPasses_87 (by decide) ?_
        refine q_lv [0, 1, 2, 3] rfl ?_
        exact hK14 z6 z8 I2 R hz6 hz8 m4 hw
      · have hw := hw.2 hc
        refine q_goto F 90 dX6_doPasses_81 (by decide) ?_
        refine q_iload_n F 2 dX6_doPasses_90 rfl rfl ?_
        exact hret _ _ _ _ _ _ dX6_doPasses_91 hz6 m4 hw
    · have hw := hw.2 hc
      refine q_iload F 4 dX6_doPasses_35 rfl ?_
      refine q_aload_n F 0 dX6_doPasses_37 rfl rfl ?_
      refine q_aload_n F 1 dX6_doPasses_38 rfl rfl ?_
      refine t_g_Puzzle_rules F (kP0 ha1) ib4 wd186 (a1 + 2) rfl dX6_doPasses_39 ?_
      refine q_iload F 5 dX6_doPasses_42 rfl ?_
      obtain ⟨k11, hw⟩ := hw
      refine t_rld F (kP2 ha1) k11 dX6_doPasses_44 ?_
      refine q_aload_n F 1 dX6_doPasses_45 rfl rfl ?_
      refine t_g_Puzzle_highest F (kP0 ha1) ib4 wd176 dX6_doPasses_46 ?_
      refine q_Vi F (kcX6_deduceBy hm (hm.2.2.2.1 _ ha1 _ k11) (hm.1 _ _) hw) (cIds_in (show ckd 80 = 4 ∧ 80 < 353 by decide).2) (ceReasoner (show ckd 80 = 4 ∧ 80 < 353 by decide).1) (ci := 4) rfl (bV wd689 wd690 wd921 wd7 wd691) rfl ⟨rfl, rfl⟩ ydX6_deduceBy (rmK_le hR (by omega) (by decide)) (av := [.ref (E.1 ((R (a1 + 2) x5))), iV ((I a1 2))]) rfl rfl (Nat.le_of_ble_eq_true rfl) dX6_doPasses_49 (rmK_cs hR (by omega) (by omega)) (fun r12 I13 R14 h15 m16 hw => ?_)
      refine q_iadd F dX6_doPasses_52 ?_
      obtain ⟨k17, hw⟩ := hw
      obtain ⟨z18, e19⟩ := ex1 ((x4 + r12))
      have hw := hw z18 e19
      have hz18 : inR z18 := by rw [e19]; exact k17
      refine q_top e19 ?_
      refine q_istore (lv' := [(0, .ref (E.1 80)), (1, .ref (E.1 a1)), (2, iV x2), (3, iV x3), (4, iV z18), (5, iV x5)]) F [1, 2, 3, 4, 0, 5] dX6_doPasses_53 (q_n hN (by decide)) rfl ?_
      obtain ⟨k22, hw⟩ := hw
      obtain ⟨z20, e21⟩ := ex1 (x5 + 1)
      have hw := hw z20 e21
      have hz20 : inR z20 := by rw [e21]; exact k22
      refine q_iinc (lv' := [(0, .ref (E.1 80)), (1, .ref (E.1 a1)), (2, iV x2), (3, iV x3), (4, iV z18), (5, iV z20)]) F 5 [1, 2, 3, 4, 5, 0] dX6_doPasses_55 rfl (q_n hN (by decide)) e21.symm rfl ?_
      refine q_goto F 26 dX6_doPasses_58 (by decide) ?_
      exact ih x2 x3 z18 z20 I13 R14 hx2 hx3 hz18 hz20 m16 hw
set_option maxHeartbeats 4000000 in
set_option maxRecDepth 100000 in
theorem bX6_doPasses_14 {X : xC} {E : cE} (F : mF X E RX6 cX6_doPasses bG) (hR : X.1.2.2.2 = rmK 12 (0) (0)) (hN : X.2.2.1.2.2.2 = 6) {Q : Int → cI → cR → Prop} (hret : rI X E cX6_doPasses (0) (0) Q) {a1 : Nat} (ha1 : isP a1) : ∀ n14 : Nat, ∀ (x2 : Int) (x3 : Int) (I : cI) (R : cR), inR x2 → inR x3 → cM I R → wX6_doPasses_14 Q a1 n14 x2 x3 I R → cW X (0) (0) 14 [(0, .ref (E.1 80)), (1, .ref (E.1 a1)), (2, iV x2), (3, iV x3)] [] (gw E.1 cIds (cef E (I, R)) ++ []) := by
  intro n14
  induction n14 with
  | zero => intro x2 x3 I R hx2 hx3 hm hw; exact hw.elim
  | succ n14 ih =>
    intro x2 x3 I R hx2 hx3 hm hw
    change wbX6_doPasses_14 Q a1 (wX6_doPasses_14 Q a1 n14) x2 x3 I R at hw
    unfold wbX6_doPasses_14 at hw
    refine q_iload_n F 3 dX6_doPasses_14 rfl rfl ?_
    refine q_bipush F dX6_doPasses_15 (by decide) ?_
    refine q_icmp_gt F hx3 (⟨by decide, by decide⟩ : inR (125)) 90 dX6_doPasses_17 (by decide) (fun hc => ?_) (fun hc => ?_)
    · have hw := hw.1 hc
      refine q_iload_n F 2 dX6_doPasses_90 rfl rfl ?_
      exact hret _ _ _ _ _ _ dX6_doPasses_91 hx2 hm hw
    · have hw := hw.2 hc
      refine q_iconst F dX6_doPasses_20 ?_
      refine q_istore (lv' := [(0, .ref (E.1 80)), (1, .ref (E.1 a1)), (2, iV x2), (3, iV x3), (4, iV 0)]) F [1, 2, 3, 4, 0] dX6_doPasses_21 (q_n hN (by decide)) rfl ?_
      refine q_iconst F dX6_doPasses_23 ?_
      refine q_istore (lv' := [(0, .ref (E.1 80)), (1, .ref (E.1 a1)), (2, iV x2), (3, iV x3), (4, iV 0), (5, iV 0)]) F [1, 2, 3, 4, 5, 0] dX6_doPasses_24 (q_n hN (by decide)) rfl ?_
      obtain ⟨n1, hw⟩ := hw
      exact bX6_doPasses_26 F hR hN hret ha1 ih n1 x2 x3 0 0 I R hx2 hx3 (⟨by decide, by decide⟩ : inR (0)) (⟨by decide, by decide⟩ : inR (0)) hm hw
set_option maxHeartbeats 4000000 in
set_option maxRecDepth 100000 in
theorem kcX6_doPasses {l : Launch} {D : va_G} {E : cE} {a1 : Nat} {I : cI} {R : cR} (hm : cM I R) (ha1 : isP a1) {Q : Int → cI → cR → Prop} (hw : wX6_doPasses a1 I R Q) : gM l D E cIds yX6_doPasses vX6_doPasses (rmK 12 (0) (0)) [.ref (E.1 80), .ref (E.1 a1)] (cef E (I, R)) (cef E) (pI Q) (0) (0) := by
  unfold wX6_doPasses at hw
  refine k_ofW (own := RX6) (cc := cX6_doPasses) (maxL := 6) (ret := (some .int)) (lv := [(0, .ref (E.1 80)), (1, .ref (E.1 a1))]) (by decide) rfl rfl (Nat.le_of_ble_eq_true rfl) rfl ?_
  intro X hl hR hN hD F K
  subst hl; subst hD
  have hret := mk_rI (Q := Q) F K
  refine q_aload_n F 0 dX6_doPasses_0 rfl rfl ?_
  refine q_iconst F dX6_doPasses_1 ?_
  obtain ⟨I1, e2⟩ := ex1 (up2 I 80 1 0)
  have hw := hw I1 e2
  have m3 : cM I1 R := cM_I hm e2 (⟨by decide, by decide⟩ : inR (0))
  refine t_p_Reasoner_passes F (by decide) ib6 wd106 e2 dX6_doPasses_2 ?_
  refine q_aload_n F 0 dX6_doPasses_5 rfl rfl ?_
  refine q_iconst F dX6_doPasses_6 ?_
  obtain ⟨I4, e5⟩ := ex1 (up2 I1 80 2 0)
  have hw := hw I4 e5
  have m6 : cM I4 R := cM_I m3 e5 (⟨by decide, by decide⟩ : inR (0))
  refine t_p_Reasoner_greatestGrade F (by decide) ib6 wd108 e5 dX6_doPasses_7 ?_
  refine q_iconst F dX6_doPasses_10 ?_
  refine q_istore_n (lv' := [(0, .ref (E.1 80)), (1, .ref (E.1 a1)), (2, iV 0)]) F [1, 2, 0] dX6_doPasses_11 rfl (q_n hN (by decide)) rfl ?_
  refine q_iconst F dX6_doPasses_12 ?_
  refine q_istore_n (lv' := [(0, .ref (E.1 80)), (1, .ref (E.1 a1)), (2, iV 0), (3, iV 0)]) F [1, 2, 3, 0] dX6_doPasses_13 rfl (q_n hN (by decide)) rfl ?_
  obtain ⟨n7, hw⟩ := hw
  exact bX6_doPasses_14 F hR hN hret ha1 n7 0 0 I4 R (⟨by decide, by decide⟩ : inR (0)) (⟨by decide, by decide⟩ : inR (0)) m6 hw
theorem ydX11_reason : yX11_reason.cls = RX11 ∧ yX11_reason.cls ≠ "java/lang/invoke/MethodHandle" ∧ yX11_reason.cls ≠ "java/lang/invoke/VarHandle" ∧ (parseMethodDescriptor yX11_reason.desc).map (fun d => d.parameters.length) = some 0 := by decide +kernel
def vX11_reason : List Cond := Cond.code yX11_reason cX11_reason 1 (some .int) :: bG
set_option maxHeartbeats 4000000 in
set_option maxRecDepth 100000 in
theorem kcX11_reason {l : Launch} {D : va_G} {E : cE} {I : cI} {R : cR} (hm : cM I R)  {Q : Int → cI → cR → Prop} (hw : wX11_reason  I R Q) : gM l D E cIds yX11_reason vX11_reason (rmK 13 (0) (0)) [.ref (E.1 0)] (cef E (I, R)) (cef E) (pI Q) (0) (0) := by
  unfold wX11_reason at hw
  refine k_ofW (own := RX11) (cc := cX11_reason) (maxL := 1) (ret := (some .int)) (lv := [(0, .ref (E.1 0))]) (by decide) rfl rfl (Nat.le_of_ble_eq_true rfl) rfl ?_
  intro X hl hR hN hD F K
  subst hl; subst hD
  have hret := mk_rI (Q := Q) F K
  refine q_aload_n F 0 dX11_reason_0 rfl rfl ?_
  refine t_g_Mill_reasoner F (by decide) ib11 wd199 dX11_reason_1 ?_
  refine q_aload_n F 0 dX11_reason_4 rfl rfl ?_
  refine t_g_Mill_puzzle F (by decide) ib11 wd201 dX11_reason_5 ?_
  refine q_Vi F (kcX6_doPasses hm (hm.2.1) hw) (cIds_in (show ckd 80 = 4 ∧ 80 < 353 by decide).2) (ceReasoner (show ckd 80 = 4 ∧ 80 < 353 by decide).1) (ci := 4) rfl (bV wd685 wd686 wd687 wd7 wd688) rfl ⟨rfl, rfl⟩ ydX6_doPasses (rmK_le hR (by omega) (by decide)) (av := [.ref (E.1 ((R 0 7)))]) rfl rfl (Nat.le_of_ble_eq_true rfl) dX11_reason_8 (rmK_cs hR (by omega) (by omega)) (fun r1 I2 R3 h4 m5 hw => ?_)
  exact hret _ _ _ _ _ _ dX11_reason_11 h4 m5 hw
theorem ydX6_countCellsWith : yX6_countCellsWith.cls = RX6 ∧ yX6_countCellsWith.cls ≠ "java/lang/invoke/MethodHandle" ∧ yX6_countCellsWith.cls ≠ "java/lang/invoke/VarHandle" ∧ (parseMethodDescriptor yX6_countCellsWith.desc).map (fun d => d.parameters.length) = some 2 := by decide +kernel
def vX6_countCellsWith : List Cond := Cond.code yX6_countCellsWith cX6_countCellsWith 5 (some .int) :: bG
set_option maxHeartbeats 4000000 in
set_option maxRecDepth 100000 in
theorem bX6_countCellsWith_5 {X : xC} {E : cE} (F : mF X E RX6 cX6_countCellsWith bG) (hR : X.1.2.2.2 = rmK 2 (0) (0)) (hN : X.2.2.1.2.2.2 = 5) {Q : Int → cI → cR → Prop} (hret : rI X E cX6_countCellsWith (0) (0) Q) {a1 : Nat} {a2 : Int} (ha1 : isP a1) (ha2 : inR a2) : ∀ n5 : Nat, ∀ (x3 : Int) (x4 : Int) (I : cI) (R : cR), inR x3 → inR x4 → cM I R → wX6_countCellsWith_5 Q a1 a2 n5 x3 x4 I R → cW X (0) (0) 5 [(0, .ref (E.1 80)), (1, .ref (E.1 a1)), (2, iV a2), (3, iV x3), (4, iV x4)] [] (gw E.1 cIds (cef E (I, R)) ++ []) := by
  intro n5
  induction n5 with
  | zero => intro x3 x4 I R hx3 hx4 hm hw; exact hw.elim
  | succ n5 ih =>
    intro x3 x4 I R hx3 hx4 hm hw
    change wbX6_countCellsWith_5 Q a1 a2 (wX6_countCellsWith_5 Q a1 a2 n5) x3 x4 I R at hw
    unfold wbX6_countCellsWith_5 at hw
    refine q_iload F 4 dX6_countCellsWith_5 rfl ?_
    refine q_aload_n F 1 dX6_countCellsWith_7 rfl rfl ?_
    refine q_Vi F (kcX4_cellCount hm ha1 hw) (cIds_in (kP0 ha1).2) (cePuzzle (kP0 ha1).1) (ci := 2) rfl (bV wd403 wd404 wd405 wd9 wd406) rfl ⟨rfl, rfl⟩ ydX4_cellCount (rmK_le hR (by omega) (by decide)) (av := []) rfl rfl (Nat.le_of_ble_eq_true rfl) dX6_countCellsWith_8 (rmK_cs hR (by omega) (by omega)) (fun r1 I2 R3 h4 m5 hw => ?_)
    refine q_icmp_ge F hx4 h4 37 dX6_countCellsWith_11 (by decide) (fun hc => ?_) (fun hc => ?_)
    · have hw := hw.1 hc
      refine q_iload_n F 3 dX6_countCellsWith_37 rfl rfl ?_
      exact hret _ _ _ _ _ _ dX6_countCellsWith_38 hx3 m5 hw
    · have hw := hw.2 hc
      refine q_aload_n F 0 dX6_countCellsWith_14 rfl rfl ?_
      refine t_g_Reasoner_sets F (by decide) ib6 wd104 81 rfl dX6_countCellsWith_15 ?_
      refine q_iload F 4 dX6_countCellsWith_18 rfl ?_
      obtain ⟨k6, hw⟩ := hw
      refine t_ald F 25 kA_81 k6 (by decide) dX6_countCellsWith_20 ?_
      refine q_bc F hR (by omega) (m5.1 _ _) wd646 dX6_countCellsWith_21 (Nat.le_of_ble_eq_true rfl) ?_
      refine q_iload_n F 2 dX6_countCellsWith_24 rfl rfl ?_
      refine q_icmp_ne F (bc_in _) ha2 31 dX6_countCellsWith_25 (by decide) (fun hc => ?_) (fun hc => ?_)
      · have hw := hw.1 hc
        obtain ⟨k9, hw⟩ := hw
        obtain ⟨z7, e8⟩ := ex1 (x4 + 1)
        have hw := hw z7 e8
        have hz7 : inR z7 := by rw [e8]; exact k9
        refine q_iinc (lv' := [(0, .ref (E.1 80)), (1, .ref (E.1 a1)), (2, iV a2), (3, iV x3), (4, iV z7)]) F 4 [1, 2, 3, 4, 0] dX6_countCellsWith_31 rfl (q_n hN (by decide)) e8.symm rfl ?_
        refine q_goto F 5 dX6_countCellsWith_34 (by decide) ?_
        exact ih x3 z7 I2 R3 hx3 hz7 m5 hw
      · have hw := hw.2 hc
        obtain ⟨k12, hw⟩ := hw
        obtain ⟨z10, e11⟩ := ex1 (x3 + 1)
        have hw := hw z10 e11
        have hz10 : inR z10 := by rw [e11]; exact k12
        refine q_iinc (lv' := [(0, .ref (E.1 80)), (1, .ref (E.1 a1)), (2, iV a2), (3, iV z10), (4, iV x4)]) F 3 [1, 2, 3, 0, 4] dX6_countCellsWith_28 rfl (q_n hN (by decide)) e11.symm rfl ?_
        obtain ⟨k15, hw⟩ := hw
        obtain ⟨z13, e14⟩ := ex1 (x4 + 1)
        have hw := hw z13 e14
        have hz13 : inR z13 := by rw [e14]; exact k15
        refine q_iinc (lv' := [(0, .ref (E.1 80)), (1, .ref (E.1 a1)), (2, iV a2), (3, iV z10), (4, iV z13)]) F 4 [1, 2, 3, 4, 0] dX6_countCellsWith_31 rfl (q_n hN (by decide)) e14.symm rfl ?_
        refine q_goto F 5 dX6_countCellsWith_34 (by decide) ?_
        exact ih z10 z13 I2 R3 hz10 hz13 m5 hw
set_option maxHeartbeats 4000000 in
set_option maxRecDepth 100000 in
theorem kcX6_countCellsWith {l : Launch} {D : va_G} {E : cE} {a1 : Nat} {a2 : Int} {I : cI} {R : cR} (hm : cM I R) (ha1 : isP a1) (ha2 : inR a2) {Q : Int → cI → cR → Prop} (hw : wX6_countCellsWith a1 a2 I R Q) : gM l D E cIds yX6_countCellsWith vX6_countCellsWith (rmK 2 (0) (0)) [.ref (E.1 80), .ref (E.1 a1), iV a2] (cef E (I, R)) (cef E) (pI Q) (0) (0) := by
  unfold wX6_countCellsWith at hw
  refine k_ofW (own := RX6) (cc := cX6_countCellsWith) (maxL := 5) (ret := (some .int)) (lv := [(0, .ref (E.1 80)), (1, .ref (E.1 a1)), (2, iV a2)]) (by decide) rfl rfl (Nat.le_of_ble_eq_true rfl) rfl ?_
  intro X hl hR hN hD F K
  subst hl; subst hD
  have hret := mk_rI (Q := Q) F K
  refine q_iconst F dX6_countCellsWith_0 ?_
  refine q_istore_n (lv' := [(0, .ref (E.1 80)), (1, .ref (E.1 a1)), (2, iV a2), (3, iV 0)]) F [1, 2, 3, 0] dX6_countCellsWith_1 rfl (q_n hN (by decide)) rfl ?_
  refine q_iconst F dX6_countCellsWith_2 ?_
  refine q_istore (lv' := [(0, .ref (E.1 80)), (1, .ref (E.1 a1)), (2, iV a2), (3, iV 0), (4, iV 0)]) F [1, 2, 3, 4, 0] dX6_countCellsWith_3 (q_n hN (by decide)) rfl ?_
  obtain ⟨n1, hw⟩ := hw
  exact bX6_countCellsWith_5 F hR hN hret ha1 ha2 n1 0 0 I R (⟨by decide, by decide⟩ : inR (0)) (⟨by decide, by decide⟩ : inR (0)) hm hw
theorem ydX11_reasoned : yX11_reasoned.cls = RX11 ∧ yX11_reasoned.cls ≠ "java/lang/invoke/MethodHandle" ∧ yX11_reasoned.cls ≠ "java/lang/invoke/VarHandle" ∧ (parseMethodDescriptor yX11_reasoned.desc).map (fun d => d.parameters.length) = some 1 := by decide +kernel
def vX11_reasoned : List Cond := Cond.code yX11_reasoned cX11_reasoned 2 (some .int) :: bG
set_option maxHeartbeats 4000000 in
set_option maxRecDepth 100000 in
theorem kcX11_reasoned {l : Launch} {D : va_G} {E : cE} (hfl : l.stackTraces = false) (z : Nat) {Qx : Nat → cI → cR → Prop} (hz : z = 1 ∨ ∀ k I R, ¬ Qx k I R) {a1 : Int} {I : cI} {R : cR} (hm : cM I R) (ha1 : inR a1) {Q : Int → cI → cR → Prop} (hw : wX11_reasoned a1 I R Q Qx) : gMx l D E cIds yX11_reasoned vX11_reasoned (rmK 7 (1 * z) (6 * z)) [.ref (E.1 0), iV a1] (cef E (I, R)) (cef E) (pI Q) (pX Qx) (1 * z) (6 * z) := by
  unfold wX11_reasoned at hw
  refine k_ofWx hfl (own := RX11) (cc := cX11_reasoned) (maxL := 2) (ret := (some .int)) (lv := [(0, .ref (E.1 0)), (1, iV a1)]) (by decide) rfl rfl (Nat.le_of_ble_eq_true rfl) rfl ?_
  intro X hl hR hN hD F hX
  subst hl; subst hD
  have hret := mk_rIx (Q := Q) F hX
  refine q_iload_n F 1 dX11_reasoned_0 rfl rfl ?_
  by_cases c0 : a1 = 0
  · have hw := hw.1 c0
    refine q_swIn F 0 ha1 32 dX11_reasoned_1 (c0.trans (by decide)) (by decide) rfl (by decide) ?_
    refine q_aload_n F 0 dX11_reasoned_32 rfl rfl ?_
    refine t_g_Mill_reasoner F (by decide) ib11 wd199 dX11_reasoned_33 ?_
    refine t_g_Reasoner_passes F (by decide) ib6 wd107 dX11_reasoned_36 ?_
    refine q_wide (nc' := 1 * z) (ns' := 6 * z) (by omega) (by omega) ?_
    exact hret _ _ _ _ _ _ dX11_reasoned_39 (hm.1 _ _) hm hw
  by_cases c1 : a1 = 1
  · have hw := hw.2.1 c1
    refine q_swIn F 1 ha1 40 dX11_reasoned_1 (c1.trans (by decide)) (by decide) rfl (by decide) ?_
    refine q_aload_n F 0 dX11_reasoned_40 rfl rfl ?_
    refine t_g_Mill_reasoner F (by decide) ib11 wd199 dX11_reasoned_41 ?_
    refine t_g_Reasoner_greatestGrade F (by decide) ib6 wd109 dX11_reasoned_44 ?_
    refine q_wide (nc' := 1 * z) (ns' := 6 * z) (by omega) (by omega) ?_
    exact hret _ _ _ _ _ _ dX11_reasoned_47 (hm.1 _ _) hm hw
  by_cases c2 : a1 = 2
  · have hw := hw.2.2.1 c2
    refine q_swIn F 2 ha1 48 dX11_reasoned_1 (c2.trans (by decide)) (by decide) rfl (by decide) ?_
    refine q_aload_n F 0 dX11_reasoned_48 rfl rfl ?_
    refine t_g_Mill_reasoner F (by decide) ib11 wd199 dX11_reasoned_49 ?_
    refine q_aload_n F 0 dX11_reasoned_52 rfl rfl ?_
    refine t_g_Mill_puzzle F (by decide) ib11 wd201 dX11_reasoned_53 ?_
    refine q_iconst F dX11_reasoned_56 ?_
    refine q_Vi F (kcX6_countCellsWith hm (hm.2.1) (⟨by decide, by decide⟩ : inR (1)) hw) (cIds_in (show ckd 80 = 4 ∧ 80 < 353 by decide).2) (ceReasoner (show ckd 80 = 4 ∧ 80 < 353 by decide).1) (ci := 4) rfl (bV wd703 wd704 wd705 wd7 wd706) rfl ⟨rfl, rfl⟩ ydX6_countCellsWith (rmK_le hR (by omega) (by decide)) (av := [.ref (E.1 ((R 0 7))), iV 1]) rfl rfl (Nat.le_of_ble_eq_true rfl) dX11_reasoned_57 (rmK_cs hR (by omega) (by omega)) (fun r1 I2 R3 h4 m5 hw => ?_)
    refine q_wide (nc' := 1 * z) (ns' := 6 * z) (by omega) (by omega) ?_
    exact hret _ _ _ _ _ _ dX11_reasoned_60 h4 m5 hw
  by_cases c3 : a1 = 3
  · have hw := hw.2.2.2.1 c3
    refine q_swIn F 3 ha1 61 dX11_reasoned_1 (c3.trans (by decide)) (by decide) rfl (by decide) ?_
    refine q_aload_n F 0 dX11_reasoned_61 rfl rfl ?_
    refine t_g_Mill_reasoner F (by decide) ib11 wd199 dX11_reasoned_62 ?_
    refine q_aload_n F 0 dX11_reasoned_65 rfl rfl ?_
    refine t_g_Mill_puzzle F (by decide) ib11 wd201 dX11_reasoned_66 ?_
    refine q_iconst F dX11_reasoned_69 ?_
    refine q_Vi F (kcX6_countCellsWith hm (hm.2.1) (⟨by decide, by decide⟩ : inR (0)) hw) (cIds_in (show ckd 80 = 4 ∧ 80 < 353 by decide).2) (ceReasoner (show ckd 80 = 4 ∧ 80 < 353 by decide).1) (ci := 4) rfl (bV wd703 wd704 wd705 wd7 wd706) rfl ⟨rfl, rfl⟩ ydX6_countCellsWith (rmK_le hR (by omega) (by decide)) (av := [.ref (E.1 ((R 0 7))), iV 0]) rfl rfl (Nat.le_of_ble_eq_true rfl) dX11_reasoned_70 (rmK_cs hR (by omega) (by omega)) (fun r6 I7 R8 h9 m10 hw => ?_)
    refine q_wide (nc' := 1 * z) (ns' := 6 * z) (by omega) (by omega) ?_
    exact hret _ _ _ _ _ _ dX11_reasoned_73 h9 m10 hw
  have hw := hw.2.2.2.2 c0 c1 c2 c3
  refine q_swOut F ha1 74 dX11_reasoned_1 (by omega) (by decide) ?_
  exact q_thr2 F hX hR (by decide) hz 9 (by decide) wd459 rfl dX11_reasoned_74 dX11_reasoned_77 dX11_reasoned_78 dX11_reasoned_80 dX11_reasoned_83 (fun hz1 => by omega) (fun hz1 => by omega) hm hw
theorem ydX7_takeParts : yX7_takeParts.cls = RX7 ∧ yX7_takeParts.cls ≠ "java/lang/invoke/MethodHandle" ∧ yX7_takeParts.cls ≠ "java/lang/invoke/VarHandle" ∧ (parseMethodDescriptor yX7_takeParts.desc).map (fun d => d.parameters.length) = some 1 := by decide +kernel
def vX7_takeParts : List Cond := Cond.code yX7_takeParts cX7_takeParts 3 none :: bG
set_option maxHeartbeats 4000000 in
set_option maxRecDepth 100000 in
theorem bX7_takeParts_18 {X : xC} {E : cE} (F : mF X E RX7 cX7_takeParts bG) (hR : X.1.2.2.2 = rmK 2 (0) (0)) (hN : X.2.2.1.2.2.2 = 3) {Q : cI → cR → Prop} (hret : rV X E cX7_takeParts (0) (0) Q) {r0 : Nat} {a1 : Nat} (hr0 : isR r0) (ha1 : isR a1) : ∀ n18 : Nat, ∀ (x2 : Int) (I : cI) (R : cR), inR x2 → cM I R → wX7_takeParts_18 Q r0 a1 n18 x2 I R → cW X (0) (0) 18 [(0, .ref (E.1 r0)), (1, .ref (E.1 a1)), (2, iV x2)] [] (gw E.1 cIds (cef E (I, R)) ++ []) := by
  intro n18
  induction n18 with
  | zero => intro x2 I R hx2 hm hw; exact hw.elim
  | succ n18 ih =>
    intro x2 I R hx2 hm hw
    change wbX7_takeParts_18 Q r0 a1 (wX7_takeParts_18 Q r0 a1 n18) x2 I R at hw
    unfold wbX7_takeParts_18 at hw
    refine q_iload_n F 2 dX7_takeParts_18 rfl rfl ?_
    refine q_aload_n F 1 dX7_takeParts_19 rfl rfl ?_
    refine t_g_Rule_size F (kR0 ha1) ib7 wd156 dX7_takeParts_20 ?_
    refine q_icmp_ge F hx2 (hm.1 _ _) 42 dX7_takeParts_23 (by decide) (fun hc => ?_) (fun hc => ?_)
    · have hw := hw.1 hc
      exact hret _ _ _ _ _ dX7_takeParts_42 hm hw
    · have hw := hw.2 hc
      refine q_aload_n F 0 dX7_takeParts_26 rfl rfl ?_
      refine q_aload_n F 1 dX7_takeParts_27 rfl rfl ?_
      refine t_g_Rule_cells F (kR0 ha1) ib7 wd161 (a1 + 130) rfl dX7_takeParts_28 ?_
      refine q_iload_n F 2 dX7_takeParts_31 rfl rfl ?_
      obtain ⟨k1, hw⟩ := hw
      refine t_ald F 5 (kR4 ha1) k1 (by decide) dX7_takeParts_32 ?_
      refine q_Vv F (kcX7_addCell hm hr0 (hm.1 _ _) hw) (cIds_in (kR0 hr0).2) (ceRule (kR0 hr0).1) (ci := 5) rfl (bV wd727 wd363 wd364 wd10 wd365) rfl ⟨rfl, rfl⟩ ydX7_addCell (rmK_le hR (by omega) (by decide)) (av := [iV ((I (a1 + 130) x2))]) rfl rfl (Nat.le_of_ble_eq_true rfl) dX7_takeParts_33 (rmK_cs hR (by omega) (by omega)) (fun I3 R4 m6 hw => ?_)
      obtain ⟨k9, hw⟩ := hw
      obtain ⟨z7, e8⟩ := ex1 (x2 + 1)
      have hw := hw z7 e8
      have hz7 : inR z7 := by rw [e8]; exact k9
      refine q_iinc (lv' := [(0, .ref (E.1 r0)), (1, .ref (E.1 a1)), (2, iV z7)]) F 2 [1, 2, 0] dX7_takeParts_36 rfl (q_n hN (by decide)) e8.symm rfl ?_
      refine q_goto F 18 dX7_takeParts_39 (by decide) ?_
      exact ih z7 I3 R4 hz7 m6 hw
set_option maxHeartbeats 4000000 in
set_option maxRecDepth 100000 in
theorem kcX7_takeParts {l : Launch} {D : va_G} {E : cE} {r0 : Nat} {a1 : Nat} {I : cI} {R : cR} (hm : cM I R) (hr0 : isR r0) (ha1 : isR a1) {Q : cI → cR → Prop} (hw : wX7_takeParts r0 a1 I R Q) : gM l D E cIds yX7_takeParts vX7_takeParts (rmK 2 (0) (0)) [.ref (E.1 r0), .ref (E.1 a1)] (cef E (I, R)) (cef E) (pV Q) (0) (0) := by
  unfold wX7_takeParts at hw
  refine k_ofW (own := RX7) (cc := cX7_takeParts) (maxL := 3) (ret := none) (lv := [(0, .ref (E.1 r0)), (1, .ref (E.1 a1))]) (by decide) rfl rfl (Nat.le_of_ble_eq_true rfl) rfl ?_
  intro X hl hR hN hD F K
  subst hl; subst hD
  have hret := mk_rV (Q := Q) F K
  refine q_aload_n F 0 dX7_takeParts_0 rfl rfl ?_
  refine q_aload_n F 1 dX7_takeParts_1 rfl rfl ?_
  refine t_g_Rule_number F (kR0 ha1) ib7 wd147 dX7_takeParts_2 ?_
  obtain ⟨I1, e2⟩ := ex1 (up2 I r0 1 ((I a1 1)))
  have hw := hw I1 e2
  have m3 : cM I1 R := cM_I hm e2 (hm.1 _ _)
  refine t_p_Rule_number F (kR0 hr0) ib7 wd147 e2 dX7_takeParts_5 ?_
  refine q_aload_n F 0 dX7_takeParts_8 rfl rfl ?_
  refine q_aload_n F 1 dX7_takeParts_9 rfl rfl ?_
  refine t_g_Rule_times F (kR0 ha1) ib7 wd152 dX7_takeParts_10 ?_
  obtain ⟨I4, e5⟩ := ex1 (up2 I1 r0 2 ((I1 a1 2)))
  have hw := hw I4 e5
  have m6 : cM I4 R := cM_I m3 e5 (m3.1 _ _)
  refine t_p_Rule_times F (kR0 hr0) ib7 wd152 e5 dX7_takeParts_13 ?_
  refine q_iconst F dX7_takeParts_16 ?_
  refine q_istore_n (lv' := [(0, .ref (E.1 r0)), (1, .ref (E.1 a1)), (2, iV 0)]) F [1, 2, 0] dX7_takeParts_17 rfl (q_n hN (by decide)) rfl ?_
  obtain ⟨n7, hw⟩ := hw
  exact bX7_takeParts_18 F hR hN hret hr0 ha1 n7 0 I4 R (⟨by decide, by decide⟩ : inR (0)) m6 hw
theorem ydX4_becomeCopyWithoutGivens : yX4_becomeCopyWithoutGivens.cls = RX4 ∧ yX4_becomeCopyWithoutGivens.cls ≠ "java/lang/invoke/MethodHandle" ∧ yX4_becomeCopyWithoutGivens.cls ≠ "java/lang/invoke/VarHandle" ∧ (parseMethodDescriptor yX4_becomeCopyWithoutGivens.desc).map (fun d => d.parameters.length) = some 1 := by decide +kernel
def vX4_becomeCopyWithoutGivens : List Cond := Cond.code yX4_becomeCopyWithoutGivens cX4_becomeCopyWithoutGivens 4 none :: bG
set_option maxHeartbeats 4000000 in
set_option maxRecDepth 100000 in
theorem bX4_becomeCopyWithoutGivens_18 {X : xC} {E : cE} (F : mF X E RX4 cX4_becomeCopyWithoutGivens bG) (hR : X.1.2.2.2 = rmK 3 (0) (0)) (hN : X.2.2.1.2.2.2 = 4) {Q : cI → cR → Prop} (hret : rV X E cX4_becomeCopyWithoutGivens (0) (0) Q) {p : Nat} {a1 : Nat} (hp : isP p) (ha1 : isP a1) : ∀ n18 : Nat, ∀ (x2 : Int) (I : cI) (R : cR), inR x2 → cM I R → wX4_becomeCopyWithoutGivens_18 Q p a1 n18 x2 I R → cW X (0) (0) 18 [(0, .ref (E.1 p)), (1, .ref (E.1 a1)), (2, iV x2)] [] (gw E.1 cIds (cef E (I, R)) ++ []) := by
  intro n18
  induction n18 with
  | zero => intro x2 I R hx2 hm hw; exact hw.elim
  | succ n18 ih =>
    intro x2 I R hx2 hm hw
    change wbX4_becomeCopyWithoutGivens_18 Q p a1 (wX4_becomeCopyWithoutGivens_18 Q p a1 n18) x2 I R at hw
    unfold wbX4_becomeCopyWithoutGivens_18 at hw
    refine q_iload_n F 2 dX4_becomeCopyWithoutGivens_18 rfl rfl ?_
    refine q_aload_n F 1 dX4_becomeCopyWithoutGivens_19 rfl rfl ?_
    refine t_g_Puzzle_ruleCount F (kP0 ha1) ib4 wd188 dX4_becomeCopyWithoutGivens_20 ?_
    refine q_icmp_ge F hx2 (hm.1 _ _) 61 dX4_becomeCopyWithoutGivens_23 (by decide) (fun hc => ?_) (fun hc => ?_)
    · have hw := hw.1 hc
      exact hret _ _ _ _ _ dX4_becomeCopyWithoutGivens_61 hm hw
    · have hw := hw.2 hc
      refine q_aload_n F 1 dX4_becomeCopyWithoutGivens_26 rfl rfl ?_
      refine t_g_Puzzle_rules F (kP0 ha1) ib4 wd184 (a1 + 2) rfl dX4_becomeCopyWithoutGivens_27 ?_
      refine q_iload_n F 2 dX4_becomeCopyWithoutGivens_30 rfl rfl ?_
      obtain ⟨k1, hw⟩ := hw
      refine t_rld F (kP2 ha1) k1 dX4_becomeCopyWithoutGivens_31 ?_
      refine q_astore_n (lv' := [(0, .ref (E.1 p)), (1, .ref (E.1 a1)), (2, iV x2), (3, .ref (E.1 ((R (a1 + 2) x2))))]) F [1, 2, 3, 0] dX4_becomeCopyWithoutGivens_32 rfl (q_n hN (by decide)) rfl ?_
      refine q_aload_n F 3 dX4_becomeCopyWithoutGivens_33 rfl rfl ?_
      refine t_g_Rule_kind F (kR0 (hm.2.2.2.1 _ ha1 _ k1)) ib7 wd146 dX4_becomeCopyWithoutGivens_34 ?_
      refine q_gs F (sZ_IS F) wd416 rfl dX4_becomeCopyWithoutGivens_37 ?_
      refine q_aceq F (hm.2.2.2.2 _ (hm.2.2.2.1 _ ha1 _ k1)) (by decide) 55 dX4_becomeCopyWithoutGivens_40 (by decide) (fun hc => ?_) (fun hc => ?_)
      · have hw := hw.1 hc
        obtain ⟨k4, hw⟩ := hw
        obtain ⟨z2, e3⟩ := ex1 (x2 + 1)
        have hw := hw z2 e3
        have hz2 : inR z2 := by rw [e3]; exact k4
        refine q_iinc (lv' := [(0, .ref (E.1 p)), (1, .ref (E.1 a1)), (2, iV z2), (3, .ref (E.1 ((R (a1 + 2) x2))))]) F 2 [1, 2, 0, 3] dX4_becomeCopyWithoutGivens_55 rfl (q_n hN (by decide)) e3.symm rfl ?_
        refine q_goto F 18 dX4_becomeCopyWithoutGivens_58 (by decide) ?_
        refine q_lv [0, 1, 2] rfl ?_
        exact ih z2 I R hz2 hm hw
      · have hw := hw.2 hc
        refine q_aload_n F 0 dX4_becomeCopyWithoutGivens_43 rfl rfl ?_
        refine q_aload_n F 3 dX4_becomeCopyWithoutGivens_44 rfl rfl ?_
        refine t_g_Rule_kind F (kR0 (hm.2.2.2.1 _ ha1 _ k1)) ib7 wd146 dX4_becomeCopyWithoutGivens_45 ?_
        refine q_Vr F (kcX4_addRule hm hp (hm.2.2.2.2 _ (hm.2.2.2.1 _ ha1 _ k1)) hw) (cIds_in (kP0 hp).2) (cePuzzle (kP0 hp).1) (ci := 2) rfl (bV wd354 wd355 wd356 wd9 wd357) rfl ⟨rfl, rfl⟩ ydX4_addRule (rmK_le hR (by omega) (by decide)) (av := [.ref (E.2.1 0 ((R ((R (a1 + 2) x2)) 0)))]) rfl rfl (Nat.le_of_ble_eq_true rfl) dX4_becomeCopyWithoutGivens_48 (rmK_cs hR (by omega) (by omega)) (fun r5 I6 R7 h8 m9 hw => ?_)
        refine q_aload_n F 3 dX4_becomeCopyWithoutGivens_51 rfl rfl ?_
        refine q_Vv F (kcX7_takeParts m9 h8 (hm.2.2.2.1 _ ha1 _ k1) hw) (cIds_in (kR0 h8).2) (ceRule (kR0 h8).1) (ci := 5) rfl (bV wd723 wd724 wd725 wd10 wd726) rfl ⟨rfl, rfl⟩ ydX7_takeParts (rmK_le hR (by omega) (by decide)) (av := [.ref (E.1 ((R (a1 + 2) x2)))]) rfl rfl (Nat.le_of_ble_eq_true rfl) dX4_becomeCopyWithoutGivens_52 (rmK_cs hR (by omega) (by omega)) (fun I11 R12 m14 hw => ?_)
        obtain ⟨k17, hw⟩ := hw
        obtain ⟨z15, e16⟩ := ex1 (x2 + 1)
        have hw := hw z15 e16
        have hz15 : inR z15 := by rw [e16]; exact k17
        refine q_iinc (lv' := [(0, .ref (E.1 p)), (1, .ref (E.1 a1)), (2, iV z15), (3, .ref (E.1 ((R (a1 + 2) x2))))]) F 2 [1, 2, 0, 3] dX4_becomeCopyWithoutGivens_55 rfl (q_n hN (by decide)) e16.symm rfl ?_
        refine q_goto F 18 dX4_becomeCopyWithoutGivens_58 (by decide) ?_
        refine q_lv [0, 1, 2] rfl ?_
        exact ih z15 I11 R12 hz15 m14 hw
set_option maxHeartbeats 4000000 in
set_option maxRecDepth 100000 in
theorem kcX4_becomeCopyWithoutGivens {l : Launch} {D : va_G} {E : cE} {p : Nat} {a1 : Nat} {I : cI} {R : cR} (hm : cM I R) (hp : isP p) (ha1 : isP a1) {Q : cI → cR → Prop} (hw : wX4_becomeCopyWithoutGivens p a1 I R Q) : gM l D E cIds yX4_becomeCopyWithoutGivens vX4_becomeCopyWithoutGivens (rmK 3 (0) (0)) [.ref (E.1 p), .ref (E.1 a1)] (cef E (I, R)) (cef E) (pV Q) (0) (0) := by
  unfold wX4_becomeCopyWithoutGivens at hw
  refine k_ofW (own := RX4) (cc := cX4_becomeCopyWithoutGivens) (maxL := 4) (ret := none) (lv := [(0, .ref (E.1 p)), (1, .ref (E.1 a1))]) (by decide) rfl rfl (Nat.le_of_ble_eq_true rfl) rfl ?_
  intro X hl hR hN hD F K
  subst hl; subst hD
  have hret := mk_rV (Q := Q) F K
  refine q_aload_n F 0 dX4_becomeCopyWithoutGivens_0 rfl rfl ?_
  refine q_aload_n F 1 dX4_becomeCopyWithoutGivens_1 rfl rfl ?_
  refine t_g_Puzzle_columns F (kP0 ha1) ib4 wd165 dX4_becomeCopyWithoutGivens_2 ?_
  refine q_aload_n F 1 dX4_becomeCopyWithoutGivens_5 rfl rfl ?_
  refine t_g_Puzzle_rows F (kP0 ha1) ib4 wd169 dX4_becomeCopyWithoutGivens_6 ?_
  refine q_aload_n F 1 dX4_becomeCopyWithoutGivens_9 rfl rfl ?_
  refine t_g_Puzzle_highest F (kP0 ha1) ib4 wd173 dX4_becomeCopyWithoutGivens_10 ?_
  refine q_Vv F (kcX4_begin hm hp (hm.1 _ _) (hm.1 _ _) (hm.1 _ _) hw) (cIds_in (kP0 hp).2) (cePuzzle (kP0 hp).1) (ci := 2) rfl (bV wd722 wd333 wd334 wd9 wd335) rfl ⟨rfl, rfl⟩ ydX4_begin (rmK_le hR (by omega) (by decide)) (av := [iV ((I a1 0)), iV ((I a1 1)), iV ((I a1 2))]) rfl rfl (Nat.le_of_ble_eq_true rfl) dX4_becomeCopyWithoutGivens_13 (rmK_cs hR (by omega) (by omega)) (fun I2 R3 m5 hw => ?_)
  refine q_iconst F dX4_becomeCopyWithoutGivens_16 ?_
  refine q_istore_n (lv' := [(0, .ref (E.1 p)), (1, .ref (E.1 a1)), (2, iV 0)]) F [1, 2, 0] dX4_becomeCopyWithoutGivens_17 rfl (q_n hN (by decide)) rfl ?_
  obtain ⟨n6, hw⟩ := hw
  exact bX4_becomeCopyWithoutGivens_18 F hR hN hret hp ha1 n6 0 I2 R3 (⟨by decide, by decide⟩ : inR (0)) m5 hw
