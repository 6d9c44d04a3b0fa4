/-! ===== walks: X12_thrown, X12_no, X12_isIn, X12_cells, X12_isCell, X12_isRule, X12_feed, X12_trim, X12_byteAtTape, X12_isLetter, X12_isDigit, X12_scan, X12_is, X12_wordAt, X12_numberAt, X12_takes, X12_ruleForm ===== -/
theorem ydX12_thrown : yX12_thrown.cls = RX12 ∧ yX12_thrown.cls ≠ "java/lang/invoke/MethodHandle" ∧ yX12_thrown.cls ≠ "java/lang/invoke/VarHandle" ∧ (parseMethodDescriptor yX12_thrown.desc).map (fun d => d.parameters.length) = some 0 := by decide +kernel
def vX12_thrown : List Cond := Cond.code yX12_thrown cX12_thrown 1 (some .int) :: bG
set_option maxHeartbeats 4000000 in
set_option maxRecDepth 100000 in
theorem kcX12_thrown {l : Launch} {D : va_G} {E : cE} {J : cI} (hm : mM J)  {Q : Int → cI → Prop} (hw : wX12_thrown  J Q) : gM l D E mIds yX12_thrown vX12_thrown (rmK 1 (0) (0)) [.ref (E.1 1000)] (mef E J) (mef E) (oI Q) (0) (0) := by
  unfold wX12_thrown at hw
  refine k_ofW (own := RX12) (cc := cX12_thrown) (maxL := 1) (ret := (some .int)) (lv := [(0, .ref (E.1 1000))]) (by decide) rfl rfl (Nat.le_of_ble_eq_true rfl) rfl ?_
  intro X hl hR hN hD F K
  subst hl; subst hD
  have hret := mk_rIM (Q := Q) F K
  refine q_aload_n F 0 dX12_thrown_0 rfl rfl ?_
  refine s_g_thrown F ib12 wd873 dX12_thrown_1 ?_
  exact hret _ _ _ _ _ dX12_thrown_4 (hm _ _) hm hw
theorem ydX12_no : yX12_no.cls = RX12 ∧ yX12_no.cls ≠ "java/lang/invoke/MethodHandle" ∧ yX12_no.cls ≠ "java/lang/invoke/VarHandle" ∧ (parseMethodDescriptor yX12_no.desc).map (fun d => d.parameters.length) = some 1 := by decide +kernel
def vX12_no : List Cond := Cond.code yX12_no cX12_no 2 (some .int) :: bG
set_option maxHeartbeats 4000000 in
set_option maxRecDepth 100000 in
theorem kcX12_no {l : Launch} {D : va_G} {E : cE} {a1 : Int} {J : cI} (hm : mM J) (ha1 : inR a1) {Q : Int → cI → Prop} (hw : wX12_no a1 J Q) : gM l D E mIds yX12_no vX12_no (rmK 1 (0) (0)) [.ref (E.1 1000), iV a1] (mef E J) (mef E) (oI Q) (0) (0) := by
  unfold wX12_no at hw
  refine k_ofW (own := RX12) (cc := cX12_no) (maxL := 2) (ret := (some .int)) (lv := [(0, .ref (E.1 1000)), (1, iV a1)]) (by decide) rfl rfl (Nat.le_of_ble_eq_true rfl) rfl ?_
  intro X hl hR hN hD F K
  subst hl; subst hD
  have hret := mk_rIM (Q := Q) F K
  refine q_aload_n F 0 dX12_no_0 rfl rfl ?_
  refine q_iload_n F 1 dX12_no_1 rfl rfl ?_
  obtain ⟨J1, e2⟩ := ex1 (up2 J 1000 0 a1)
  have hw := hw J1 e2
  have m3 : mM J1 := mM_I hm e2 ha1
  refine s_p_thrown F ib12 wd873 e2 dX12_no_2 ?_
  refine q_iconst F dX12_no_5 ?_
  exact hret _ _ _ _ _ dX12_no_6 (⟨by decide, by decide⟩ : inR (0)) m3 hw
theorem ydX12_isIn : yX12_isIn.cls = RX12 ∧ yX12_isIn.cls ≠ "java/lang/invoke/MethodHandle" ∧ yX12_isIn.cls ≠ "java/lang/invoke/VarHandle" ∧ (parseMethodDescriptor yX12_isIn.desc).map (fun d => d.parameters.length) = some 3 := by decide +kernel
def vX12_isIn : List Cond := Cond.code yX12_isIn cX12_isIn 3 (some .boolean) :: bG
set_option maxHeartbeats 4000000 in
set_option maxRecDepth 100000 in
theorem kcX12_isIn {l : Launch} {D : va_G} {E : cE} {a0 : Int} {a1 : Int} {a2 : Int} {J : cI} (hm : mM J) (ha0 : inR a0) (ha1 : inR a1) (ha2 : inR a2) {Q : Int → cI → Prop} (hw : wX12_isIn a0 a1 a2 J Q) : gM l D E mIds yX12_isIn vX12_isIn (rmK 1 (0) (0)) [iV a0, iV a1, iV a2] (mef E J) (mef E) (oI Q) (0) (0) := by
  unfold wX12_isIn at hw
  refine k_ofW (own := RX12) (cc := cX12_isIn) (maxL := 3) (ret := (some .boolean)) (lv := [(0, iV a0), (1, iV a1), (2, iV a2)]) (by decide) rfl rfl (Nat.le_of_ble_eq_true rfl) rfl ?_
  intro X hl hR hN hD F K
  subst hl; subst hD
  have hret := mk_rZM (Q := Q) F K
  refine q_iload_n F 0 dX12_isIn_0 rfl rfl ?_
  refine q_iload_n F 1 dX12_isIn_1 rfl rfl ?_
  refine q_icmp_lt F ha0 ha1 14 dX12_isIn_2 (by decide) (fun hc => ?_) (fun hc => ?_)
  · have hw := hw.1 hc
    refine q_iconst F dX12_isIn_14 ?_
    exact hret _ _ _ _ _ dX12_isIn_15 (Or.inl rfl) (⟨by decide, by decide⟩ : inR (0)) hm hw
  · have hw := hw.2 hc
    refine q_iload_n F 0 dX12_isIn_5 rfl rfl ?_
    refine q_iload_n F 2 dX12_isIn_6 rfl rfl ?_
    refine q_icmp_gt F ha0 ha2 14 dX12_isIn_7 (by decide) (fun hc => ?_) (fun hc => ?_)
    · have hw := hw.1 hc
      refine q_iconst F dX12_isIn_14 ?_
      exact hret _ _ _ _ _ dX12_isIn_15 (Or.inl rfl) (⟨by decide, by decide⟩ : inR (0)) hm hw
    · have hw := hw.2 hc
      refine q_iconst F dX12_isIn_10 ?_
      refine q_goto F 15 dX12_isIn_11 (by decide) ?_
      exact hret _ _ _ _ _ dX12_isIn_15 (Or.inr rfl) (⟨by decide, by decide⟩ : inR (1)) hm hw
theorem ydX12_cells : yX12_cells.cls = RX12 ∧ yX12_cells.cls ≠ "java/lang/invoke/MethodHandle" ∧ yX12_cells.cls ≠ "java/lang/invoke/VarHandle" ∧ (parseMethodDescriptor yX12_cells.desc).map (fun d => d.parameters.length) = some 0 := by decide +kernel
def vX12_cells : List Cond := Cond.code yX12_cells cX12_cells 1 (some .int) :: bG
set_option maxHeartbeats 4000000 in
set_option maxRecDepth 100000 in
theorem kcX12_cells {l : Launch} {D : va_G} {E : cE} {J : cI} (hm : mM J)  {Q : Int → cI → Prop} (hw : wX12_cells  J Q) : gM l D E mIds yX12_cells vX12_cells (rmK 1 (0) (0)) [.ref (E.1 1000)] (mef E J) (mef E) (oI Q) (0) (0) := by
  unfold wX12_cells at hw
  refine k_ofW (own := RX12) (cc := cX12_cells) (maxL := 1) (ret := (some .int)) (lv := [(0, .ref (E.1 1000))]) (by decide) rfl rfl (Nat.le_of_ble_eq_true rfl) rfl ?_
  intro X hl hR hN hD F K
  subst hl; subst hD
  have hret := mk_rIM (Q := Q) F K
  refine q_aload_n F 0 dX12_cells_0 rfl rfl ?_
  refine s_g_w F ib12 wd884 dX12_cells_1 ?_
  refine q_aload_n F 0 dX12_cells_4 rfl rfl ?_
  refine s_g_h F ib12 wd885 dX12_cells_5 ?_
  refine q_imul F dX12_cells_8 ?_
  obtain ⟨k1, hw⟩ := hw
  exact hret _ _ _ _ _ dX12_cells_9 k1 hm hw
theorem ydX12_isCell : yX12_isCell.cls = RX12 ∧ yX12_isCell.cls ≠ "java/lang/invoke/MethodHandle" ∧ yX12_isCell.cls ≠ "java/lang/invoke/VarHandle" ∧ (parseMethodDescriptor yX12_isCell.desc).map (fun d => d.parameters.length) = some 1 := by decide +kernel
def vX12_isCell : List Cond := Cond.code yX12_isCell cX12_isCell 2 (some .boolean) :: bG
set_option maxHeartbeats 4000000 in
set_option maxRecDepth 100000 in
theorem kcX12_isCell {l : Launch} {D : va_G} {E : cE} {a1 : Int} {J : cI} (hm : mM J) (ha1 : inR a1) {Q : Int → cI → Prop} (hw : wX12_isCell a1 J Q) : gM l D E mIds yX12_isCell vX12_isCell (rmK 2 (0) (0)) [.ref (E.1 1000), iV a1] (mef E J) (mef E) (oI Q) (0) (0) := by
  unfold wX12_isCell at hw
  refine k_ofW (own := RX12) (cc := cX12_isCell) (maxL := 2) (ret := (some .boolean)) (lv := [(0, .ref (E.1 1000)), (1, iV a1)]) (by decide) rfl rfl (Nat.le_of_ble_eq_true rfl) rfl ?_
  intro X hl hR hN hD F K
  subst hl; subst hD
  have hret := mk_rZM (Q := Q) F K
  refine q_iload_n F 1 dX12_isCell_0 rfl rfl ?_
  refine q_iconst F dX12_isCell_1 ?_
  refine q_aload_n F 0 dX12_isCell_2 rfl rfl ?_
  refine q_ViM F (kcX12_cells hm hw) (by decide) meObj (ci := 10) rfl (bV wd1003 wd1004 wd1305 wd13 wd1005) rfl ⟨rfl, rfl⟩ ydX12_cells (rmK_le hR (by omega) (by decide)) (av := []) rfl rfl (Nat.le_of_ble_eq_true rfl) dX12_isCell_3 (rmK_cs hR (by omega) (by omega)) (fun r1 J2 h3 m4 hw => ?_)
  refine q_iconst F dX12_isCell_6 ?_
  refine q_isub F dX12_isCell_7 ?_
  obtain ⟨k5, hw⟩ := hw
  refine q_SiM F (kcX12_isIn m4 ha1 (⟨by decide, by decide⟩ : inR (0)) k5 hw) (bS wd932 wd933 wd13 wd934) rfl ⟨rfl, rfl⟩ ydX12_isIn (rmK_le hR (by omega) (by decide)) (av := [iV a1, iV 0, iV ((r1 - 1))]) rfl rfl (Nat.le_of_ble_eq_true rfl) dX12_isCell_8 (rmK_cs hR (by omega) (by omega)) (fun r6 J7 h8 m9 hw => ?_)
  obtain ⟨k10, hw⟩ := hw
  exact hret _ _ _ _ _ dX12_isCell_11 k10 h8 m9 hw
theorem ydX12_isRule : yX12_isRule.cls = RX12 ∧ yX12_isRule.cls ≠ "java/lang/invoke/MethodHandle" ∧ yX12_isRule.cls ≠ "java/lang/invoke/VarHandle" ∧ (parseMethodDescriptor yX12_isRule.desc).map (fun d => d.parameters.length) = some 1 := by decide +kernel
def vX12_isRule : List Cond := Cond.code yX12_isRule cX12_isRule 2 (some .boolean) :: bG
set_option maxHeartbeats 4000000 in
set_option maxRecDepth 100000 in
theorem kcX12_isRule {l : Launch} {D : va_G} {E : cE} {a1 : Int} {J : cI} (hm : mM J) (ha1 : inR a1) {Q : Int → cI → Prop} (hw : wX12_isRule a1 J Q) : gM l D E mIds yX12_isRule vX12_isRule (rmK 2 (0) (0)) [.ref (E.1 1000), iV a1] (mef E J) (mef E) (oI Q) (0) (0) := by
  unfold wX12_isRule at hw
  refine k_ofW (own := RX12) (cc := cX12_isRule) (maxL := 2) (ret := (some .boolean)) (lv := [(0, .ref (E.1 1000)), (1, iV a1)]) (by decide) rfl rfl (Nat.le_of_ble_eq_true rfl) rfl ?_
  intro X hl hR hN hD F K
  subst hl; subst hD
  have hret := mk_rZM (Q := Q) F K
  refine q_iload_n F 1 dX12_isRule_0 rfl rfl ?_
  refine q_iconst F dX12_isRule_1 ?_
  refine q_aload_n F 0 dX12_isRule_2 rfl rfl ?_
  refine s_g_rules F ib12 wd887 dX12_isRule_3 ?_
  refine q_iconst F dX12_isRule_6 ?_
  refine q_isub F dX12_isRule_7 ?_
  obtain ⟨k1, hw⟩ := hw
  refine q_SiM F (kcX12_isIn hm ha1 (⟨by decide, by decide⟩ : inR (0)) k1 hw) (bS wd932 wd933 wd13 wd934) rfl ⟨rfl, rfl⟩ ydX12_isIn (rmK_le hR (by omega) (by decide)) (av := [iV a1, iV 0, iV (((J 1000 14) - 1))]) rfl rfl (Nat.le_of_ble_eq_true rfl) dX12_isRule_8 (rmK_cs hR (by omega) (by omega)) (fun r2 J3 h4 m5 hw => ?_)
  obtain ⟨k6, hw⟩ := hw
  exact hret _ _ _ _ _ dX12_isRule_11 k6 h4 m5 hw
theorem ydX12_feed : yX12_feed.cls = RX12 ∧ yX12_feed.cls ≠ "java/lang/invoke/MethodHandle" ∧ yX12_feed.cls ≠ "java/lang/invoke/VarHandle" ∧ (parseMethodDescriptor yX12_feed.desc).map (fun d => d.parameters.length) = some 5 := by decide +kernel
def vX12_feed : List Cond := Cond.code yX12_feed cX12_feed 12 (some .int) :: bG
set_option maxHeartbeats 4000000 in
set_option maxRecDepth 100000 in
theorem bX12_feed_80 {X : xC} {E : cE} (F : mF X E RX12 cX12_feed bG) (hR : X.1.2.2.2 = rmK 2 (1) (5)) (hN : X.2.2.1.2.2.2 = 12) {Q : Int → cI → Prop} (hret : rIM X E cX12_feed (1) (5) Q) {a1 : Int} {a2 : Int} {a3 : Int} {a4 : Int} {a5 : Int} (ha1 : inR a1) (ha2 : inR a2) (ha3 : inR a3) (ha4 : inR a4) (ha5 : inR a5) {K63 : Int → Int → (Int → Int) → cI → Prop} (hK63 : ∀ (x8 : Int) (x9 : Int) (q0 : Nat) (f0 : Int → Int) (J : cI), inR x8 → inR x9 → (∀ x, inR (f0 x)) → mM J → K63 x8 x9 f0 J → cW X (1) (5) 63 [(0, .ref (E.1 1000)), (7, .ref q0), (8, iV x8), (9, iV x9)] [] (gw E.1 mIds (mef E J) ++ [(q0, iA E 5 f0)])) : ∀ n80 : Nat, ∀ (x8 : Int) (x9 : Int) (x10 : Int) (x11 : Int) (q0 : Nat) (f0 : Int → Int) (J : cI), inR x8 → inR x9 → inR x10 → inR x11 → (∀ x, inR (f0 x)) → mM J → wX12_feed_80 Q a1 a2 a3 a4 a5 K63 n80 x8 x9 x10 x11 f0 J → cW X (1) (5) 80 [(0, .ref (E.1 1000)), (7, .ref q0), (8, iV x8), (9, iV x9), (10, iV x10), (11, iV x11)] [] (gw E.1 mIds (mef E J) ++ [(q0, iA E 5 f0)]) := by
  intro n80
  induction n80 with
  | zero => intro x8 x9 x10 x11 q0 f0 J hx8 hx9 hx10 hx11 hf0 hm hw; exact hw.elim
  | succ n80 ih =>
    intro x8 x9 x10 x11 q0 f0 J hx8 hx9 hx10 hx11 hf0 hm hw
    change wbX12_feed_80 Q a1 a2 a3 a4 a5 K63 (wX12_feed_80 Q a1 a2 a3 a4 a5 K63 n80) x8 x9 x10 x11 f0 J at hw
    unfold wbX12_feed_80 at hw
    refine q_iload F 5 dX12_feed_80 rfl ?_
    refine q_if_lt F hx11 122 dX12_feed_82 (by decide) (fun hc => ?_) (fun hc => ?_)
    · have hw := hw.1 hc
      obtain ⟨k3, hw⟩ := hw
      obtain ⟨z1, e2⟩ := ex1 (x9 + 1)
      have hw := hw z1 e2
      have hz1 : inR z1 := by rw [e2]; exact k3
      refine q_iinc (lv' := [(0, .ref (E.1 1000)), (7, .ref q0), (8, iV x8), (9, iV z1), (10, iV x10), (11, iV x11)]) F 3 [1, 2, 3, 0, 4, 5] dX12_feed_122 rfl (q_n hN (by decide)) e2.symm rfl ?_
      refine q_goto F 63 dX12_feed_125 (by decide) ?_
      refine q_lv [0, 1, 2, 3] rfl ?_
      exact hK63 x8 z1 q0 f0 J hx8 hz1 hf0 hm hw
    · have hw := hw.2 hc
      refine q_aload_n F 0 dX12_feed_85 rfl rfl ?_
      refine s_g_tape F ib12 wd874 dX12_feed_86 ?_
      refine q_aload_n F 0 dX12_feed_89 rfl rfl ?_
      refine s_g_length F ib12 wd875 dX12_feed_90 ?_
      refine q_iload F 4 dX12_feed_93 rfl ?_
      refine q_bipush F dX12_feed_95 (by decide) ?_
      refine q_iload F 5 dX12_feed_97 rfl ?_
      refine q_imul F dX12_feed_99 ?_
      refine q_ishr F dX12_feed_100 ?_
      refine q_sipush F dX12_feed_101 (by decide) ?_
      refine q_iand F dX12_feed_104 ?_
      obtain ⟨k4, hw⟩ := hw
      obtain ⟨J5, e6⟩ := ex1 (up2 J 1001 ((J 1000 2)) ((iAnd ((iShr x10 ((8 * x11)))) 255)))
      have hw := hw J5 e6
      have m7 : mM J5 := mM_I hm e6 (ti_rng _)
      refine s_ast F 1600 kM_tape k4 (by decide) e6 dX12_feed_105 ?_
      refine q_aload_n F 0 dX12_feed_106 rfl rfl ?_
      refine q_dup F dX12_feed_107 rfl ?_
      refine s_g_length F ib12 wd875 dX12_feed_108 ?_
      refine q_iconst F dX12_feed_111 ?_
      refine q_iadd F dX12_feed_112 ?_
      obtain ⟨k8, hw⟩ := hw
      obtain ⟨J9, e10⟩ := ex1 (up2 J5 1000 2 (((J5 1000 2) + 1)))
      have hw := hw J9 e10
      have m11 : mM J9 := mM_I m7 e10 k8
      refine s_p_length F ib12 wd875 e10 dX12_feed_113 ?_
      obtain ⟨k14, hw⟩ := hw
      obtain ⟨z12, e13⟩ := ex1 (x11 + (-1))
      have hw := hw z12 e13
      have hz12 : inR z12 := by rw [e13]; exact k14
      refine q_iinc (lv' := [(0, .ref (E.1 1000)), (7, .ref q0), (8, iV x8), (9, iV x9), (10, iV x10), (11, iV z12)]) F 5 [1, 2, 3, 4, 5, 0] dX12_feed_116 rfl (q_n hN (by decide)) e13.symm rfl ?_
      refine q_goto F 80 dX12_feed_119 (by decide) ?_
      exact ih x8 x9 x10 z12 q0 f0 J9 hx8 hx9 hx10 hz12 hf0 m11 hw
set_option maxHeartbeats 4000000 in
set_option maxRecDepth 100000 in
theorem bX12_feed_63 {X : xC} {E : cE} (F : mF X E RX12 cX12_feed bG) (hR : X.1.2.2.2 = rmK 2 (1) (5)) (hN : X.2.2.1.2.2.2 = 12) {Q : Int → cI → Prop} (hret : rIM X E cX12_feed (1) (5) Q) {a1 : Int} {a2 : Int} {a3 : Int} {a4 : Int} {a5 : Int} (ha1 : inR a1) (ha2 : inR a2) (ha3 : inR a3) (ha4 : inR a4) (ha5 : inR a5) : ∀ n63 : Nat, ∀ (x8 : Int) (x9 : Int) (q0 : Nat) (f0 : Int → Int) (J : cI), inR x8 → inR x9 → (∀ x, inR (f0 x)) → mM J → wX12_feed_63 Q a1 a2 a3 a4 a5 n63 x8 x9 f0 J → cW X (1) (5) 63 [(0, .ref (E.1 1000)), (7, .ref q0), (8, iV x8), (9, iV x9)] [] (gw E.1 mIds (mef E J) ++ [(q0, iA E 5 f0)]) := by
  intro n63
  induction n63 with
  | zero => intro x8 x9 q0 f0 J hx8 hx9 hf0 hm hw; exact hw.elim
  | succ n63 ih =>
    intro x8 x9 q0 f0 J hx8 hx9 hf0 hm hw
    change wbX12_feed_63 Q a1 a2 a3 a4 a5 (wX12_feed_63 Q a1 a2 a3 a4 a5 n63) x8 x9 f0 J at hw
    unfold wbX12_feed_63 at hw
    refine q_iload F 3 dX12_feed_63 rfl ?_
    refine q_iload F 2 dX12_feed_65 rfl ?_
    refine q_icmp_ge F hx9 hx8 128 dX12_feed_67 (by decide) (fun hc => ?_) (fun hc => ?_)
    · have hw := hw.1 hc
      refine q_aload_n F 0 dX12_feed_128 rfl rfl ?_
      refine s_g_length F ib12 wd875 dX12_feed_129 ?_
      exact hret _ _ _ _ _ dX12_feed_132 (hm _ _) hm hw
    · have hw := hw.2 hc
      refine q_aload F 1 dX12_feed_70 rfl ?_
      refine q_iload F 3 dX12_feed_72 rfl ?_
      obtain ⟨k1, hw⟩ := hw
      refine g_tald F 0 rfl k1 (by decide) dX12_feed_74 ?_
      obtain ⟨z2, e3⟩ := ex1 ((f0 x9))
      have hw := hw z2 e3
      have hz2 : inR z2 := by rw [e3]; exact (hf0 _)
      refine q_top e3 ?_
      refine q_istore (lv' := [(0, .ref (E.1 1000)), (7, .ref q0), (8, iV x8), (9, iV x9), (10, iV z2)]) F [1, 2, 3, 4, 0] dX12_feed_75 (q_n hN (by decide)) rfl ?_
      refine q_iconst F dX12_feed_77 ?_
      refine q_istore (lv' := [(0, .ref (E.1 1000)), (7, .ref q0), (8, iV x8), (9, iV x9), (10, iV z2), (11, iV 3)]) F [1, 2, 3, 4, 5, 0] dX12_feed_78 (q_n hN (by decide)) rfl ?_
      obtain ⟨n4, hw⟩ := hw
      exact bX12_feed_80 F hR hN hret ha1 ha2 ha3 ha4 ha5 ih n4 x8 x9 z2 3 q0 f0 J hx8 hx9 hz2 (⟨by decide, by decide⟩ : inR (3)) hf0 hm hw
set_option maxHeartbeats 4000000 in
set_option maxRecDepth 100000 in
theorem kcX12_feed {l : Launch} {D : va_G} {E : cE} {a1 : Int} {a2 : Int} {a3 : Int} {a4 : Int} {a5 : Int} {J : cI} (hm : mM J) (ha1 : inR a1) (ha2 : inR a2) (ha3 : inR a3) (ha4 : inR a4) (ha5 : inR a5) {Q : Int → cI → Prop} (hw : wX12_feed a1 a2 a3 a4 a5 J Q) : gM l D E mIds yX12_feed vX12_feed (rmK 2 (1) (5)) [.ref (E.1 1000), iV a1, iV a2, iV a3, iV a4, iV a5] (mef E J) (mef E) (oI Q) (1) (5) := by
  unfold wX12_feed at hw
  refine k_ofW (own := RX12) (cc := cX12_feed) (maxL := 12) (ret := (some .int)) (lv := [(0, .ref (E.1 1000)), (1, iV a1), (2, iV a2), (3, iV a3), (4, iV a4), (5, iV a5)]) (by decide) rfl rfl (Nat.le_of_ble_eq_true rfl) rfl ?_
  intro X hl hR hN hD F K
  subst hl; subst hD
  have hret := mk_rIM (Q := Q) F K
  refine q_aload_n F 0 dX12_feed_0 rfl rfl ?_
  refine q_iconst F dX12_feed_1 ?_
  obtain ⟨J1, e2⟩ := ex1 (up2 J 1000 0 0)
  have hw := hw J1 e2
  have m3 : mM J1 := mM_I hm e2 (⟨by decide, by decide⟩ : inR (0))
  refine s_p_thrown F ib12 wd873 e2 dX12_feed_2 ?_
  refine q_aload_n F 0 dX12_feed_5 rfl rfl ?_
  refine s_g_length F ib12 wd875 dX12_feed_6 ?_
  refine q_bipush F dX12_feed_9 (by decide) ?_
  refine q_iadd F dX12_feed_11 ?_
  refine q_sipush F dX12_feed_12 (by decide) ?_
  obtain ⟨k4, hw⟩ := hw
  refine q_icmp_le F k4 (⟨by decide, by decide⟩ : inR (1600)) 24 dX12_feed_15 (by decide) (fun hc => ?_) (fun hc => ?_)
  · have hw := hw.1 hc
    refine q_iconst F dX12_feed_24 ?_
    obtain ⟨f6, e7⟩ := ex1 (fun _ : Int => (0 : Int))
    have hw := hw f6 e7
    have gf6 : ∀ x, inR (f6 x) := by rw [e7]; exact fun _ => ti_0
    refine g_tnew F wd45 5 rfl (by decide) (rmK_cs (a := 1) (b := 0) (ns := 0) hR (by omega) (by omega)).1 (rmK_cs (a := 0) (nc := 0) hR (by omega) (by omega)).2 dX12_feed_25 (T' := fun q5 => [(q5, iA E 5 f6)]) (fun q5 => by rw [e7]; rfl) (fun q5 => ?_)
    refine q_dup F dX12_feed_27 rfl ?_
    refine q_iconst F dX12_feed_28 ?_
    refine q_iload_n F 1 dX12_feed_29 rfl rfl ?_
    obtain ⟨f8, e9⟩ := ex1 (upF f6 0 a1)
    have hw := hw f8 e9
    have gf8 : ∀ x, inR (f8 x) := upF_in gf6 e9 ha1
    refine g_tast F 0 rfl (⟨by decide, by decide⟩ : 0 ≤ (0 : Int) ∧ (0 : Int) < 5) (by decide) (T' := [(q5, iA E 5 f8)]) (by rw [e9]; rfl) dX12_feed_30 ?_
    refine q_dup F dX12_feed_31 rfl ?_
    refine q_iconst F dX12_feed_32 ?_
    refine q_iload_n F 2 dX12_feed_33 rfl rfl ?_
    obtain ⟨f10, e11⟩ := ex1 (upF f8 1 a2)
    have hw := hw f10 e11
    have gf10 : ∀ x, inR (f10 x) := upF_in gf8 e11 ha2
    refine g_tast F 0 rfl (⟨by decide, by decide⟩ : 0 ≤ (1 : Int) ∧ (1 : Int) < 5) (by decide) (T' := [(q5, iA E 5 f10)]) (by rw [e11]; rfl) dX12_feed_34 ?_
    refine q_dup F dX12_feed_35 rfl ?_
    refine q_iconst F dX12_feed_36 ?_
    refine q_iload_n F 3 dX12_feed_37 rfl rfl ?_
    obtain ⟨f12, e13⟩ := ex1 (upF f10 2 a3)
    have hw := hw f12 e13
    have gf12 : ∀ x, inR (f12 x) := upF_in gf10 e13 ha3
    refine g_tast F 0 rfl (⟨by decide, by decide⟩ : 0 ≤ (2 : Int) ∧ (2 : Int) < 5) (by decide) (T' := [(q5, iA E 5 f12)]) (by rw [e13]; rfl) dX12_feed_38 ?_
    refine q_dup F dX12_feed_39 rfl ?_
    refine q_iconst F dX12_feed_40 ?_
    refine q_iload F 4 dX12_feed_41 rfl ?_
    obtain ⟨f14, e15⟩ := ex1 (upF f12 3 a4)
    have hw := hw f14 e15
    have gf14 : ∀ x, inR (f14 x) := upF_in gf12 e15 ha4
    refine g_tast F 0 rfl (⟨by decide, by decide⟩ : 0 ≤ (3 : Int) ∧ (3 : Int) < 5) (by decide) (T' := [(q5, iA E 5 f14)]) (by rw [e15]; rfl) dX12_feed_43 ?_
    refine q_dup F dX12_feed_44 rfl ?_
    refine q_iconst F dX12_feed_45 ?_
    refine q_iload F 5 dX12_feed_46 rfl ?_
    obtain ⟨f16, e17⟩ := ex1 (upF f14 4 a5)
    have hw := hw f16 e17
    have gf16 : ∀ x, inR (f16 x) := upF_in gf14 e17 ha5
    refine g_tast F 0 rfl (⟨by decide, by decide⟩ : 0 ≤ (4 : Int) ∧ (4 : Int) < 5) (by decide) (T' := [(q5, iA E 5 f16)]) (by rw [e17]; rfl) dX12_feed_48 ?_
    refine q_astore (lv' := [(0, .ref (E.1 1000)), (1, iV a1), (2, iV a2), (3, iV a3), (4, iV a4), (5, iV a5), (6, .ref q5)]) F [1, 2, 3, 4, 5, 6, 0] dX12_feed_49 (q_n hN (by decide)) rfl ?_
    refine q_aload F 6 dX12_feed_51 rfl ?_
    refine q_astore (lv' := [(0, .ref (E.1 1000)), (1, iV a1), (2, iV a2), (3, iV a3), (4, iV a4), (5, iV a5), (6, .ref q5), (7, .ref q5)]) F [1, 2, 3, 4, 5, 6, 7, 0] dX12_feed_53 (q_n hN (by decide)) rfl ?_
    refine q_aload F 7 dX12_feed_55 rfl ?_
    refine g_talen F 0 rfl dX12_feed_57 ?_
    refine q_istore (lv' := [(0, .ref (E.1 1000)), (1, iV a1), (2, iV a2), (3, iV a3), (4, iV a4), (5, iV a5), (6, .ref q5), (7, .ref q5), (8, iV 5)]) F [1, 2, 3, 4, 5, 6, 7, 8, 0] dX12_feed_58 (q_n hN (by decide)) rfl ?_
    refine q_iconst F dX12_feed_60 ?_
    refine q_istore (lv' := [(0, .ref (E.1 1000)), (1, iV a1), (2, iV a2), (3, iV a3), (4, iV a4), (5, iV a5), (6, .ref q5), (7, .ref q5), (8, iV 5), (9, iV 0)]) F [1, 2, 3, 4, 5, 6, 7, 8, 9, 0] dX12_feed_61 (q_n hN (by decide)) rfl ?_
    refine q_lv [0, 7, 8, 9] rfl ?_
    obtain ⟨n18, hw⟩ := hw
    exact bX12_feed_63 F hR hN hret ha1 ha2 ha3 ha4 ha5 n18 5 0 q5 f16 J1 (⟨by decide, by decide⟩ : inR (5)) (⟨by decide, by decide⟩ : inR (0)) gf16 m3 hw
  · have hw := hw.2 hc
    refine q_aload_n F 0 dX12_feed_18 rfl rfl ?_
    refine q_iconst F dX12_feed_19 ?_
    refine q_ViM F (kcX12_no m3 (⟨by decide, by decide⟩ : inR (1)) hw) (by decide) meObj (ci := 10) rfl (bV wd925 wd926 wd1285 wd13 wd927) rfl ⟨rfl, rfl⟩ ydX12_no (rmK_le hR (by omega) (by decide)) (av := [iV 1]) rfl rfl (Nat.le_of_ble_eq_true rfl) dX12_feed_20 (rmK_cs hR (by omega) (by omega)) (fun r19 J20 h21 m22 hw => ?_)
    refine q_wide (nc' := 1) (ns' := 5) (by omega) (by omega) ?_
    exact hret _ _ _ _ _ dX12_feed_23 h21 m22 hw
theorem ydX12_trim : yX12_trim.cls = RX12 ∧ yX12_trim.cls ≠ "java/lang/invoke/MethodHandle" ∧ yX12_trim.cls ≠ "java/lang/invoke/VarHandle" ∧ (parseMethodDescriptor yX12_trim.desc).map (fun d => d.parameters.length) = some 1 := by decide +kernel
def vX12_trim : List Cond := Cond.code yX12_trim cX12_trim 2 (some .int) :: bG
set_option maxHeartbeats 4000000 in
set_option maxRecDepth 100000 in
theorem kcX12_trim {l : Launch} {D : va_G} {E : cE} {a1 : Int} {J : cI} (hm : mM J) (ha1 : inR a1) {Q : Int → cI → Prop} (hw : wX12_trim a1 J Q) : gM l D E mIds yX12_trim vX12_trim (rmK 2 (0) (0)) [.ref (E.1 1000), iV a1] (mef E J) (mef E) (oI Q) (0) (0) := by
  unfold wX12_trim at hw
  refine k_ofW (own := RX12) (cc := cX12_trim) (maxL := 2) (ret := (some .int)) (lv := [(0, .ref (E.1 1000)), (1, iV a1)]) (by decide) rfl rfl (Nat.le_of_ble_eq_true rfl) rfl ?_
  intro X hl hR hN hD F K
  subst hl; subst hD
  have hret := mk_rIM (Q := Q) F K
  refine q_aload_n F 0 dX12_trim_0 rfl rfl ?_
  refine q_iconst F dX12_trim_1 ?_
  obtain ⟨J1, e2⟩ := ex1 (up2 J 1000 0 0)
  have hw := hw J1 e2
  have m3 : mM J1 := mM_I hm e2 (⟨by decide, by decide⟩ : inR (0))
  refine s_p_thrown F ib12 wd873 e2 dX12_trim_2 ?_
  refine q_iload_n F 1 dX12_trim_5 rfl rfl ?_
  refine q_iconst F dX12_trim_6 ?_
  refine q_aload_n F 0 dX12_trim_7 rfl rfl ?_
  refine s_g_length F ib12 wd875 dX12_trim_8 ?_
  refine q_SiM F (kcX12_isIn m3 ha1 (⟨by decide, by decide⟩ : inR (0)) (m3 _ _) hw) (bS wd932 wd933 wd13 wd934) rfl ⟨rfl, rfl⟩ ydX12_isIn (rmK_le hR (by omega) (by decide)) (av := [iV a1, iV 0, iV ((J1 1000 2))]) rfl rfl (Nat.le_of_ble_eq_true rfl) dX12_trim_11 (rmK_cs hR (by omega) (by omega)) (fun r4 J5 h6 m7 hw => ?_)
  refine q_if_ne F h6 23 dX12_trim_14 (by decide) (fun hc => ?_) (fun hc => ?_)
  · have hw := hw.1 hc
    refine q_aload_n F 0 dX12_trim_23 rfl rfl ?_
    refine q_iload_n F 1 dX12_trim_24 rfl rfl ?_
    obtain ⟨J8, e9⟩ := ex1 (up2 J5 1000 2 a1)
    have hw := hw J8 e9
    have m10 : mM J8 := mM_I m7 e9 ha1
    refine s_p_length F ib12 wd875 e9 dX12_trim_25 ?_
    refine q_iload_n F 1 dX12_trim_28 rfl rfl ?_
    exact hret _ _ _ _ _ dX12_trim_29 ha1 m10 hw
  · have hw := hw.2 hc
    refine q_aload_n F 0 dX12_trim_17 rfl rfl ?_
    refine q_iconst F dX12_trim_18 ?_
    refine q_ViM F (kcX12_no m7 (⟨by decide, by decide⟩ : inR (1)) hw) (by decide) meObj (ci := 10) rfl (bV wd925 wd926 wd1285 wd13 wd927) rfl ⟨rfl, rfl⟩ ydX12_no (rmK_le hR (by omega) (by decide)) (av := [iV 1]) rfl rfl (Nat.le_of_ble_eq_true rfl) dX12_trim_19 (rmK_cs hR (by omega) (by omega)) (fun r11 J12 h13 m14 hw => ?_)
    exact hret _ _ _ _ _ dX12_trim_22 h13 m14 hw
theorem ydX12_byteAtTape : yX12_byteAtTape.cls = RX12 ∧ yX12_byteAtTape.cls ≠ "java/lang/invoke/MethodHandle" ∧ yX12_byteAtTape.cls ≠ "java/lang/invoke/VarHandle" ∧ (parseMethodDescriptor yX12_byteAtTape.desc).map (fun d => d.parameters.length) = some 1 := by decide +kernel
def vX12_byteAtTape : List Cond := Cond.code yX12_byteAtTape cX12_byteAtTape 2 (some .int) :: bG
set_option maxHeartbeats 4000000 in
set_option maxRecDepth 100000 in
theorem kcX12_byteAtTape {l : Launch} {D : va_G} {E : cE} {a1 : Int} {J : cI} (hm : mM J) (ha1 : inR a1) {Q : Int → cI → Prop} (hw : wX12_byteAtTape a1 J Q) : gM l D E mIds yX12_byteAtTape vX12_byteAtTape (rmK 1 (0) (0)) [.ref (E.1 1000), iV a1] (mef E J) (mef E) (oI Q) (0) (0) := by
  unfold wX12_byteAtTape at hw
  refine k_ofW (own := RX12) (cc := cX12_byteAtTape) (maxL := 2) (ret := (some .int)) (lv := [(0, .ref (E.1 1000)), (1, iV a1)]) (by decide) rfl rfl (Nat.le_of_ble_eq_true rfl) rfl ?_
  intro X hl hR hN hD F K
  subst hl; subst hD
  have hret := mk_rIM (Q := Q) F K
  refine q_iload_n F 1 dX12_byteAtTape_0 rfl rfl ?_
  refine q_aload_n F 0 dX12_byteAtTape_1 rfl rfl ?_
  refine s_g_length F ib12 wd875 dX12_byteAtTape_2 ?_
  refine q_icmp_ge F ha1 (hm _ _) 17 dX12_byteAtTape_5 (by decide) (fun hc => ?_) (fun hc => ?_)
  · have hw := hw.1 hc
    refine q_iconst F dX12_byteAtTape_17 ?_
    exact hret _ _ _ _ _ dX12_byteAtTape_18 (⟨by decide, by decide⟩ : inR (-1)) hm hw
  · have hw := hw.2 hc
    refine q_aload_n F 0 dX12_byteAtTape_8 rfl rfl ?_
    refine s_g_tape F ib12 wd874 dX12_byteAtTape_9 ?_
    refine q_iload_n F 1 dX12_byteAtTape_12 rfl rfl ?_
    obtain ⟨k1, hw⟩ := hw
    refine s_ald F 1600 kM_tape k1 (by decide) dX12_byteAtTape_13 ?_
    refine q_goto F 18 dX12_byteAtTape_14 (by decide) ?_
    exact hret _ _ _ _ _ dX12_byteAtTape_18 (hm _ _) hm hw
theorem ydX12_isLetter : yX12_isLetter.cls = RX12 ∧ yX12_isLetter.cls ≠ "java/lang/invoke/MethodHandle" ∧ yX12_isLetter.cls ≠ "java/lang/invoke/VarHandle" ∧ (parseMethodDescriptor yX12_isLetter.desc).map (fun d => d.parameters.length) = some 1 := by decide +kernel
def vX12_isLetter : List Cond := Cond.code yX12_isLetter cX12_isLetter 2 (some .boolean) :: bG
set_option maxHeartbeats 4000000 in
set_option maxRecDepth 100000 in
theorem kcX12_isLetter {l : Launch} {D : va_G} {E : cE} {a1 : Int} {J : cI} (hm : mM J) (ha1 : inR a1) {Q : Int → cI → Prop} (hw : wX12_isLetter a1 J Q) : gM l D E mIds yX12_isLetter vX12_isLetter (rmK 2 (0) (0)) [.ref (E.1 1000), iV a1] (mef E J) (mef E) (oI Q) (0) (0) := by
  unfold wX12_isLetter at hw
  refine k_ofW (own := RX12) (cc := cX12_isLetter) (maxL := 2) (ret := (some .boolean)) (lv := [(0, .ref (E.1 1000)), (1, iV a1)]) (by decide) rfl rfl (Nat.le_of_ble_eq_true rfl) rfl ?_
  intro X hl hR hN hD F K
  subst hl; subst hD
  have hret := mk_rZM (Q := Q) F K
  refine q_aload_n F 0 dX12_isLetter_0 rfl rfl ?_
  refine q_iload_n F 1 dX12_isLetter_1 rfl rfl ?_
  refine q_ViM F (kcX12_byteAtTape hm ha1 hw) (by decide) meObj (ci := 10) rfl (bV wd942 wd943 wd1287 wd13 wd944) rfl ⟨rfl, rfl⟩ ydX12_byteAtTape (rmK_le hR (by omega) (by decide)) (av := [iV a1]) rfl rfl (Nat.le_of_ble_eq_true rfl) dX12_isLetter_2 (rmK_cs hR (by omega) (by omega)) (fun r1 J2 h3 m4 hw => ?_)
  refine q_bipush F dX12_isLetter_5 (by decide) ?_
  refine q_bipush F dX12_isLetter_7 (by decide) ?_
  refine q_SiM F (kcX12_isIn m4 h3 (⟨by decide, by decide⟩ : inR (97)) (⟨by decide, by decide⟩ : inR (122)) hw) (bS wd932 wd933 wd13 wd934) rfl ⟨rfl, rfl⟩ ydX12_isIn (rmK_le hR (by omega) (by decide)) (av := [iV r1, iV 97, iV 122]) rfl rfl (Nat.le_of_ble_eq_true rfl) dX12_isLetter_9 (rmK_cs hR (by omega) (by omega)) (fun r5 J6 h7 m8 hw => ?_)
  obtain ⟨k9, hw⟩ := hw
  exact hret _ _ _ _ _ dX12_isLetter_12 k9 h7 m8 hw
theorem ydX12_isDigit : yX12_isDigit.cls = RX12 ∧ yX12_isDigit.cls ≠ "java/lang/invoke/MethodHandle" ∧ yX12_isDigit.cls ≠ "java/lang/invoke/VarHandle" ∧ (parseMethodDescriptor yX12_isDigit.desc).map (fun d => d.parameters.length) = some 1 := by decide +kernel
def vX12_isDigit : List Cond := Cond.code yX12_isDigit cX12_isDigit 2 (some .boolean) :: bG
set_option maxHeartbeats 4000000 in
set_option maxRecDepth 100000 in
theorem kcX12_isDigit {l : Launch} {D : va_G} {E : cE} {a1 : Int} {J : cI} (hm : mM J) (ha1 : inR a1) {Q : Int → cI → Prop} (hw : wX12_isDigit a1 J Q) : gM l D E mIds yX12_isDigit vX12_isDigit (rmK 2 (0) (0)) [.ref (E.1 1000), iV a1] (mef E J) (mef E) (oI Q) (0) (0) := by
  unfold wX12_isDigit at hw
  refine k_ofW (own := RX12) (cc := cX12_isDigit) (maxL := 2) (ret := (some .boolean)) (lv := [(0, .ref (E.1 1000)), (1, iV a1)]) (by decide) rfl rfl (Nat.le_of_ble_eq_true rfl) rfl ?_
  intro X hl hR hN hD F K
  subst hl; subst hD
  have hret := mk_rZM (Q := Q) F K
  refine q_aload_n F 0 dX12_isDigit_0 rfl rfl ?_
  refine q_iload_n F 1 dX12_isDigit_1 rfl rfl ?_
  refine q_ViM F (kcX12_byteAtTape hm ha1 hw) (by decide) meObj (ci := 10) rfl (bV wd942 wd943 wd1287 wd13 wd944) rfl ⟨rfl, rfl⟩ ydX12_byteAtTape (rmK_le hR (by omega) (by decide)) (av := [iV a1]) rfl rfl (Nat.le_of_ble_eq_true rfl) dX12_isDigit_2 (rmK_cs hR (by omega) (by omega)) (fun r1 J2 h3 m4 hw => ?_)
  refine q_bipush F dX12_isDigit_5 (by decide) ?_
  refine q_bipush F dX12_isDigit_7 (by decide) ?_
  refine q_SiM F (kcX12_isIn m4 h3 (⟨by decide, by decide⟩ : inR (48)) (⟨by decide, by decide⟩ : inR (57)) hw) (bS wd932 wd933 wd13 wd934) rfl ⟨rfl, rfl⟩ ydX12_isIn (rmK_le hR (by omega) (by decide)) (av := [iV r1, iV 48, iV 57]) rfl rfl (Nat.le_of_ble_eq_true rfl) dX12_isDigit_9 (rmK_cs hR (by omega) (by omega)) (fun r5 J6 h7 m8 hw => ?_)
  obtain ⟨k9, hw⟩ := hw
  exact hret _ _ _ _ _ dX12_isDigit_12 k9 h7 m8 hw
theorem ydX12_scan : yX12_scan.cls = RX12 ∧ yX12_scan.cls ≠ "java/lang/invoke/MethodHandle" ∧ yX12_scan.cls ≠ "java/lang/invoke/VarHandle" ∧ (parseMethodDescriptor yX12_scan.desc).map (fun d => d.parameters.length) = some 0 := by decide +kernel
def vX12_scan : List Cond := Cond.code yX12_scan cX12_scan 6 none :: bG
set_option maxHeartbeats 4000000 in
set_option maxRecDepth 100000 in
theorem bX12_scan_181 {X : xC} {E : cE} (F : mF X E RX12 cX12_scan bG) (hR : X.1.2.2.2 = rmK 3 (0) (0)) (hN : X.2.2.1.2.2.2 = 6) {Q : cI → Prop} (hret : rVM X E cX12_scan (0) (0) Q)   {K6 : Int → Int → Int → cI → Prop} (hK6 : ∀ (x1 : Int) (x2 : Int) (x3 : Int) (J : cI), inR x1 → inR x2 → inR x3 → mM J → K6 x1 x2 x3 J → cW X (0) (0) 6 [(0, .ref (E.1 1000)), (1, iV x1), (2, iV x2), (3, iV x3)] [] (gw E.1 mIds (mef E J) ++ [])) : ∀ (x1 : Int) (x2 : Int) (x4 : Int) (x5 : Int) (J : cI), inR x1 → inR x2 → inR x4 → inR x5 → mM J → wX12_scan_181 Q K6 x1 x2 x4 x5 J → cW X (0) (0) 181 [(0, .ref (E.1 1000)), (1, iV x1), (2, iV x2), (4, iV x4), (5, iV x5)] [] (gw E.1 mIds (mef E J) ++ []) := by
  intro x1 x2 x4 x5 J hx1 hx2 hx4 hx5 hm hw
  unfold wX12_scan_181 at hw
  refine q_aload_n F 0 dX12_scan_181 rfl rfl ?_
  refine s_g_kinds F ib12 wd877 dX12_scan_182 ?_
  refine q_iload_n F 1 dX12_scan_185 rfl rfl ?_
  refine q_iload F 4 dX12_scan_186 rfl ?_
  obtain ⟨k1, hw⟩ := hw
  obtain ⟨J2, e3⟩ := ex1 (up2 J 1004 x1 x5)
  have hw := hw J2 e3
  have m4 : mM J2 := mM_I hm e3 hx5
  refine s_ast F 1601 kM_kinds k1 (by decide) e3 dX12_scan_188 ?_
  refine q_aload_n F 0 dX12_scan_189 rfl rfl ?_
  refine s_g_froms F ib12 wd878 dX12_scan_190 ?_
  refine q_iload_n F 1 dX12_scan_193 rfl rfl ?_
  refine q_iload_n F 2 dX12_scan_194 rfl rfl ?_
  obtain ⟨k5, hw⟩ := hw
  obtain ⟨J6, e7⟩ := ex1 (up2 J2 1005 x1 x2)
  have hw := hw J6 e7
  have m8 : mM J6 := mM_I m4 e7 hx2
  refine s_ast F 1601 kM_froms k5 (by decide) e7 dX12_scan_195 ?_
  refine q_aload_n F 0 dX12_scan_196 rfl rfl ?_
  refine s_g_ends F ib12 wd879 dX12_scan_197 ?_
  refine q_iload_n F 1 dX12_scan_200 rfl rfl ?_
  refine q_iload F 3 dX12_scan_201 rfl ?_
  obtain ⟨k9, hw⟩ := hw
  obtain ⟨J10, e11⟩ := ex1 (up2 J6 1006 x1 x4)
  have hw := hw J10 e11
  have m12 : mM J10 := mM_I m8 e11 hx4
  refine s_ast F 1601 kM_ends k9 (by decide) e11 dX12_scan_203 ?_
  obtain ⟨k15, hw⟩ := hw
  obtain ⟨z13, e14⟩ := ex1 (x1 + 1)
  have hw := hw z13 e14
  have hz13 : inR z13 := by rw [e14]; exact k15
  refine q_iinc (lv' := [(0, .ref (E.1 1000)), (1, iV z13), (2, iV x2), (4, iV x4), (5, iV x5)]) F 1 [1, 0, 2, 3, 4] dX12_scan_204 rfl (q_n hN (by decide)) e14.symm rfl ?_
  refine q_iload F 3 dX12_scan_207 rfl ?_
  refine q_istore_n (lv' := [(0, .ref (E.1 1000)), (1, iV z13), (2, iV x4), (4, iV x4), (5, iV x5)]) F [1, 2, 0, 3, 4] dX12_scan_209 rfl (q_n hN (by decide)) rfl ?_
  refine q_iload F 4 dX12_scan_210 rfl ?_
  refine q_if_eq F hx5 219 dX12_scan_212 (by decide) (fun hc => ?_) (fun hc => ?_)
  · have hw := hw.1 hc
    refine q_iconst F dX12_scan_219 ?_
    refine q_istore_n (lv' := [(0, .ref (E.1 1000)), (1, iV z13), (2, iV x4), (3, iV 0), (4, iV x4), (5, iV x5)]) F [1, 2, 3, 0, 4, 5] dX12_scan_220 rfl (q_n hN (by decide)) rfl ?_
    refine q_goto F 6 dX12_scan_221 (by decide) ?_
    refine q_lv [0, 1, 2, 3] rfl ?_
    exact hK6 z13 x4 0 J10 hz13 hx4 (⟨by decide, by decide⟩ : inR (0)) m12 hw
  · have hw := hw.2 hc
    refine q_iconst F dX12_scan_215 ?_
    refine q_goto F 220 dX12_scan_216 (by decide) ?_
    refine q_istore_n (lv' := [(0, .ref (E.1 1000)), (1, iV z13), (2, iV x4), (3, iV 1), (4, iV x4), (5, iV x5)]) F [1, 2, 3, 0, 4, 5] dX12_scan_220 rfl (q_n hN (by decide)) rfl ?_
    refine q_goto F 6 dX12_scan_221 (by decide) ?_
    refine q_lv [0, 1, 2, 3] rfl ?_
    exact hK6 z13 x4 1 J10 hz13 hx4 (⟨by decide, by decide⟩ : inR (1)) m12 hw
set_option maxHeartbeats 4000000 in
set_option maxRecDepth 100000 in
theorem bX12_scan_179 {X : xC} {E : cE} (F : mF X E RX12 cX12_scan bG) (hR : X.1.2.2.2 = rmK 3 (0) (0)) (hN : X.2.2.1.2.2.2 = 6) {Q : cI → Prop} (hret : rVM X E cX12_scan (0) (0) Q)   {K6 : Int → Int → Int → cI → Prop} (hK6 : ∀ (x1 : Int) (x2 : Int) (x3 : Int) (J : cI), inR x1 → inR x2 → inR x3 → mM J → K6 x1 x2 x3 J → cW X (0) (0) 6 [(0, .ref (E.1 1000)), (1, iV x1), (2, iV x2), (3, iV x3)] [] (gw E.1 mIds (mef E J) ++ [])) : ∀ (x1 : Int) (x2 : Int) (x4 : Int) (y0 : Int) (J : cI), inR x1 → inR x2 → inR x4 → inR y0 → mM J → wX12_scan_179 Q K6 x1 x2 x4 y0 J → cW X (0) (0) 179 [(0, .ref (E.1 1000)), (1, iV x1), (2, iV x2), (4, iV x4)] [iV y0] (gw E.1 mIds (mef E J) ++ []) := by
  intro x1 x2 x4 y0 J hx1 hx2 hx4 hy0 hm hw
  unfold wX12_scan_179 at hw
  refine q_istore (lv' := [(0, .ref (E.1 1000)), (1, iV x1), (2, iV x2), (4, iV x4), (5, iV y0)]) F [1, 2, 3, 4, 0] dX12_scan_179 (q_n hN (by decide)) rfl ?_
  exact bX12_scan_181 F hR hN hret hK6 x1 x2 x4 y0 J hx1 hx2 hx4 hy0 hm hw
set_option maxHeartbeats 4000000 in
set_option maxRecDepth 100000 in
theorem bX12_scan_147 {X : xC} {E : cE} (F : mF X E RX12 cX12_scan bG) (hR : X.1.2.2.2 = rmK 3 (0) (0)) (hN : X.2.2.1.2.2.2 = 6) {Q : cI → Prop} (hret : rVM X E cX12_scan (0) (0) Q)   {K6 : Int → Int → Int → cI → Prop} (hK6 : ∀ (x1 : Int) (x2 : Int) (x3 : Int) (J : cI), inR x1 → inR x2 → inR x3 → mM J → K6 x1 x2 x3 J → cW X (0) (0) 6 [(0, .ref (E.1 1000)), (1, iV x1), (2, iV x2), (3, iV x3)] [] (gw E.1 mIds (mef E J) ++ [])) : ∀ (x1 : Int) (x2 : Int) (x4 : Int) (y0 : Int) (J : cI), inR x1 → inR x2 → inR x4 → inR y0 → mM J → wX12_scan_147 Q K6 x1 x2 x4 y0 J → cW X (0) (0) 147 [(0, .ref (E.1 1000)), (1, iV x1), (2, iV x2), (4, iV x4)] [iV y0] (gw E.1 mIds (mef E J) ++ []) := by
  intro x1 x2 x4 y0 J hx1 hx2 hx4 hy0 hm hw
  unfold wX12_scan_147 at hw
  refine q_istore (lv' := [(0, .ref (E.1 1000)), (1, iV x1), (2, iV x2), (4, iV x4), (5, iV y0)]) F [1, 2, 3, 4, 0] dX12_scan_147 (q_n hN (by decide)) rfl ?_
  refine q_goto F 181 dX12_scan_149 (by decide) ?_
  exact bX12_scan_181 F hR hN hret hK6 x1 x2 x4 y0 J hx1 hx2 hx4 hy0 hm hw
set_option maxHeartbeats 4000000 in
set_option maxRecDepth 100000 in
theorem bX12_scan_119 {X : xC} {E : cE} (F : mF X E RX12 cX12_scan bG) (hR : X.1.2.2.2 = rmK 3 (0) (0)) (hN : X.2.2.1.2.2.2 = 6) {Q : cI → Prop} (hret : rVM X E cX12_scan (0) (0) Q)   {K6 : Int → Int → Int → cI → Prop} (hK6 : ∀ (x1 : Int) (x2 : Int) (x3 : Int) (J : cI), inR x1 → inR x2 → inR x3 → mM J → K6 x1 x2 x3 J → cW X (0) (0) 6 [(0, .ref (E.1 1000)), (1, iV x1), (2, iV x2), (3, iV x3)] [] (gw E.1 mIds (mef E J) ++ [])) : ∀ n119 : Nat, ∀ (x1 : Int) (x2 : Int) (x4 : Int) (J : cI), inR x1 → inR x2 → inR x4 → mM J → wX12_scan_119 Q K6 n119 x1 x2 x4 J → cW X (0) (0) 119 [(0, .ref (E.1 1000)), (1, iV x1), (2, iV x2), (4, iV x4)] [] (gw E.1 mIds (mef E J) ++ []) := by
  intro n119
  induction n119 with
  | zero => intro x1 x2 x4 J hx1 hx2 hx4 hm hw; exact hw.elim
  | succ n119 ih =>
    intro x1 x2 x4 J hx1 hx2 hx4 hm hw
    change wbX12_scan_119 Q K6 (wX12_scan_119 Q K6 n119) x1 x2 x4 J at hw
    unfold wbX12_scan_119 at hw
    refine q_aload_n F 0 dX12_scan_119 rfl rfl ?_
    refine q_iload F 3 dX12_scan_120 rfl ?_
    refine q_ViM F (kcX12_isDigit hm hx4 hw) (by decide) meObj (ci := 10) rfl (bV wd948 wd949 wd1289 wd13 wd950) rfl ⟨rfl, rfl⟩ ydX12_isDigit (rmK_le hR (by omega) (by decide)) (av := [iV x4]) rfl rfl (Nat.le_of_ble_eq_true rfl) dX12_scan_122 (rmK_cs hR (by omega) (by omega)) (fun r1 J2 h3 m4 hw => ?_)
    refine q_if_eq F h3 134 dX12_scan_125 (by decide) (fun hc => ?_) (fun hc => ?_)
    · have hw := hw.1 hc
      refine q_iload F 3 dX12_scan_134 rfl ?_
      refine q_iload_n F 2 dX12_scan_136 rfl rfl ?_
      refine q_isub F dX12_scan_137 ?_
      refine q_iconst F dX12_scan_138 ?_
      obtain ⟨k5, hw⟩ := hw
      refine q_icmp_gt F k5 (⟨by decide, by decide⟩ : inR (4)) 146 dX12_scan_139 (by decide) (fun hc => ?_) (fun hc => ?_)
      · have hw := hw.1 hc
        refine q_iconst F dX12_scan_146 ?_
        exact bX12_scan_147 F hR hN hret hK6 x1 x2 x4 5 J2 hx1 hx2 hx4 (⟨by decide, by decide⟩ : inR (5)) m4 hw
      · have hw := hw.2 hc
        refine q_iconst F dX12_scan_142 ?_
        refine q_goto F 147 dX12_scan_143 (by decide) ?_
        exact bX12_scan_147 F hR hN hret hK6 x1 x2 x4 3 J2 hx1 hx2 hx4 (⟨by decide, by decide⟩ : inR (3)) m4 hw
    · have hw := hw.2 hc
      obtain ⟨k8, hw⟩ := hw
      obtain ⟨z6, e7⟩ := ex1 (x4 + 1)
      have hw := hw z6 e7
      have hz6 : inR z6 := by rw [e7]; exact k8
      refine q_iinc (lv' := [(0, .ref (E.1 1000)), (1, iV x1), (2, iV x2), (4, iV z6)]) F 3 [1, 2, 3, 0] dX12_scan_128 rfl (q_n hN (by decide)) e7.symm rfl ?_
      refine q_goto F 119 dX12_scan_131 (by decide) ?_
      exact ih x1 x2 z6 J2 hx1 hx2 hz6 m4 hw
set_option maxHeartbeats 4000000 in
set_option maxRecDepth 100000 in
theorem bX12_scan_106 {X : xC} {E : cE} (F : mF X E RX12 cX12_scan bG) (hR : X.1.2.2.2 = rmK 3 (0) (0)) (hN : X.2.2.1.2.2.2 = 6) {Q : cI → Prop} (hret : rVM X E cX12_scan (0) (0) Q)   {K6 : Int → Int → Int → cI → Prop} (hK6 : ∀ (x1 : Int) (x2 : Int) (x3 : Int) (J : cI), inR x1 → inR x2 → inR x3 → mM J → K6 x1 x2 x3 J → cW X (0) (0) 6 [(0, .ref (E.1 1000)), (1, iV x1), (2, iV x2), (3, iV x3)] [] (gw E.1 mIds (mef E J) ++ [])) : ∀ (x1 : Int) (x2 : Int) (x4 : Int) (y0 : Int) (J : cI), inR x1 → inR x2 → inR x4 → inR y0 → mM J → wX12_scan_106 Q K6 x1 x2 x4 y0 J → cW X (0) (0) 106 [(0, .ref (E.1 1000)), (1, iV x1), (2, iV x2), (4, iV x4)] [iV y0] (gw E.1 mIds (mef E J) ++ []) := by
  intro x1 x2 x4 y0 J hx1 hx2 hx4 hy0 hm hw
  unfold wX12_scan_106 at hw
  refine q_istore (lv' := [(0, .ref (E.1 1000)), (1, iV x1), (2, iV x2), (4, iV x4), (5, iV y0)]) F [1, 2, 3, 4, 0] dX12_scan_106 (q_n hN (by decide)) rfl ?_
  refine q_goto F 181 dX12_scan_108 (by decide) ?_
  exact bX12_scan_181 F hR hN hret hK6 x1 x2 x4 y0 J hx1 hx2 hx4 hy0 hm hw
set_option maxHeartbeats 4000000 in
set_option maxRecDepth 100000 in
theorem bX12_scan_77 {X : xC} {E : cE} (F : mF X E RX12 cX12_scan bG) (hR : X.1.2.2.2 = rmK 3 (0) (0)) (hN : X.2.2.1.2.2.2 = 6) {Q : cI → Prop} (hret : rVM X E cX12_scan (0) (0) Q)   {K6 : Int → Int → Int → cI → Prop} (hK6 : ∀ (x1 : Int) (x2 : Int) (x3 : Int) (J : cI), inR x1 → inR x2 → inR x3 → mM J → K6 x1 x2 x3 J → cW X (0) (0) 6 [(0, .ref (E.1 1000)), (1, iV x1), (2, iV x2), (3, iV x3)] [] (gw E.1 mIds (mef E J) ++ [])) : ∀ n77 : Nat, ∀ (x1 : Int) (x2 : Int) (x4 : Int) (J : cI), inR x1 → inR x2 → inR x4 → mM J → wX12_scan_77 Q K6 n77 x1 x2 x4 J → cW X (0) (0) 77 [(0, .ref (E.1 1000)), (1, iV x1), (2, iV x2), (4, iV x4)] [] (gw E.1 mIds (mef E J) ++ []) := by
  intro n77
  induction n77 with
  | zero => intro x1 x2 x4 J hx1 hx2 hx4 hm hw; exact hw.elim
  | succ n77 ih =>
    intro x1 x2 x4 J hx1 hx2 hx4 hm hw
    change wbX12_scan_77 Q K6 (wX12_scan_77 Q K6 n77) x1 x2 x4 J at hw
    unfold wbX12_scan_77 at hw
    refine q_aload_n F 0 dX12_scan_77 rfl rfl ?_
    refine q_iload F 3 dX12_scan_78 rfl ?_
    refine q_ViM F (kcX12_isLetter hm hx4 hw) (by decide) meObj (ci := 10) rfl (bV wd945 wd946 wd1288 wd13 wd947) rfl ⟨rfl, rfl⟩ ydX12_isLetter (rmK_le hR (by omega) (by decide)) (av := [iV x4]) rfl rfl (Nat.le_of_ble_eq_true rfl) dX12_scan_80 (rmK_cs hR (by omega) (by omega)) (fun r1 J2 h3 m4 hw => ?_)
    refine q_if_eq F h3 92 dX12_scan_83 (by decide) (fun hc => ?_) (fun hc => ?_)
    · have hw := hw.1 hc
      refine q_iload F 3 dX12_scan_92 rfl ?_
      refine q_iload_n F 2 dX12_scan_94 rfl rfl ?_
      refine q_isub F dX12_scan_95 ?_
      refine q_bipush F dX12_scan_96 (by decide) ?_
      obtain ⟨k5, hw⟩ := hw
      refine q_icmp_gt F k5 (⟨by decide, by decide⟩ : inR (8)) 105 dX12_scan_98 (by decide) (fun hc => ?_) (fun hc => ?_)
      · have hw := hw.1 hc
        refine q_iconst F dX12_scan_105 ?_
        exact bX12_scan_106 F hR hN hret hK6 x1 x2 x4 5 J2 hx1 hx2 hx4 (⟨by decide, by decide⟩ : inR (5)) m4 hw
      · have hw := hw.2 hc
        refine q_iconst F dX12_scan_101 ?_
        refine q_goto F 106 dX12_scan_102 (by decide) ?_
        exact bX12_scan_106 F hR hN hret hK6 x1 x2 x4 2 J2 hx1 hx2 hx4 (⟨by decide, by decide⟩ : inR (2)) m4 hw
    · have hw := hw.2 hc
      obtain ⟨k8, hw⟩ := hw
      obtain ⟨z6, e7⟩ := ex1 (x4 + 1)
      have hw := hw z6 e7
      have hz6 : inR z6 := by rw [e7]; exact k8
      refine q_iinc (lv' := [(0, .ref (E.1 1000)), (1, iV x1), (2, iV x2), (4, iV z6)]) F 3 [1, 2, 3, 0] dX12_scan_86 rfl (q_n hN (by decide)) e7.symm rfl ?_
      refine q_goto F 77 dX12_scan_89 (by decide) ?_
      exact ih x1 x2 z6 J2 hx1 hx2 hz6 m4 hw
set_option maxHeartbeats 4000000 in
set_option maxRecDepth 100000 in
theorem bX12_scan_69 {X : xC} {E : cE} (F : mF X E RX12 cX12_scan bG) (hR : X.1.2.2.2 = rmK 3 (0) (0)) (hN : X.2.2.1.2.2.2 = 6) {Q : cI → Prop} (hret : rVM X E cX12_scan (0) (0) Q)   {K6 : Int → Int → Int → cI → Prop} (hK6 : ∀ (x1 : Int) (x2 : Int) (x3 : Int) (J : cI), inR x1 → inR x2 → inR x3 → mM J → K6 x1 x2 x3 J → cW X (0) (0) 6 [(0, .ref (E.1 1000)), (1, iV x1), (2, iV x2), (3, iV x3)] [] (gw E.1 mIds (mef E J) ++ [])) : ∀ (x1 : Int) (x2 : Int) (x4 : Int) (x5 : Int) (J : cI), inR x1 → inR x2 → inR x4 → inR x5 → mM J → wX12_scan_69 Q K6 x1 x2 x4 x5 J → cW X (0) (0) 69 [(0, .ref (E.1 1000)), (1, iV x1), (2, iV x2), (4, iV x4), (5, iV x5)] [] (gw E.1 mIds (mef E J) ++ []) := by
  intro x1 x2 x4 x5 J hx1 hx2 hx4 hx5 hm hw
  unfold wX12_scan_69 at hw
  refine q_aload_n F 0 dX12_scan_69 rfl rfl ?_
  refine q_iload_n F 2 dX12_scan_70 rfl rfl ?_
  refine q_ViM F (kcX12_isLetter hm hx2 hw) (by decide) meObj (ci := 10) rfl (bV wd945 wd946 wd1288 wd13 wd947) rfl ⟨rfl, rfl⟩ ydX12_isLetter (rmK_le hR (by omega) (by decide)) (av := [iV x2]) rfl rfl (Nat.le_of_ble_eq_true rfl) dX12_scan_71 (rmK_cs hR (by omega) (by omega)) (fun r1 J2 h3 m4 hw => ?_)
  refine q_if_eq F h3 111 dX12_scan_74 (by decide) (fun hc => ?_) (fun hc => ?_)
  · have hw := hw.1 hc
    refine q_aload_n F 0 dX12_scan_111 rfl rfl ?_
    refine q_iload_n F 2 dX12_scan_112 rfl rfl ?_
    refine q_ViM F (kcX12_isDigit m4 hx2 hw) (by decide) meObj (ci := 10) rfl (bV wd948 wd949 wd1289 wd13 wd950) rfl ⟨rfl, rfl⟩ ydX12_isDigit (rmK_le hR (by omega) (by decide)) (av := [iV x2]) rfl rfl (Nat.le_of_ble_eq_true rfl) dX12_scan_113 (rmK_cs hR (by omega) (by omega)) (fun r5 J6 h7 m8 hw => ?_)
    refine q_if_eq F h7 152 dX12_scan_116 (by decide) (fun hc => ?_) (fun hc => ?_)
    · have hw := hw.1 hc
      refine q_iload_n F 2 dX12_scan_152 rfl rfl ?_
      refine q_aload_n F 0 dX12_scan_153 rfl rfl ?_
      refine s_g_length F ib12 wd875 dX12_scan_154 ?_
      refine q_icmp_ge F hx2 (m8 _ _) 181 dX12_scan_157 (by decide) (fun hc => ?_) (fun hc => ?_)
      · have hw := hw.1 hc
        exact bX12_scan_181 F hR hN hret hK6 x1 x2 x4 x5 J6 hx1 hx2 hx4 hx5 m8 hw
      · have hw := hw.2 hc
        obtain ⟨k11, hw⟩ := hw
        obtain ⟨z9, e10⟩ := ex1 (x4 + 1)
        have hw := hw z9 e10
        have hz9 : inR z9 := by rw [e10]; exact k11
        refine q_iinc (lv' := [(0, .ref (E.1 1000)), (1, iV x1), (2, iV x2), (4, iV z9), (5, iV x5)]) F 3 [1, 2, 3, 0, 4] dX12_scan_160 rfl (q_n hN (by decide)) e10.symm rfl ?_
        refine q_aload_n F 0 dX12_scan_163 rfl rfl ?_
        refine s_g_tape F ib12 wd874 dX12_scan_164 ?_
        refine q_iload_n F 2 dX12_scan_167 rfl rfl ?_
        obtain ⟨k12, hw⟩ := hw
        refine s_ald F 1600 kM_tape k12 (by decide) dX12_scan_168 ?_
        refine q_bipush F dX12_scan_169 (by decide) ?_
        refine q_icmp_ne F (m8 _ _) (⟨by decide, by decide⟩ : inR (59)) 178 dX12_scan_171 (by decide) (fun hc => ?_) (fun hc => ?_)
        · have hw := hw.1 hc
          refine q_iconst F dX12_scan_178 ?_
          refine q_lv [0, 1, 2, 3] rfl ?_
          exact bX12_scan_179 F hR hN hret hK6 x1 x2 z9 5 J6 hx1 hx2 hz9 (⟨by decide, by decide⟩ : inR (5)) m8 hw
        · have hw := hw.2 hc
          refine q_iconst F dX12_scan_174 ?_
          refine q_goto F 179 dX12_scan_175 (by decide) ?_
          refine q_lv [0, 1, 2, 3] rfl ?_
          exact bX12_scan_179 F hR hN hret hK6 x1 x2 z9 4 J6 hx1 hx2 hz9 (⟨by decide, by decide⟩ : inR (4)) m8 hw
    · have hw := hw.2 hc
      refine q_lv [0, 1, 2, 3] rfl ?_
      obtain ⟨n13, hw⟩ := hw
      exact bX12_scan_119 F hR hN hret hK6 n13 x1 x2 x4 J6 hx1 hx2 hx4 m8 hw
  · have hw := hw.2 hc
    refine q_lv [0, 1, 2, 3] rfl ?_
    obtain ⟨n14, hw⟩ := hw
    exact bX12_scan_77 F hR hN hret hK6 n14 x1 x2 x4 J2 hx1 hx2 hx4 m4 hw
set_option maxHeartbeats 4000000 in
set_option maxRecDepth 100000 in
theorem bX12_scan_10 {X : xC} {E : cE} (F : mF X E RX12 cX12_scan bG) (hR : X.1.2.2.2 = rmK 3 (0) (0)) (hN : X.2.2.1.2.2.2 = 6) {Q : cI → Prop} (hret : rVM X E cX12_scan (0) (0) Q)   {K6 : Int → Int → Int → cI → Prop} (hK6 : ∀ (x1 : Int) (x2 : Int) (x3 : Int) (J : cI), inR x1 → inR x2 → inR x3 → mM J → K6 x1 x2 x3 J → cW X (0) (0) 6 [(0, .ref (E.1 1000)), (1, iV x1), (2, iV x2), (3, iV x3)] [] (gw E.1 mIds (mef E J) ++ [])) : ∀ n10 : Nat, ∀ (x1 : Int) (x2 : Int) (J : cI), inR x1 → inR x2 → mM J → wX12_scan_10 Q K6 n10 x1 x2 J → cW X (0) (0) 10 [(0, .ref (E.1 1000)), (1, iV x1), (2, iV x2)] [] (gw E.1 mIds (mef E J) ++ []) := by
  intro n10
  induction n10 with
  | zero => intro x1 x2 J hx1 hx2 hm hw; exact hw.elim
  | succ n10 ih =>
    intro x1 x2 J hx1 hx2 hm hw
    change wbX12_scan_10 Q K6 (wX12_scan_10 Q K6 n10) x1 x2 J at hw
    unfold wbX12_scan_10 at hw
    refine q_aload_n F 0 dX12_scan_10 rfl rfl ?_
    refine q_iload_n F 2 dX12_scan_11 rfl rfl ?_
    refine q_ViM F (kcX12_byteAtTape hm hx2 hw) (by decide) meObj (ci := 10) rfl (bV wd942 wd943 wd1287 wd13 wd944) rfl ⟨rfl, rfl⟩ ydX12_byteAtTape (rmK_le hR (by omega) (by decide)) (av := [iV x2]) rfl rfl (Nat.le_of_ble_eq_true rfl) dX12_scan_12 (rmK_cs hR (by omega) (by omega)) (fun r1 J2 h3 m4 hw => ?_)
    refine q_bipush F dX12_scan_15 (by decide) ?_
    refine q_icmp_eq F h3 (⟨by decide, by decide⟩ : inR (32)) 30 dX12_scan_17 (by decide) (fun hc => ?_) (fun hc => ?_)
    · have hw := hw.1 hc
      obtain ⟨k7, hw⟩ := hw
      obtain ⟨z5, e6⟩ := ex1 (x2 + 1)
      have hw := hw z5 e6
      have hz5 : inR z5 := by rw [e6]; exact k7
      refine q_iinc (lv' := [(0, .ref (E.1 1000)), (1, iV x1), (2, iV z5)]) F 2 [1, 2, 0] dX12_scan_30 rfl (q_n hN (by decide)) e6.symm rfl ?_
      refine q_goto F 10 dX12_scan_33 (by decide) ?_
      exact ih x1 z5 J2 hx1 hz5 m4 hw
    · have hw := hw.2 hc
      refine q_aload_n F 0 dX12_scan_20 rfl rfl ?_
      refine q_iload_n F 2 dX12_scan_21 rfl rfl ?_
      refine q_ViM F (kcX12_byteAtTape m4 hx2 hw) (by decide) meObj (ci := 10) rfl (bV wd942 wd943 wd1287 wd13 wd944) rfl ⟨rfl, rfl⟩ ydX12_byteAtTape (rmK_le hR (by omega) (by decide)) (av := [iV x2]) rfl rfl (Nat.le_of_ble_eq_true rfl) dX12_scan_22 (rmK_cs hR (by omega) (by omega)) (fun r8 J9 h10 m11 hw => ?_)
      refine q_bipush F dX12_scan_25 (by decide) ?_
      refine q_icmp_ne F h10 (⟨by decide, by decide⟩ : inR (10)) 36 dX12_scan_27 (by decide) (fun hc => ?_) (fun hc => ?_)
      · have hw := hw.1 hc
        refine q_iload_n F 2 dX12_scan_36 rfl rfl ?_
        refine q_istore (lv' := [(0, .ref (E.1 1000)), (1, iV x1), (2, iV x2), (4, iV x2)]) F [1, 2, 3, 0] dX12_scan_37 (q_n hN (by decide)) rfl ?_
        refine q_iconst F dX12_scan_39 ?_
        refine q_istore (lv' := [(0, .ref (E.1 1000)), (1, iV x1), (2, iV x2), (4, iV x2), (5, iV 0)]) F [1, 2, 3, 4, 0] dX12_scan_40 (q_n hN (by decide)) rfl ?_
        refine q_aload_n F 0 dX12_scan_42 rfl rfl ?_
        refine q_iload_n F 2 dX12_scan_43 rfl rfl ?_
        refine q_ViM F (kcX12_isLetter m11 hx2 hw) (by decide) meObj (ci := 10) rfl (bV wd945 wd946 wd1288 wd13 wd947) rfl ⟨rfl, rfl⟩ ydX12_isLetter (rmK_le hR (by omega) (by decide)) (av := [iV x2]) rfl rfl (Nat.le_of_ble_eq_true rfl) dX12_scan_44 (rmK_cs hR (by omega) (by omega)) (fun r12 J13 h14 m15 hw => ?_)
        refine q_if_eq F h14 69 dX12_scan_47 (by decide) (fun hc => ?_) (fun hc => ?_)
        · have hw := hw.1 hc
          exact bX12_scan_69 F hR hN hret hK6 x1 x2 x2 0 J13 hx1 hx2 hx2 (⟨by decide, by decide⟩ : inR (0)) m15 hw
        · have hw := hw.2 hc
          refine q_aload_n F 0 dX12_scan_50 rfl rfl ?_
          refine q_iload_n F 2 dX12_scan_51 rfl rfl ?_
          refine q_iconst F dX12_scan_52 ?_
          refine q_iadd F dX12_scan_53 ?_
          obtain ⟨k16, hw⟩ := hw
          refine q_ViM F (kcX12_isDigit m15 k16 hw) (by decide) meObj (ci := 10) rfl (bV wd948 wd949 wd1289 wd13 wd950) rfl ⟨rfl, rfl⟩ ydX12_isDigit (rmK_le hR (by omega) (by decide)) (av := [iV ((x2 + 1))]) rfl rfl (Nat.le_of_ble_eq_true rfl) dX12_scan_54 (rmK_cs hR (by omega) (by omega)) (fun r17 J18 h19 m20 hw => ?_)
          refine q_if_eq F h19 69 dX12_scan_57 (by decide) (fun hc => ?_) (fun hc => ?_)
          · have hw := hw.1 hc
            exact bX12_scan_69 F hR hN hret hK6 x1 x2 x2 0 J18 hx1 hx2 hx2 (⟨by decide, by decide⟩ : inR (0)) m20 hw
          · have hw := hw.2 hc
            refine q_iconst F dX12_scan_60 ?_
            refine q_istore (lv' := [(0, .ref (E.1 1000)), (1, iV x1), (2, iV x2), (4, iV x2), (5, iV 1)]) F [1, 2, 3, 4, 0] dX12_scan_61 (q_n hN (by decide)) rfl ?_
            obtain ⟨k23, hw⟩ := hw
            obtain ⟨z21, e22⟩ := ex1 (x2 + 2)
            have hw := hw z21 e22
            have hz21 : inR z21 := by rw [e22]; exact k23
            refine q_iinc (lv' := [(0, .ref (E.1 1000)), (1, iV x1), (2, iV x2), (4, iV z21), (5, iV 1)]) F 3 [1, 2, 3, 0, 4] dX12_scan_63 rfl (q_n hN (by decide)) e22.symm rfl ?_
            refine q_goto F 181 dX12_scan_66 (by decide) ?_
            exact bX12_scan_181 F hR hN hret hK6 x1 x2 z21 1 J18 hx1 hx2 hz21 (⟨by decide, by decide⟩ : inR (1)) m20 hw
      · have hw := hw.2 hc
        obtain ⟨k26, hw⟩ := hw
        obtain ⟨z24, e25⟩ := ex1 (x2 + 1)
        have hw := hw z24 e25
        have hz24 : inR z24 := by rw [e25]; exact k26
        refine q_iinc (lv' := [(0, .ref (E.1 1000)), (1, iV x1), (2, iV z24)]) F 2 [1, 2, 0] dX12_scan_30 rfl (q_n hN (by decide)) e25.symm rfl ?_
        refine q_goto F 10 dX12_scan_33 (by decide) ?_
        exact ih x1 z24 J9 hx1 hz24 m11 hw
set_option maxHeartbeats 4000000 in
set_option maxRecDepth 100000 in
theorem bX12_scan_6 {X : xC} {E : cE} (F : mF X E RX12 cX12_scan bG) (hR : X.1.2.2.2 = rmK 3 (0) (0)) (hN : X.2.2.1.2.2.2 = 6) {Q : cI → Prop} (hret : rVM X E cX12_scan (0) (0) Q)   : ∀ n6 : Nat, ∀ (x1 : Int) (x2 : Int) (x3 : Int) (J : cI), inR x1 → inR x2 → inR x3 → mM J → wX12_scan_6 Q n6 x1 x2 x3 J → cW X (0) (0) 6 [(0, .ref (E.1 1000)), (1, iV x1), (2, iV x2), (3, iV x3)] [] (gw E.1 mIds (mef E J) ++ []) := by
  intro n6
  induction n6 with
  | zero => intro x1 x2 x3 J hx1 hx2 hx3 hm hw; exact hw.elim
  | succ n6 ih =>
    intro x1 x2 x3 J hx1 hx2 hx3 hm hw
    change wbX12_scan_6 Q (wX12_scan_6 Q n6) x1 x2 x3 J at hw
    unfold wbX12_scan_6 at hw
    refine q_iload_n F 3 dX12_scan_6 rfl rfl ?_
    refine q_if_eq F hx3 224 dX12_scan_7 (by decide) (fun hc => ?_) (fun hc => ?_)
    · have hw := hw.1 hc
      exact hret _ _ _ _ dX12_scan_224 hm hw
    · have hw := hw.2 hc
      refine q_lv [0, 1, 2] rfl ?_
      obtain ⟨n1, hw⟩ := hw
      exact bX12_scan_10 F hR hN hret ih n1 x1 x2 J hx1 hx2 hm hw
set_option maxHeartbeats 4000000 in
set_option maxRecDepth 100000 in
theorem kcX12_scan {l : Launch} {D : va_G} {E : cE} {J : cI} (hm : mM J)  {Q : cI → Prop} (hw : wX12_scan  J Q) : gM l D E mIds yX12_scan vX12_scan (rmK 3 (0) (0)) [.ref (E.1 1000)] (mef E J) (mef E) (oV Q) (0) (0) := by
  unfold wX12_scan at hw
  refine k_ofW (own := RX12) (cc := cX12_scan) (maxL := 6) (ret := none) (lv := [(0, .ref (E.1 1000))]) (by decide) rfl rfl (Nat.le_of_ble_eq_true rfl) rfl ?_
  intro X hl hR hN hD F K
  subst hl; subst hD
  have hret := mk_rVM (Q := Q) F K
  refine q_iconst F dX12_scan_0 ?_
  refine q_istore_n (lv' := [(0, .ref (E.1 1000)), (1, iV 0)]) F [1, 0] dX12_scan_1 rfl (q_n hN (by decide)) rfl ?_
  refine q_iconst F dX12_scan_2 ?_
  refine q_istore_n (lv' := [(0, .ref (E.1 1000)), (1, iV 0), (2, iV 0)]) F [1, 2, 0] dX12_scan_3 rfl (q_n hN (by decide)) rfl ?_
  refine q_iconst F dX12_scan_4 ?_
  refine q_istore_n (lv' := [(0, .ref (E.1 1000)), (1, iV 0), (2, iV 0), (3, iV 1)]) F [1, 2, 3, 0] dX12_scan_5 rfl (q_n hN (by decide)) rfl ?_
  obtain ⟨n1, hw⟩ := hw
  exact bX12_scan_6 F hR hN hret n1 0 0 1 J (⟨by decide, by decide⟩ : inR (0)) (⟨by decide, by decide⟩ : inR (0)) (⟨by decide, by decide⟩ : inR (1)) hm hw
theorem ydX12_is : yX12_is.cls = RX12 ∧ yX12_is.cls ≠ "java/lang/invoke/MethodHandle" ∧ yX12_is.cls ≠ "java/lang/invoke/VarHandle" ∧ (parseMethodDescriptor yX12_is.desc).map (fun d => d.parameters.length) = some 2 := by decide +kernel
def vX12_is : List Cond := Cond.code yX12_is cX12_is 5 (some .boolean) :: bG
set_option maxHeartbeats 4000000 in
set_option maxRecDepth 100000 in
theorem bX12_is_39 {X : xC} {E : cE} (F : mF X E RX12 cX12_is bG) (hR : X.1.2.2.2 = rmK 5 (0) (0)) (hN : X.2.2.1.2.2.2 = 5) {Q : Int → cI → Prop} (hret : rZM X E cX12_is (0) (0) Q) {a1 : Int} {a2 : Nat} (ha1 : inR a1) (ha2 : a2 < 15) : ∀ n39 : Nat, ∀ (x3 : Int) (x4 : Int) (J : cI), inR x3 → inR x4 → mM J → wX12_is_39 Q a1 a2 n39 x3 x4 J → cW X (0) (0) 39 [(0, .ref (E.1 1000)), (1, iV a1), (2, .ref (E.2.1 1 a2)), (3, iV x3), (4, iV x4)] [] (gw E.1 mIds (mef E J) ++ []) := by
  intro n39
  induction n39 with
  | zero => intro x3 x4 J hx3 hx4 hm hw; exact hw.elim
  | succ n39 ih =>
    intro x3 x4 J hx3 hx4 hm hw
    change wbX12_is_39 Q a1 a2 (wX12_is_39 Q a1 a2 n39) x3 x4 J at hw
    unfold wbX12_is_39 at hw
    refine q_iload F 4 dX12_is_39 rfl ?_
    refine q_aload_n F 2 dX12_is_41 rfl rfl ?_
    refine q_slen F hR (by omega) ha2 wd958 dX12_is_42 (Nat.le_of_ble_eq_true rfl) ?_
    refine q_icmp_ge F hx4 (txN_in ha2) 87 dX12_is_45 (by decide) (fun hc => ?_) (fun hc => ?_)
    · have hw := hw.1 hc
      refine q_iload_n F 3 dX12_is_87 rfl rfl ?_
      obtain ⟨k1, hw⟩ := hw
      exact hret _ _ _ _ _ dX12_is_88 k1 hx3 hm hw
    · have hw := hw.2 hc
      refine q_iload_n F 3 dX12_is_48 rfl rfl ?_
      refine q_if_eq F hx3 87 dX12_is_49 (by decide) (fun hc => ?_) (fun hc => ?_)
      · have hw := hw.1 hc
        refine q_iload_n F 3 dX12_is_87 rfl rfl ?_
        obtain ⟨k2, hw⟩ := hw
        exact hret _ _ _ _ _ dX12_is_88 k2 hx3 hm hw
      · have hw := hw.2 hc
        refine q_aload_n F 0 dX12_is_52 rfl rfl ?_
        refine s_g_tape F ib12 wd874 dX12_is_53 ?_
        refine q_aload_n F 0 dX12_is_56 rfl rfl ?_
        refine s_g_froms F ib12 wd878 dX12_is_57 ?_
        refine q_iload_n F 1 dX12_is_60 rfl rfl ?_
        obtain ⟨k3, hw⟩ := hw
        refine s_ald F 1601 kM_froms k3 (by decide) dX12_is_61 ?_
        refine q_iload F 4 dX12_is_62 rfl ?_
        refine q_iadd F dX12_is_64 ?_
        obtain ⟨k4, hw⟩ := hw
        refine s_ald F 1600 kM_tape k4 (by decide) dX12_is_65 ?_
        refine q_aload_n F 2 dX12_is_66 rfl rfl ?_
        refine q_iload F 4 dX12_is_67 rfl ?_
        obtain ⟨k5, hw⟩ := hw
        refine q_sch F hR (by omega) ha2 k5 wd959 dX12_is_69 (Nat.le_of_ble_eq_true rfl) ?_
        refine q_icmp_ne F (hm _ _) (txC_in _ _) 79 dX12_is_72 (by decide) (fun hc => ?_) (fun hc => ?_)
        · have hw := hw.1 hc
          refine q_iconst F dX12_is_79 ?_
          refine q_istore_n (lv' := [(0, .ref (E.1 1000)), (1, iV a1), (2, .ref (E.2.1 1 a2)), (3, iV 0), (4, iV x4)]) F [1, 2, 3, 0, 4] dX12_is_80 rfl (q_n hN (by decide)) rfl ?_
          obtain ⟨k8, hw⟩ := hw
          obtain ⟨z6, e7⟩ := ex1 (x4 + 1)
          have hw := hw z6 e7
          have hz6 : inR z6 := by rw [e7]; exact k8
          refine q_iinc (lv' := [(0, .ref (E.1 1000)), (1, iV a1), (2, .ref (E.2.1 1 a2)), (3, iV 0), (4, iV z6)]) F 4 [1, 2, 3, 4, 0] dX12_is_81 rfl (q_n hN (by decide)) e7.symm rfl ?_
          refine q_goto F 39 dX12_is_84 (by decide) ?_
          exact ih 0 z6 J (⟨by decide, by decide⟩ : inR (0)) hz6 hm hw
        · have hw := hw.2 hc
          refine q_iconst F dX12_is_75 ?_
          refine q_goto F 80 dX12_is_76 (by decide) ?_
          refine q_istore_n (lv' := [(0, .ref (E.1 1000)), (1, iV a1), (2, .ref (E.2.1 1 a2)), (3, iV 1), (4, iV x4)]) F [1, 2, 3, 0, 4] dX12_is_80 rfl (q_n hN (by decide)) rfl ?_
          obtain ⟨k11, hw⟩ := hw
          obtain ⟨z9, e10⟩ := ex1 (x4 + 1)
          have hw := hw z9 e10
          have hz9 : inR z9 := by rw [e10]; exact k11
          refine q_iinc (lv' := [(0, .ref (E.1 1000)), (1, iV a1), (2, .ref (E.2.1 1 a2)), (3, iV 1), (4, iV z9)]) F 4 [1, 2, 3, 4, 0] dX12_is_81 rfl (q_n hN (by decide)) e10.symm rfl ?_
          refine q_goto F 39 dX12_is_84 (by decide) ?_
          exact ih 1 z9 J (⟨by decide, by decide⟩ : inR (1)) hz9 hm hw
set_option maxHeartbeats 4000000 in
set_option maxRecDepth 100000 in
theorem bX12_is_35 {X : xC} {E : cE} (F : mF X E RX12 cX12_is bG) (hR : X.1.2.2.2 = rmK 5 (0) (0)) (hN : X.2.2.1.2.2.2 = 5) {Q : Int → cI → Prop} (hret : rZM X E cX12_is (0) (0) Q) {a1 : Int} {a2 : Nat} (ha1 : inR a1) (ha2 : a2 < 15) : ∀ (y0 : Int) (J : cI), inR y0 → mM J → wX12_is_35 Q a1 a2 y0 J → cW X (0) (0) 35 [(0, .ref (E.1 1000)), (1, iV a1), (2, .ref (E.2.1 1 a2))] [iV y0] (gw E.1 mIds (mef E J) ++ []) := by
  intro y0 J hy0 hm hw
  unfold wX12_is_35 at hw
  refine q_istore_n (lv' := [(0, .ref (E.1 1000)), (1, iV a1), (2, .ref (E.2.1 1 a2)), (3, iV y0)]) F [1, 2, 3, 0] dX12_is_35 rfl (q_n hN (by decide)) rfl ?_
  refine q_iconst F dX12_is_36 ?_
  refine q_istore (lv' := [(0, .ref (E.1 1000)), (1, iV a1), (2, .ref (E.2.1 1 a2)), (3, iV y0), (4, iV 0)]) F [1, 2, 3, 4, 0] dX12_is_37 (q_n hN (by decide)) rfl ?_
  obtain ⟨n1, hw⟩ := hw
  exact bX12_is_39 F hR hN hret ha1 ha2 n1 y0 0 J hy0 (⟨by decide, by decide⟩ : inR (0)) hm hw
set_option maxHeartbeats 4000000 in
set_option maxRecDepth 100000 in
theorem bX12_is_34 {X : xC} {E : cE} (F : mF X E RX12 cX12_is bG) (hR : X.1.2.2.2 = rmK 5 (0) (0)) (hN : X.2.2.1.2.2.2 = 5) {Q : Int → cI → Prop} (hret : rZM X E cX12_is (0) (0) Q) {a1 : Int} {a2 : Nat} (ha1 : inR a1) (ha2 : a2 < 15) : ∀ (J : cI), mM J → wX12_is_34 Q a1 a2 J → cW X (0) (0) 34 [(0, .ref (E.1 1000)), (1, iV a1), (2, .ref (E.2.1 1 a2))] [] (gw E.1 mIds (mef E J) ++ []) := by
  intro J hm hw
  unfold wX12_is_34 at hw
  refine q_iconst F dX12_is_34 ?_
  exact bX12_is_35 F hR hN hret ha1 ha2 0 J (⟨by decide, by decide⟩ : inR (0)) hm hw
set_option maxHeartbeats 4000000 in
set_option maxRecDepth 100000 in
theorem kcX12_is {l : Launch} {D : va_G} {E : cE} {a1 : Int} {a2 : Nat} {J : cI} (hm : mM J) (ha1 : inR a1) (ha2 : a2 < 15) {Q : Int → cI → Prop} (hw : wX12_is a1 a2 J Q) : gM l D E mIds yX12_is vX12_is (rmK 5 (0) (0)) [.ref (E.1 1000), iV a1, .ref (E.2.1 1 a2)] (mef E J) (mef E) (oI Q) (0) (0) := by
  unfold wX12_is at hw
  refine k_ofW (own := RX12) (cc := cX12_is) (maxL := 5) (ret := (some .boolean)) (lv := [(0, .ref (E.1 1000)), (1, iV a1), (2, .ref (E.2.1 1 a2))]) (by decide) rfl rfl (Nat.le_of_ble_eq_true rfl) rfl ?_
  intro X hl hR hN hD F K
  subst hl; subst hD
  have hret := mk_rZM (Q := Q) F K
  refine q_aload_n F 0 dX12_is_0 rfl rfl ?_
  refine s_g_kinds F ib12 wd877 dX12_is_1 ?_
  refine q_iload_n F 1 dX12_is_4 rfl rfl ?_
  obtain ⟨k1, hw⟩ := hw
  refine s_ald F 1601 kM_kinds k1 (by decide) dX12_is_5 ?_
  refine q_iconst F dX12_is_6 ?_
  refine q_icmp_ne F (hm _ _) (⟨by decide, by decide⟩ : inR (2)) 34 dX12_is_7 (by decide) (fun hc => ?_) (fun hc => ?_)
  · have hw := hw.1 hc
    exact bX12_is_34 F hR hN hret ha1 ha2 J hm hw
  · have hw := hw.2 hc
    refine q_aload_n F 0 dX12_is_10 rfl rfl ?_
    refine s_g_ends F ib12 wd879 dX12_is_11 ?_
    refine q_iload_n F 1 dX12_is_14 rfl rfl ?_
    obtain ⟨k2, hw⟩ := hw
    refine s_ald F 1601 kM_ends k2 (by decide) dX12_is_15 ?_
    refine q_aload_n F 0 dX12_is_16 rfl rfl ?_
    refine s_g_froms F ib12 wd878 dX12_is_17 ?_
    refine q_iload_n F 1 dX12_is_20 rfl rfl ?_
    obtain ⟨k3, hw⟩ := hw
    refine s_ald F 1601 kM_froms k3 (by decide) dX12_is_21 ?_
    refine q_isub F dX12_is_22 ?_
    refine q_aload_n F 2 dX12_is_23 rfl rfl ?_
    refine q_slen F hR (by omega) ha2 wd958 dX12_is_24 (Nat.le_of_ble_eq_true rfl) ?_
    obtain ⟨k4, hw⟩ := hw
    refine q_icmp_ne F k4 (txN_in ha2) 34 dX12_is_27 (by decide) (fun hc => ?_) (fun hc => ?_)
    · have hw := hw.1 hc
      exact bX12_is_34 F hR hN hret ha1 ha2 J hm hw
    · have hw := hw.2 hc
      refine q_iconst F dX12_is_30 ?_
      refine q_goto F 35 dX12_is_31 (by decide) ?_
      exact bX12_is_35 F hR hN hret ha1 ha2 1 J (⟨by decide, by decide⟩ : inR (1)) hm hw
theorem ydX12_wordAt : yX12_wordAt.cls = RX12 ∧ yX12_wordAt.cls ≠ "java/lang/invoke/MethodHandle" ∧ yX12_wordAt.cls ≠ "java/lang/invoke/VarHandle" ∧ (parseMethodDescriptor yX12_wordAt.desc).map (fun d => d.parameters.length) = some 1 := by decide +kernel
def vX12_wordAt : List Cond := Cond.code yX12_wordAt cX12_wordAt 4 (some .int) :: bG
set_option maxHeartbeats 4000000 in
set_option maxRecDepth 100000 in
theorem bX12_wordAt_4 {X : xC} {E : cE} (F : mF X E RX12 cX12_wordAt bG) (hR : X.1.2.2.2 = rmK 6 (0) (0)) (hN : X.2.2.1.2.2.2 = 4) {Q : Int → cI → Prop} (hret : rIM X E cX12_wordAt (0) (0) Q) {a1 : Int} (ha1 : inR a1) : ∀ n4 : Nat, ∀ (x2 : Int) (x3 : Int) (J : cI), inR x2 → inR x3 → mM J → wX12_wordAt_4 Q a1 n4 x2 x3 J → cW X (0) (0) 4 [(0, .ref (E.1 1000)), (1, iV a1), (2, iV x2), (3, iV x3)] [] (gw E.1 mIds (mef E J) ++ []) := by
  intro n4
  induction n4 with
  | zero => intro x2 x3 J hx2 hx3 hm hw; exact hw.elim
  | succ n4 ih =>
    intro x2 x3 J hx2 hx3 hm hw
    change wbX12_wordAt_4 Q a1 (wX12_wordAt_4 Q a1 n4) x2 x3 J at hw
    unfold wbX12_wordAt_4 at hw
    refine q_iload_n F 3 dX12_wordAt_4 rfl rfl ?_
    refine q_gs F (sZ_WORDS F) wd969 rfl dX12_wordAt_5 ?_
    refine q_lenWORDS F dX12_wordAt_8 ?_
    refine q_icmp_ge F hx3 (⟨by decide, by decide⟩ : inR (14)) 33 dX12_wordAt_9 (by decide) (fun hc => ?_) (fun hc => ?_)
    · have hw := hw.1 hc
      refine q_iload_n F 2 dX12_wordAt_33 rfl rfl ?_
      exact hret _ _ _ _ _ dX12_wordAt_34 hx2 hm hw
    · have hw := hw.2 hc
      refine q_aload_n F 0 dX12_wordAt_12 rfl rfl ?_
      refine q_iload_n F 1 dX12_wordAt_13 rfl rfl ?_
      refine q_gs F (sZ_WORDS F) wd969 rfl dX12_wordAt_14 ?_
      refine q_iload_n F 3 dX12_wordAt_17 rfl rfl ?_
      obtain ⟨k1, hw⟩ := hw
      refine q_ldWORDS F k1 dX12_wordAt_18 ?_
      refine q_ViM F (kcX12_is hm ha1 (tN15 k1) hw) (by decide) meObj (ci := 10) rfl (bV wd955 wd956 wd1291 wd13 wd957) rfl ⟨rfl, rfl⟩ ydX12_is (rmK_le hR (by omega) (by decide)) (av := [iV a1, .ref (E.2.1 1 (Int.toNat (x3)))]) rfl rfl (Nat.le_of_ble_eq_true rfl) dX12_wordAt_19 (rmK_cs hR (by omega) (by omega)) (fun r2 J3 h4 m5 hw => ?_)
      refine q_if_eq F h4 27 dX12_wordAt_22 (by decide) (fun hc => ?_) (fun hc => ?_)
      · have hw := hw.1 hc
        obtain ⟨k8, hw⟩ := hw
        obtain ⟨z6, e7⟩ := ex1 (x3 + 1)
        have hw := hw z6 e7
        have hz6 : inR z6 := by rw [e7]; exact k8
        refine q_iinc (lv' := [(0, .ref (E.1 1000)), (1, iV a1), (2, iV x2), (3, iV z6)]) F 3 [1, 2, 3, 0] dX12_wordAt_27 rfl (q_n hN (by decide)) e7.symm rfl ?_
        refine q_goto F 4 dX12_wordAt_30 (by decide) ?_
        exact ih x2 z6 J3 hx2 hz6 m5 hw
      · have hw := hw.2 hc
        refine q_iload_n F 3 dX12_wordAt_25 rfl rfl ?_
        refine q_istore_n (lv' := [(0, .ref (E.1 1000)), (1, iV a1), (2, iV x3), (3, iV x3)]) F [1, 2, 0, 3] dX12_wordAt_26 rfl (q_n hN (by decide)) rfl ?_
        obtain ⟨k11, hw⟩ := hw
        obtain ⟨z9, e10⟩ := ex1 (x3 + 1)
        have hw := hw z9 e10
        have hz9 : inR z9 := by rw [e10]; exact k11
        refine q_iinc (lv' := [(0, .ref (E.1 1000)), (1, iV a1), (2, iV x3), (3, iV z9)]) F 3 [1, 2, 3, 0] dX12_wordAt_27 rfl (q_n hN (by decide)) e10.symm rfl ?_
        refine q_goto F 4 dX12_wordAt_30 (by decide) ?_
        exact ih x3 z9 J3 hx3 hz9 m5 hw
set_option maxHeartbeats 4000000 in
set_option maxRecDepth 100000 in
theorem kcX12_wordAt {l : Launch} {D : va_G} {E : cE} {a1 : Int} {J : cI} (hm : mM J) (ha1 : inR a1) {Q : Int → cI → Prop} (hw : wX12_wordAt a1 J Q) : gM l D E mIds yX12_wordAt vX12_wordAt (rmK 6 (0) (0)) [.ref (E.1 1000), iV a1] (mef E J) (mef E) (oI Q) (0) (0) := by
  unfold wX12_wordAt at hw
  refine k_ofW (own := RX12) (cc := cX12_wordAt) (maxL := 4) (ret := (some .int)) (lv := [(0, .ref (E.1 1000)), (1, iV a1)]) (by decide) rfl rfl (Nat.le_of_ble_eq_true rfl) rfl ?_
  intro X hl hR hN hD F K
  subst hl; subst hD
  have hret := mk_rIM (Q := Q) F K
  refine q_iconst F dX12_wordAt_0 ?_
  refine q_istore_n (lv' := [(0, .ref (E.1 1000)), (1, iV a1), (2, iV (-1))]) F [1, 2, 0] dX12_wordAt_1 rfl (q_n hN (by decide)) rfl ?_
  refine q_iconst F dX12_wordAt_2 ?_
  refine q_istore_n (lv' := [(0, .ref (E.1 1000)), (1, iV a1), (2, iV (-1)), (3, iV 0)]) F [1, 2, 3, 0] dX12_wordAt_3 rfl (q_n hN (by decide)) rfl ?_
  obtain ⟨n1, hw⟩ := hw
  exact bX12_wordAt_4 F hR hN hret ha1 n1 (-1) 0 J (⟨by decide, by decide⟩ : inR (-1)) (⟨by decide, by decide⟩ : inR (0)) hm hw
theorem ydX12_numberAt : yX12_numberAt.cls = RX12 ∧ yX12_numberAt.cls ≠ "java/lang/invoke/MethodHandle" ∧ yX12_numberAt.cls ≠ "java/lang/invoke/VarHandle" ∧ (parseMethodDescriptor yX12_numberAt.desc).map (fun d => d.parameters.length) = some 1 := by decide +kernel
def vX12_numberAt : List Cond := Cond.code yX12_numberAt cX12_numberAt 4 (some .int) :: bG
set_option maxHeartbeats 4000000 in
set_option maxRecDepth 100000 in
theorem bX12_numberAt_9 {X : xC} {E : cE} (F : mF X E RX12 cX12_numberAt bG) (hR : X.1.2.2.2 = rmK 1 (0) (0)) (hN : X.2.2.1.2.2.2 = 4) {Q : Int → cI → Prop} (hret : rIM X E cX12_numberAt (0) (0) Q) {a1 : Int} (ha1 : inR a1) : ∀ n9 : Nat, ∀ (x2 : Int) (x3 : Int) (J : cI), inR x2 → inR x3 → mM J → wX12_numberAt_9 Q a1 n9 x2 x3 J → cW X (0) (0) 9 [(0, .ref (E.1 1000)), (1, iV a1), (2, iV x2), (3, iV x3)] [] (gw E.1 mIds (mef E J) ++ []) := by
  intro n9
  induction n9 with
  | zero => intro x2 x3 J hx2 hx3 hm hw; exact hw.elim
  | succ n9 ih =>
    intro x2 x3 J hx2 hx3 hm hw
    change wbX12_numberAt_9 Q a1 (wX12_numberAt_9 Q a1 n9) x2 x3 J at hw
    unfold wbX12_numberAt_9 at hw
    refine q_iload_n F 3 dX12_numberAt_9 rfl rfl ?_
    refine q_aload_n F 0 dX12_numberAt_10 rfl rfl ?_
    refine s_g_ends F ib12 wd879 dX12_numberAt_11 ?_
    refine q_iload_n F 1 dX12_numberAt_14 rfl rfl ?_
    obtain ⟨k1, hw⟩ := hw
    refine s_ald F 1601 kM_ends k1 (by decide) dX12_numberAt_15 ?_
    refine q_icmp_ge F hx3 (hm _ _) 40 dX12_numberAt_16 (by decide) (fun hc => ?_) (fun hc => ?_)
    · have hw := hw.1 hc
      refine q_iload_n F 2 dX12_numberAt_40 rfl rfl ?_
      exact hret _ _ _ _ _ dX12_numberAt_41 hx2 hm hw
    · have hw := hw.2 hc
      refine q_bipush F dX12_numberAt_19 (by decide) ?_
      refine q_iload_n F 2 dX12_numberAt_21 rfl rfl ?_
      refine q_imul F dX12_numberAt_22 ?_
      refine q_aload_n F 0 dX12_numberAt_23 rfl rfl ?_
      refine s_g_tape F ib12 wd874 dX12_numberAt_24 ?_
      refine q_iload_n F 3 dX12_numberAt_27 rfl rfl ?_
      obtain ⟨k2, hw⟩ := hw
      refine s_ald F 1600 kM_tape k2 (by decide) dX12_numberAt_28 ?_
      refine q_iadd F dX12_numberAt_29 ?_
      refine q_bipush F dX12_numberAt_30 (by decide) ?_
      refine q_isub F dX12_numberAt_32 ?_
      obtain ⟨k3, hw⟩ := hw
      obtain ⟨z4, e5⟩ := ex1 ((((10 * x2) + (J 1001 x3)) - 48))
      have hw := hw z4 e5
      have hz4 : inR z4 := by rw [e5]; exact k3
      refine q_top e5 ?_
      refine q_istore_n (lv' := [(0, .ref (E.1 1000)), (1, iV a1), (2, iV z4), (3, iV x3)]) F [1, 2, 0, 3] dX12_numberAt_33 rfl (q_n hN (by decide)) rfl ?_
      obtain ⟨k8, hw⟩ := hw
      obtain ⟨z6, e7⟩ := ex1 (x3 + 1)
      have hw := hw z6 e7
      have hz6 : inR z6 := by rw [e7]; exact k8
      refine q_iinc (lv' := [(0, .ref (E.1 1000)), (1, iV a1), (2, iV z4), (3, iV z6)]) F 3 [1, 2, 3, 0] dX12_numberAt_34 rfl (q_n hN (by decide)) e7.symm rfl ?_
      refine q_goto F 9 dX12_numberAt_37 (by decide) ?_
      exact ih z4 z6 J hz4 hz6 hm hw
set_option maxHeartbeats 4000000 in
set_option maxRecDepth 100000 in
theorem kcX12_numberAt {l : Launch} {D : va_G} {E : cE} {a1 : Int} {J : cI} (hm : mM J) (ha1 : inR a1) {Q : Int → cI → Prop} (hw : wX12_numberAt a1 J Q) : gM l D E mIds yX12_numberAt vX12_numberAt (rmK 1 (0) (0)) [.ref (E.1 1000), iV a1] (mef E J) (mef E) (oI Q) (0) (0) := by
  unfold wX12_numberAt at hw
  refine k_ofW (own := RX12) (cc := cX12_numberAt) (maxL := 4) (ret := (some .int)) (lv := [(0, .ref (E.1 1000)), (1, iV a1)]) (by decide) rfl rfl (Nat.le_of_ble_eq_true rfl) rfl ?_
  intro X hl hR hN hD F K
  subst hl; subst hD
  have hret := mk_rIM (Q := Q) F K
  refine q_iconst F dX12_numberAt_0 ?_
  refine q_istore_n (lv' := [(0, .ref (E.1 1000)), (1, iV a1), (2, iV 0)]) F [1, 2, 0] dX12_numberAt_1 rfl (q_n hN (by decide)) rfl ?_
  refine q_aload_n F 0 dX12_numberAt_2 rfl rfl ?_
  refine s_g_froms F ib12 wd878 dX12_numberAt_3 ?_
  refine q_iload_n F 1 dX12_numberAt_6 rfl rfl ?_
  obtain ⟨k1, hw⟩ := hw
  refine s_ald F 1601 kM_froms k1 (by decide) dX12_numberAt_7 ?_
  obtain ⟨z2, e3⟩ := ex1 ((J 1005 a1))
  have hw := hw z2 e3
  have hz2 : inR z2 := by rw [e3]; exact (hm _ _)
  refine q_top e3 ?_
  refine q_istore_n (lv' := [(0, .ref (E.1 1000)), (1, iV a1), (2, iV 0), (3, iV z2)]) F [1, 2, 3, 0] dX12_numberAt_8 rfl (q_n hN (by decide)) rfl ?_
  obtain ⟨n4, hw⟩ := hw
  exact bX12_numberAt_9 F hR hN hret ha1 n4 0 z2 J (⟨by decide, by decide⟩ : inR (0)) hz2 hm hw
theorem ydX12_takes : yX12_takes.cls = RX12 ∧ yX12_takes.cls ≠ "java/lang/invoke/MethodHandle" ∧ yX12_takes.cls ≠ "java/lang/invoke/VarHandle" ∧ (parseMethodDescriptor yX12_takes.desc).map (fun d => d.parameters.length) = some 1 := by decide +kernel
def vX12_takes : List Cond := Cond.code yX12_takes cX12_takes 2 (some .boolean) :: bG
set_option maxHeartbeats 4000000 in
set_option maxRecDepth 100000 in
theorem kcX12_takes {l : Launch} {D : va_G} {E : cE} {a1 : Int} {J : cI} (hm : mM J) (ha1 : inR a1) {Q : Int → cI → Prop} (hw : wX12_takes a1 J Q) : gM l D E mIds yX12_takes vX12_takes (rmK 1 (0) (0)) [.ref (E.1 1000), iV a1] (mef E J) (mef E) (oI Q) (0) (0) := by
  unfold wX12_takes at hw
  refine k_ofW (own := RX12) (cc := cX12_takes) (maxL := 2) (ret := (some .boolean)) (lv := [(0, .ref (E.1 1000)), (1, iV a1)]) (by decide) rfl rfl (Nat.le_of_ble_eq_true rfl) rfl ?_
  intro X hl hR hN hD F K
  subst hl; subst hD
  have hret := mk_rZM (Q := Q) F K
  refine q_aload_n F 0 dX12_takes_0 rfl rfl ?_
  refine s_g_kinds F ib12 wd877 dX12_takes_1 ?_
  refine q_aload_n F 0 dX12_takes_4 rfl rfl ?_
  refine s_g_at F ib12 wd880 dX12_takes_5 ?_
  obtain ⟨k1, hw⟩ := hw
  refine s_ald F 1601 kM_kinds k1 (by decide) dX12_takes_8 ?_
  refine q_iload_n F 1 dX12_takes_9 rfl rfl ?_
  refine q_icmp_eq F (hm _ _) ha1 15 dX12_takes_10 (by decide) (fun hc => ?_) (fun hc => ?_)
  · have hw := hw.1 hc
    refine q_aload_n F 0 dX12_takes_15 rfl rfl ?_
    refine q_dup F dX12_takes_16 rfl ?_
    refine s_g_at F ib12 wd880 dX12_takes_17 ?_
    refine q_iconst F dX12_takes_20 ?_
    refine q_iadd F dX12_takes_21 ?_
    obtain ⟨k2, hw⟩ := hw
    obtain ⟨J3, e4⟩ := ex1 (up2 J 1000 7 (((J 1000 7) + 1)))
    have hw := hw J3 e4
    have m5 : mM J3 := mM_I hm e4 k2
    refine s_p_at F ib12 wd880 e4 dX12_takes_22 ?_
    refine q_iconst F dX12_takes_25 ?_
    exact hret _ _ _ _ _ dX12_takes_26 (Or.inr rfl) (⟨by decide, by decide⟩ : inR (1)) m5 hw
  · have hw := hw.2 hc
    refine q_iconst F dX12_takes_13 ?_
    exact hret _ _ _ _ _ dX12_takes_14 (Or.inl rfl) (⟨by decide, by decide⟩ : inR (0)) hm hw
theorem ydX12_ruleForm : yX12_ruleForm.cls = RX12 ∧ yX12_ruleForm.cls ≠ "java/lang/invoke/MethodHandle" ∧ yX12_ruleForm.cls ≠ "java/lang/invoke/VarHandle" ∧ (parseMethodDescriptor yX12_ruleForm.desc).map (fun d => d.parameters.length) = some 0 := by decide +kernel
def vX12_ruleForm : List Cond := Cond.code yX12_ruleForm cX12_ruleForm 3 (some .boolean) :: bG
set_option maxHeartbeats 4000000 in
set_option maxRecDepth 100000 in
theorem bX12_ruleForm_94 {X : xC} {E : cE} (F : mF X E RX12 cX12_ruleForm bG) (hR : X.1.2.2.2 = rmK 7 (0) (0)) (hN : X.2.2.1.2.2.2 = 3) {Q : Int → cI → Prop} (hret : rZM X E cX12_ruleForm (0) (0) Q)   : ∀ n94 : Nat, ∀ (J : cI), mM J → wX12_ruleForm_94 Q n94 J → cW X (0) (0) 94 [(0, .ref (E.1 1000))] [] (gw E.1 mIds (mef E J) ++ []) := by
  intro n94
  induction n94 with
  | zero => intro J hm hw; exact hw.elim
  | succ n94 ih =>
    intro J hm hw
    change wbX12_ruleForm_94 Q (wX12_ruleForm_94 Q n94) J at hw
    unfold wbX12_ruleForm_94 at hw
    refine q_aload_n F 0 dX12_ruleForm_94 rfl rfl ?_
    refine s_g_kinds F ib12 wd877 dX12_ruleForm_95 ?_
    refine q_aload_n F 0 dX12_ruleForm_98 rfl rfl ?_
    refine s_g_at F ib12 wd880 dX12_ruleForm_99 ?_
    obtain ⟨k1, hw⟩ := hw
    refine s_ald F 1601 kM_kinds k1 (by decide) dX12_ruleForm_102 ?_
    refine q_iconst F dX12_ruleForm_103 ?_
    refine q_icmp_ne F (hm _ _) (⟨by decide, by decide⟩ : inR (1)) 120 dX12_ruleForm_104 (by decide) (fun hc => ?_) (fun hc => ?_)
    · have hw := hw.1 hc
      refine q_iconst F dX12_ruleForm_120 ?_
      exact hret _ _ _ _ _ dX12_ruleForm_121 (Or.inr rfl) (⟨by decide, by decide⟩ : inR (1)) hm hw
    · have hw := hw.2 hc
      refine q_aload_n F 0 dX12_ruleForm_107 rfl rfl ?_
      refine q_dup F dX12_ruleForm_108 rfl ?_
      refine s_g_at F ib12 wd880 dX12_ruleForm_109 ?_
      refine q_iconst F dX12_ruleForm_112 ?_
      refine q_iadd F dX12_ruleForm_113 ?_
      obtain ⟨k2, hw⟩ := hw
      obtain ⟨J3, e4⟩ := ex1 (up2 J 1000 7 (((J 1000 7) + 1)))
      have hw := hw J3 e4
      have m5 : mM J3 := mM_I hm e4 k2
      refine s_p_at F ib12 wd880 e4 dX12_ruleForm_114 ?_
      refine q_goto F 94 dX12_ruleForm_117 (by decide) ?_
      exact ih J3 m5 hw
set_option maxHeartbeats 4000000 in
set_option maxRecDepth 100000 in
theorem bX12_ruleForm_28 {X : xC} {E : cE} (F : mF X E RX12 cX12_ruleForm bG) (hR : X.1.2.2.2 = rmK 7 (0) (0)) (hN : X.2.2.1.2.2.2 = 3) {Q : Int → cI → Prop} (hret : rZM X E cX12_ruleForm (0) (0) Q)   : ∀ n28 : Nat, ∀ (x1 : Int) (x2 : Int) (J : cI), inR x1 → inR x2 → mM J → wX12_ruleForm_28 Q n28 x1 x2 J → cW X (0) (0) 28 [(0, .ref (E.1 1000)), (1, iV x1), (2, iV x2)] [] (gw E.1 mIds (mef E J) ++ []) := by
  intro n28
  induction n28 with
  | zero => intro x1 x2 J hx1 hx2 hm hw; exact hw.elim
  | succ n28 ih =>
    intro x1 x2 J hx1 hx2 hm hw
    change wbX12_ruleForm_28 Q (wX12_ruleForm_28 Q n28) x1 x2 J at hw
    unfold wbX12_ruleForm_28 at hw
    refine q_iload_n F 2 dX12_ruleForm_28 rfl rfl ?_
    refine q_gs F (sZ_NUMBERS F) wd971 rfl dX12_ruleForm_29 ?_
    refine q_iload_n F 1 dX12_ruleForm_32 rfl rfl ?_
    obtain ⟨k1, hw⟩ := hw
    refine q_ldNUMBERS F k1 dX12_ruleForm_33 ?_
    refine q_icmp_ge F hx2 (nuT_in _) 53 dX12_ruleForm_34 (by decide) (fun hc => ?_) (fun hc => ?_)
    · have hw := hw.1 hc
      refine q_iload_n F 1 dX12_ruleForm_53 rfl rfl ?_
      refine q_bipush F dX12_ruleForm_54 (by decide) ?_
      refine q_icmp_lt F hx1 (⟨by decide, by decide⟩ : inR (12)) 61 dX12_ruleForm_56 (by decide) (fun hc => ?_) (fun hc => ?_)
      · have hw := hw.1 hc
        refine q_aload_n F 0 dX12_ruleForm_61 rfl rfl ?_
        refine q_iconst F dX12_ruleForm_62 ?_
        refine q_ViM F (kcX12_takes hm (⟨by decide, by decide⟩ : inR (1)) hw) (by decide) meObj (ci := 10) rfl (bV wd960 wd961 wd1292 wd13 wd962) rfl ⟨rfl, rfl⟩ ydX12_takes (rmK_le hR (by omega) (by decide)) (av := [iV 1]) rfl rfl (Nat.le_of_ble_eq_true rfl) dX12_ruleForm_63 (rmK_cs hR (by omega) (by omega)) (fun r2 J3 h4 m5 hw => ?_)
        refine q_if_ne F h4 71 dX12_ruleForm_66 (by decide) (fun hc => ?_) (fun hc => ?_)
        · have hw := hw.1 hc
          refine q_iload_n F 1 dX12_ruleForm_71 rfl rfl ?_
          refine q_bipush F dX12_ruleForm_72 (by decide) ?_
          refine q_icmp_ne F hx1 (⟨by decide, by decide⟩ : inR (9)) 83 dX12_ruleForm_74 (by decide) (fun hc => ?_) (fun hc => ?_)
          · have hw := hw.1 hc
            refine q_iload_n F 1 dX12_ruleForm_83 rfl rfl ?_
            refine q_iconst F dX12_ruleForm_84 ?_
            refine q_icmp_ne F hx1 (⟨by decide, by decide⟩ : inR (3)) 94 dX12_ruleForm_85 (by decide) (fun hc => ?_) (fun hc => ?_)
            · have hw := hw.1 hc
              refine q_lv [0] rfl ?_
              obtain ⟨n6, hw⟩ := hw
              exact bX12_ruleForm_94 F hR hN hret n6 J3 m5 hw
            · have hw := hw.2 hc
              refine q_aload_n F 0 dX12_ruleForm_88 rfl rfl ?_
              refine q_iconst F dX12_ruleForm_89 ?_
              refine q_ViM F (kcX12_takes m5 (⟨by decide, by decide⟩ : inR (1)) hw) (by decide) meObj (ci := 10) rfl (bV wd960 wd961 wd1292 wd13 wd962) rfl ⟨rfl, rfl⟩ ydX12_takes (rmK_le hR (by omega) (by decide)) (av := [iV 1]) rfl rfl (Nat.le_of_ble_eq_true rfl) dX12_ruleForm_90 (rmK_cs hR (by omega) (by omega)) (fun r7 J8 h9 m10 hw => ?_)
              obtain ⟨k11, hw⟩ := hw
              exact hret _ _ _ _ _ dX12_ruleForm_93 k11 h9 m10 hw
          · have hw := hw.2 hc
            refine q_aload_n F 0 dX12_ruleForm_77 rfl rfl ?_
            refine q_iconst F dX12_ruleForm_78 ?_
            refine q_ViM F (kcX12_takes m5 (⟨by decide, by decide⟩ : inR (3)) hw) (by decide) meObj (ci := 10) rfl (bV wd960 wd961 wd1292 wd13 wd962) rfl ⟨rfl, rfl⟩ ydX12_takes (rmK_le hR (by omega) (by decide)) (av := [iV 3]) rfl rfl (Nat.le_of_ble_eq_true rfl) dX12_ruleForm_79 (rmK_cs hR (by omega) (by omega)) (fun r12 J13 h14 m15 hw => ?_)
            obtain ⟨k16, hw⟩ := hw
            exact hret _ _ _ _ _ dX12_ruleForm_82 k16 h14 m15 hw
        · have hw := hw.2 hc
          refine q_iconst F dX12_ruleForm_69 ?_
          exact hret _ _ _ _ _ dX12_ruleForm_70 (Or.inl rfl) (⟨by decide, by decide⟩ : inR (0)) m5 hw
      · have hw := hw.2 hc
        refine q_iconst F dX12_ruleForm_59 ?_
        exact hret _ _ _ _ _ dX12_ruleForm_60 (Or.inr rfl) (⟨by decide, by decide⟩ : inR (1)) hm hw
    · have hw := hw.2 hc
      refine q_aload_n F 0 dX12_ruleForm_37 rfl rfl ?_
      refine q_iconst F dX12_ruleForm_38 ?_
      refine q_ViM F (kcX12_takes hm (⟨by decide, by decide⟩ : inR (3)) hw) (by decide) meObj (ci := 10) rfl (bV wd960 wd961 wd1292 wd13 wd962) rfl ⟨rfl, rfl⟩ ydX12_takes (rmK_le hR (by omega) (by decide)) (av := [iV 3]) rfl rfl (Nat.le_of_ble_eq_true rfl) dX12_ruleForm_39 (rmK_cs hR (by omega) (by omega)) (fun r17 J18 h19 m20 hw => ?_)
      refine q_if_ne F h19 47 dX12_ruleForm_42 (by decide) (fun hc => ?_) (fun hc => ?_)
      · have hw := hw.1 hc
        obtain ⟨k23, hw⟩ := hw
        obtain ⟨z21, e22⟩ := ex1 (x2 + 1)
        have hw := hw z21 e22
        have hz21 : inR z21 := by rw [e22]; exact k23
        refine q_iinc (lv' := [(0, .ref (E.1 1000)), (1, iV x1), (2, iV z21)]) F 2 [1, 2, 0] dX12_ruleForm_47 rfl (q_n hN (by decide)) e22.symm rfl ?_
        refine q_goto F 28 dX12_ruleForm_50 (by decide) ?_
        exact ih x1 z21 J18 hx1 hz21 m20 hw
      · have hw := hw.2 hc
        refine q_iconst F dX12_ruleForm_45 ?_
        exact hret _ _ _ _ _ dX12_ruleForm_46 (Or.inl rfl) (⟨by decide, by decide⟩ : inR (0)) m20 hw
set_option maxHeartbeats 4000000 in
set_option maxRecDepth 100000 in
theorem kcX12_ruleForm {l : Launch} {D : va_G} {E : cE} {J : cI} (hm : mM J)  {Q : Int → cI → Prop} (hw : wX12_ruleForm  J Q) : gM l D E mIds yX12_ruleForm vX12_ruleForm (rmK 7 (0) (0)) [.ref (E.1 1000)] (mef E J) (mef E) (oI Q) (0) (0) := by
  unfold wX12_ruleForm at hw
  refine k_ofW (own := RX12) (cc := cX12_ruleForm) (maxL := 3) (ret := (some .boolean)) (lv := [(0, .ref (E.1 1000))]) (by decide) rfl rfl (Nat.le_of_ble_eq_true rfl) rfl ?_
  intro X hl hR hN hD F K
  subst hl; subst hD
  have hret := mk_rZM (Q := Q) F K
  refine q_aload_n F 0 dX12_ruleForm_0 rfl rfl ?_
  refine q_aload_n F 0 dX12_ruleForm_1 rfl rfl ?_
  refine s_g_at F ib12 wd880 dX12_ruleForm_2 ?_
  refine q_ViM F (kcX12_wordAt hm (hm _ _) hw) (by decide) meObj (ci := 10) rfl (bV wd966 wd967 wd1294 wd13 wd968) rfl ⟨rfl, rfl⟩ ydX12_wordAt (rmK_le hR (by omega) (by decide)) (av := [iV ((J 1000 7))]) rfl rfl (Nat.le_of_ble_eq_true rfl) dX12_ruleForm_5 (rmK_cs hR (by omega) (by omega)) (fun r1 J2 h3 m4 hw => ?_)
  refine q_istore_n (lv' := [(0, .ref (E.1 1000)), (1, iV r1)]) F [1, 0] dX12_ruleForm_8 rfl (q_n hN (by decide)) rfl ?_
  refine q_iload_n F 1 dX12_ruleForm_9 rfl rfl ?_
  refine q_iconst F dX12_ruleForm_10 ?_
  refine q_icmp_ne F h3 (⟨by decide, by decide⟩ : inR (-1)) 16 dX12_ruleForm_11 (by decide) (fun hc => ?_) (fun hc => ?_)
  · have hw := hw.1 hc
    refine q_aload_n F 0 dX12_ruleForm_16 rfl rfl ?_
    refine q_dup F dX12_ruleForm_17 rfl ?_
    refine s_g_at F ib12 wd880 dX12_ruleForm_18 ?_
    refine q_iconst F dX12_ruleForm_21 ?_
    refine q_iadd F dX12_ruleForm_22 ?_
    obtain ⟨k5, hw⟩ := hw
    obtain ⟨J6, e7⟩ := ex1 (up2 J2 1000 7 (((J2 1000 7) + 1)))
    have hw := hw J6 e7
    have m8 : mM J6 := mM_I m4 e7 k5
    refine s_p_at F ib12 wd880 e7 dX12_ruleForm_23 ?_
    refine q_iconst F dX12_ruleForm_26 ?_
    refine q_istore_n (lv' := [(0, .ref (E.1 1000)), (1, iV r1), (2, iV 0)]) F [1, 2, 0] dX12_ruleForm_27 rfl (q_n hN (by decide)) rfl ?_
    obtain ⟨n9, hw⟩ := hw
    exact bX12_ruleForm_28 F hR hN hret n9 r1 0 J6 h3 (⟨by decide, by decide⟩ : inR (0)) m8 hw
  · have hw := hw.2 hc
    refine q_iconst F dX12_ruleForm_14 ?_
    exact hret _ _ _ _ _ dX12_ruleForm_15 (Or.inl rfl) (⟨by decide, by decide⟩ : inR (0)) m4 hw
