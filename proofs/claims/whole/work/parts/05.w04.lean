/-! ===== walks: X12_drop, X12_put, X12_put_, X12_putNumber, X12_putNext, X12_write, X12_byteAt, X12_put__, X12_value, X12_clear, X12_hasCell, X12_isAmiss, X12_look, X12_prepare ===== -/
theorem ydX12_drop : yX12_drop.cls = RX12 ∧ yX12_drop.cls ≠ "java/lang/invoke/MethodHandle" ∧ yX12_drop.cls ≠ "java/lang/invoke/VarHandle" ∧ (parseMethodDescriptor yX12_drop.desc).map (fun d => d.parameters.length) = some 1 := by decide +kernel
def vX12_drop : List Cond := Cond.code yX12_drop cX12_drop 2 (some .int) :: bG
set_option maxHeartbeats 4000000 in
set_option maxRecDepth 100000 in
theorem kcX12_drop {l : Launch} {D : va_G} {E : cE} {a1 : Int} {J : cI} (hm : mM J) (ha1 : inR a1) {Q : Int → cI → Prop} (hw : wX12_drop a1 J Q) : gM l D E mIds yX12_drop vX12_drop (rmK 4 (0) (0)) [.ref (E.1 1000), iV a1] (mef E J) (mef E) (oI Q) (0) (0) := by
  unfold wX12_drop at hw
  refine k_ofW (own := RX12) (cc := cX12_drop) (maxL := 2) (ret := (some .int)) (lv := [(0, .ref (E.1 1000)), (1, iV a1)]) (by decide) rfl rfl (Nat.le_of_ble_eq_true rfl) rfl ?_
  intro X hl hR hN hD F K
  subst hl; subst hD
  have hret := mk_rIM (Q := Q) F K
  refine q_aload_n F 0 dX12_drop_0 rfl rfl ?_
  refine q_iconst F dX12_drop_1 ?_
  obtain ⟨J1, e2⟩ := ex1 (up2 J 1000 0 0)
  have hw := hw J1 e2
  have m3 : mM J1 := mM_I hm e2 (⟨by decide, by decide⟩ : inR (0))
  refine s_p_thrown F ib12 wd873 e2 dX12_drop_2 ?_
  refine q_aload_n F 0 dX12_drop_5 rfl rfl ?_
  refine q_iload_n F 1 dX12_drop_6 rfl rfl ?_
  refine q_ViM F (kcX12_isRule m3 ha1 hw) (by decide) meObj (ci := 10) rfl (bV wd1047 wd1048 wd1314 wd13 wd1049) rfl ⟨rfl, rfl⟩ ydX12_isRule (rmK_le hR (by omega) (by decide)) (av := [iV a1]) rfl rfl (Nat.le_of_ble_eq_true rfl) dX12_drop_7 (rmK_cs hR (by omega) (by omega)) (fun r4 J5 h6 m7 hw => ?_)
  refine q_if_ne F h6 19 dX12_drop_10 (by decide) (fun hc => ?_) (fun hc => ?_)
  · have hw := hw.1 hc
    refine q_aload_n F 0 dX12_drop_19 rfl rfl ?_
    refine q_iload_n F 1 dX12_drop_20 rfl rfl ?_
    refine q_VvM F (kcX12_dropRule m7 ha1 hw) (by decide) meObj (ci := 10) rfl (bV wd1057 wd1058 wd1316 wd13 wd1059) rfl ⟨rfl, rfl⟩ ydX12_dropRule (rmK_le hR (by omega) (by decide)) (av := [iV a1]) rfl rfl (Nat.le_of_ble_eq_true rfl) dX12_drop_21 (rmK_cs hR (by omega) (by omega)) (fun J9 m11 hw => ?_)
    refine q_aload_n F 0 dX12_drop_24 rfl rfl ?_
    refine s_g_rules F ib12 wd887 dX12_drop_25 ?_
    exact hret _ _ _ _ _ dX12_drop_28 (m11 _ _) m11 hw
  · have hw := hw.2 hc
    refine q_aload_n F 0 dX12_drop_13 rfl rfl ?_
    refine q_iconst F dX12_drop_14 ?_
    refine q_ViM F (kcX12_no m7 (⟨by decide, by decide⟩ : inR (1)) hw) (by decide) meObj (ci := 10) rfl (bV wd925 wd926 wd1285 wd13 wd927) rfl ⟨rfl, rfl⟩ ydX12_no (rmK_le hR (by omega) (by decide)) (av := [iV 1]) rfl rfl (Nat.le_of_ble_eq_true rfl) dX12_drop_15 (rmK_cs hR (by omega) (by omega)) (fun r12 J13 h14 m15 hw => ?_)
    exact hret _ _ _ _ _ dX12_drop_18 h14 m15 hw
theorem ydX12_put : yX12_put.cls = RX12 ∧ yX12_put.cls ≠ "java/lang/invoke/MethodHandle" ∧ yX12_put.cls ≠ "java/lang/invoke/VarHandle" ∧ (parseMethodDescriptor yX12_put.desc).map (fun d => d.parameters.length) = some 1 := by decide +kernel
def vX12_put : List Cond := Cond.code yX12_put cX12_put 2 none :: bG
set_option maxHeartbeats 4000000 in
set_option maxRecDepth 100000 in
theorem kcX12_put {l : Launch} {D : va_G} {E : cE} {a1 : Int} {J : cI} (hm : mM J) (ha1 : inR a1) {Q : cI → Prop} (hw : wX12_put a1 J Q) : gM l D E mIds yX12_put vX12_put (rmK 1 (0) (0)) [.ref (E.1 1000), iV a1] (mef E J) (mef E) (oV Q) (0) (0) := by
  unfold wX12_put at hw
  refine k_ofW (own := RX12) (cc := cX12_put) (maxL := 2) (ret := none) (lv := [(0, .ref (E.1 1000)), (1, iV a1)]) (by decide) rfl rfl (Nat.le_of_ble_eq_true rfl) rfl ?_
  intro X hl hR hN hD F K
  subst hl; subst hD
  have hret := mk_rVM (Q := Q) F K
  refine q_aload_n F 0 dX12_put_0 rfl rfl ?_
  refine s_g_paper F ib12 wd882 dX12_put_1 ?_
  refine q_aload_n F 0 dX12_put_4 rfl rfl ?_
  refine s_g_papered F ib12 wd883 dX12_put_5 ?_
  refine q_iload_n F 1 dX12_put_8 rfl rfl ?_
  obtain ⟨k1, hw⟩ := hw
  obtain ⟨J2, e3⟩ := ex1 (up2 J 1009 ((J 1000 10)) a1)
  have hw := hw J2 e3
  have m4 : mM J2 := mM_I hm e3 ha1
  refine s_ast F 4000 kM_paper k1 (by decide) e3 dX12_put_9 ?_
  refine q_aload_n F 0 dX12_put_10 rfl rfl ?_
  refine q_dup F dX12_put_11 rfl ?_
  refine s_g_papered F ib12 wd883 dX12_put_12 ?_
  refine q_iconst F dX12_put_15 ?_
  refine q_iadd F dX12_put_16 ?_
  obtain ⟨k5, hw⟩ := hw
  obtain ⟨J6, e7⟩ := ex1 (up2 J2 1000 10 (((J2 1000 10) + 1)))
  have hw := hw J6 e7
  have m8 : mM J6 := mM_I m4 e7 k5
  refine s_p_papered F ib12 wd883 e7 dX12_put_17 ?_
  exact hret _ _ _ _ dX12_put_20 m8 hw
theorem ydX12_put_ : yX12_put_.cls = RX12 ∧ yX12_put_.cls ≠ "java/lang/invoke/MethodHandle" ∧ yX12_put_.cls ≠ "java/lang/invoke/VarHandle" ∧ (parseMethodDescriptor yX12_put_.desc).map (fun d => d.parameters.length) = some 1 := by decide +kernel
def vX12_put_ : List Cond := Cond.code yX12_put_ cX12_put_ 3 none :: bG
set_option maxHeartbeats 4000000 in
set_option maxRecDepth 100000 in
theorem bX12_put__2 {X : xC} {E : cE} (F : mF X E RX12 cX12_put_ bG) (hR : X.1.2.2.2 = rmK 5 (0) (0)) (hN : X.2.2.1.2.2.2 = 3) {Q : cI → Prop} (hret : rVM X E cX12_put_ (0) (0) Q) {a1 : Nat} (ha1 : a1 < 15) : ∀ n2 : Nat, ∀ (x2 : Int) (J : cI), inR x2 → mM J → wX12_put__2 Q a1 n2 x2 J → cW X (0) (0) 2 [(0, .ref (E.1 1000)), (1, .ref (E.2.1 1 a1)), (2, iV x2)] [] (gw E.1 mIds (mef E J) ++ []) := by
  intro n2
  induction n2 with
  | zero => intro x2 J hx2 hm hw; exact hw.elim
  | succ n2 ih =>
    intro x2 J hx2 hm hw
    change wbX12_put__2 Q a1 (wX12_put__2 Q a1 n2) x2 J at hw
    unfold wbX12_put__2 at hw
    refine q_iload_n F 2 dX12_put__2 rfl rfl ?_
    refine q_aload_n F 1 dX12_put__3 rfl rfl ?_
    refine q_slen F hR (by omega) ha1 wd958 dX12_put__4 (Nat.le_of_ble_eq_true rfl) ?_
    refine q_icmp_ge F hx2 (txN_in ha1) 25 dX12_put__7 (by decide) (fun hc => ?_) (fun hc => ?_)
    · have hw := hw.1 hc
      exact hret _ _ _ _ dX12_put__25 hm hw
    · have hw := hw.2 hc
      refine q_aload_n F 0 dX12_put__10 rfl rfl ?_
      refine q_aload_n F 1 dX12_put__11 rfl rfl ?_
      refine q_iload_n F 2 dX12_put__12 rfl rfl ?_
      obtain ⟨k1, hw⟩ := hw
      refine q_sch F hR (by omega) ha1 k1 wd959 dX12_put__13 (Nat.le_of_ble_eq_true rfl) ?_
      refine q_VvM F (kcX12_put hm (txC_in _ _) hw) (by decide) meObj (ci := 10) rfl (bV wd1070 wd1071 wd1319 wd13 wd1072) rfl ⟨rfl, rfl⟩ ydX12_put (rmK_le hR (by omega) (by decide)) (av := [iV ((txC a1 x2))]) rfl rfl (Nat.le_of_ble_eq_true rfl) dX12_put__16 (rmK_cs hR (by omega) (by omega)) (fun J3 m5 hw => ?_)
      obtain ⟨k8, hw⟩ := hw
      obtain ⟨z6, e7⟩ := ex1 (x2 + 1)
      have hw := hw z6 e7
      have hz6 : inR z6 := by rw [e7]; exact k8
      refine q_iinc (lv' := [(0, .ref (E.1 1000)), (1, .ref (E.2.1 1 a1)), (2, iV z6)]) F 2 [1, 2, 0] dX12_put__19 rfl (q_n hN (by decide)) e7.symm rfl ?_
      refine q_goto F 2 dX12_put__22 (by decide) ?_
      exact ih z6 J3 hz6 m5 hw
set_option maxHeartbeats 4000000 in
set_option maxRecDepth 100000 in
theorem kcX12_put_ {l : Launch} {D : va_G} {E : cE} {a1 : Nat} {J : cI} (hm : mM J) (ha1 : a1 < 15) {Q : cI → Prop} (hw : wX12_put_ a1 J Q) : gM l D E mIds yX12_put_ vX12_put_ (rmK 5 (0) (0)) [.ref (E.1 1000), .ref (E.2.1 1 a1)] (mef E J) (mef E) (oV Q) (0) (0) := by
  unfold wX12_put_ at hw
  refine k_ofW (own := RX12) (cc := cX12_put_) (maxL := 3) (ret := none) (lv := [(0, .ref (E.1 1000)), (1, .ref (E.2.1 1 a1))]) (by decide) rfl rfl (Nat.le_of_ble_eq_true rfl) rfl ?_
  intro X hl hR hN hD F K
  subst hl; subst hD
  have hret := mk_rVM (Q := Q) F K
  refine q_iconst F dX12_put__0 ?_
  refine q_istore_n (lv' := [(0, .ref (E.1 1000)), (1, .ref (E.2.1 1 a1)), (2, iV 0)]) F [1, 2, 0] dX12_put__1 rfl (q_n hN (by decide)) rfl ?_
  obtain ⟨n1, hw⟩ := hw
  exact bX12_put__2 F hR hN hret ha1 n1 0 J (⟨by decide, by decide⟩ : inR (0)) hm hw
theorem ydX12_putNumber : yX12_putNumber.cls = RX12 ∧ yX12_putNumber.cls ≠ "java/lang/invoke/MethodHandle" ∧ yX12_putNumber.cls ≠ "java/lang/invoke/VarHandle" ∧ (parseMethodDescriptor yX12_putNumber.desc).map (fun d => d.parameters.length) = some 1 := by decide +kernel
def vX12_putNumber : List Cond := Cond.code yX12_putNumber cX12_putNumber 2 none :: bG
set_option maxHeartbeats 4000000 in
set_option maxRecDepth 100000 in
theorem bX12_putNumber_14 {d : Nat} {X : xC} {E : cE} (F : mF X E RX12 cX12_putNumber bG) (hR : X.1.2.2.2 = rmK (1 + d + 1) 0 0) (hN : X.2.2.1.2.2.2 = 2) {Q : cI → Prop} (hret : rVM X E cX12_putNumber (0) (0) Q) {rc : Int → cI → (cI → Prop) → Prop} (hrec : ∀ (a1 : Int) (J : cI) (Q' : cI → Prop), inR a1 → mM J → rc a1 J Q' → gM X.1.2.1 X.2.2.2.2 E mIds yX12_putNumber vX12_putNumber (rmK (1 + d) 0 0) [.ref (E.1 1000), iV a1] (mef E J) (mef E) (oV Q') 0 0) {a1 : Int} (ha1 : inR a1) : ∀ (J : cI), mM J → wX12_putNumber_14 rc Q a1 J → cW X (0) (0) 14 [(0, .ref (E.1 1000)), (1, iV a1)] [] (gw E.1 mIds (mef E J) ++ []) := by
  intro J hm hw
  unfold wX12_putNumber_14 at hw
  refine q_aload_n F 0 dX12_putNumber_14 rfl rfl ?_
  refine q_bipush F dX12_putNumber_15 (by decide) ?_
  refine q_iload_n F 1 dX12_putNumber_17 rfl rfl ?_
  refine q_bipush F dX12_putNumber_18 (by decide) ?_
  obtain ⟨k1, hw⟩ := hw
  refine q_irem F ⟨⟨k1, (ha1).2⟩, by decide, by decide⟩ dX12_putNumber_20 ?_
  refine q_iadd F dX12_putNumber_21 ?_
  obtain ⟨k2, hw⟩ := hw
  refine q_VvM F (kcX12_put hm k2 hw) (by decide) meObj (ci := 10) rfl (bV wd1070 wd1071 wd1319 wd13 wd1072) rfl ⟨rfl, rfl⟩ ydX12_put (rmK_le hR (by omega) (by decide)) (av := [iV ((48 + (a1 % 10)))]) rfl rfl (Nat.le_of_ble_eq_true rfl) dX12_putNumber_22 (rmK_cs hR (by omega) (by omega)) (fun J4 m6 hw => ?_)
  exact hret _ _ _ _ dX12_putNumber_25 m6 hw
set_option maxHeartbeats 4000000 in
set_option maxRecDepth 100000 in
theorem crX12_putNumber {l : Launch} {D : va_G} {E : cE} : ∀ (d : Nat) (a1 : Int) (J : cI) (Q : cI → Prop), inR a1 → mM J → wX12_putNumber d a1 J Q → gM l D E mIds yX12_putNumber vX12_putNumber (rmK (1 + d) 0 0) [.ref (E.1 1000), iV a1] (mef E J) (mef E) (oV Q) 0 0 := by
  intro d
  induction d with
  | zero => intro a1 J Q ha1 hm hw; exact hw.elim
  | succ d ihd =>
    intro a1 J Q ha1 hm hw
    change wbX12_putNumber (wX12_putNumber d) a1 J Q at hw
    unfold wbX12_putNumber at hw
    refine k_ofW (own := RX12) (cc := cX12_putNumber) (maxL := 2) (ret := none) (lv := [(0, .ref (E.1 1000)), (1, iV a1)]) (by decide) rfl rfl (Nat.le_of_ble_eq_true rfl) rfl ?_
    intro X hl hR hN hD F K
    subst hl; subst hD
    have hrec := ihd
    have hret := mk_rVM (Q := Q) F K
    refine q_iload_n F 1 dX12_putNumber_0 rfl rfl ?_
    refine q_bipush F dX12_putNumber_1 (by decide) ?_
    refine q_icmp_le F ha1 (⟨by decide, by decide⟩ : inR (9)) 14 dX12_putNumber_3 (by decide) (fun hc => ?_) (fun hc => ?_)
    · have hw := hw.1 hc
      exact bX12_putNumber_14 F hR hN hret hrec ha1 J hm hw
    · have hw := hw.2 hc
      refine q_aload_n F 0 dX12_putNumber_6 rfl rfl ?_
      refine q_iload_n F 1 dX12_putNumber_7 rfl rfl ?_
      refine q_bipush F dX12_putNumber_8 (by decide) ?_
      obtain ⟨k1, hw⟩ := hw
      refine q_idiv F ⟨⟨k1, (ha1).2⟩, by decide, by decide⟩ dX12_putNumber_10 ?_
      obtain ⟨k2, hw⟩ := hw
      refine q_VvM F (hrec ((a1 / 10)) J _ k2 hm hw) (by decide) meObj (ci := 10) rfl (bV wd1076 wd1077 wd1321 wd13 wd1078) rfl ⟨rfl, rfl⟩ ydX12_putNumber (rmK_le hR (by omega) (by decide)) (av := [iV ((a1 / 10))]) rfl rfl (Nat.le_of_ble_eq_true rfl) dX12_putNumber_11 (rmK_cs hR (by omega) (by omega)) (fun J4 m6 hw => ?_)
      exact bX12_putNumber_14 F hR hN hret hrec ha1 J4 m6 hw
theorem kcX12_putNumber {l : Launch} {D : va_G} {E : cE} (d : Nat) {a1 : Int} {J : cI} (hm : mM J) (ha1 : inR a1) {Q : cI → Prop} (hw : wX12_putNumber d a1 J Q) : gM l D E mIds yX12_putNumber vX12_putNumber (rmK (1 + d) 0 0) [.ref (E.1 1000), iV a1] (mef E J) (mef E) (oV Q) 0 0 := crX12_putNumber d a1 J Q ha1 hm hw
theorem ydX12_putNext : yX12_putNext.cls = RX12 ∧ yX12_putNext.cls ≠ "java/lang/invoke/MethodHandle" ∧ yX12_putNext.cls ≠ "java/lang/invoke/VarHandle" ∧ (parseMethodDescriptor yX12_putNext.desc).map (fun d => d.parameters.length) = some 1 := by decide +kernel
def vX12_putNext : List Cond := Cond.code yX12_putNext cX12_putNext 2 none :: bG
set_option maxHeartbeats 4000000 in
set_option maxRecDepth 100000 in
theorem kcX12_putNext {l : Launch} {D : va_G} {E : cE} {a1 : Int} {J : cI} (hm : mM J) (ha1 : inR a1) {Q : cI → Prop} (hw : wX12_putNext a1 J Q) : gM l D E mIds yX12_putNext vX12_putNext (rmK 7 (0) (0)) [.ref (E.1 1000), iV a1] (mef E J) (mef E) (oV Q) (0) (0) := by
  unfold wX12_putNext at hw
  refine k_ofW (own := RX12) (cc := cX12_putNext) (maxL := 2) (ret := none) (lv := [(0, .ref (E.1 1000)), (1, iV a1)]) (by decide) rfl rfl (Nat.le_of_ble_eq_true rfl) rfl ?_
  intro X hl hR hN hD F K
  subst hl; subst hD
  have hret := mk_rVM (Q := Q) F K
  refine q_aload_n F 0 dX12_putNext_0 rfl rfl ?_
  refine q_bipush F dX12_putNext_1 (by decide) ?_
  refine q_VvM F (kcX12_put hm (⟨by decide, by decide⟩ : inR (32)) hw) (by decide) meObj (ci := 10) rfl (bV wd1070 wd1071 wd1319 wd13 wd1072) rfl ⟨rfl, rfl⟩ ydX12_put (rmK_le hR (by omega) (by decide)) (av := [iV 32]) rfl rfl (Nat.le_of_ble_eq_true rfl) dX12_putNext_3 (rmK_cs hR (by omega) (by omega)) (fun J2 m4 hw => ?_)
  refine q_aload_n F 0 dX12_putNext_6 rfl rfl ?_
  refine q_iload_n F 1 dX12_putNext_7 rfl rfl ?_
  refine q_VvM F (kcX12_putNumber 5 m4 ha1 hw) (by decide) meObj (ci := 10) rfl (bV wd1076 wd1077 wd1321 wd13 wd1078) rfl ⟨rfl, rfl⟩ ydX12_putNumber (rmK_le hR (by omega) (by decide)) (av := [iV a1]) rfl rfl (Nat.le_of_ble_eq_true rfl) dX12_putNext_8 (rmK_cs hR (by omega) (by omega)) (fun J6 m8 hw => ?_)
  exact hret _ _ _ _ dX12_putNext_11 m8 hw
theorem ydX12_write : yX12_write.cls = RX12 ∧ yX12_write.cls ≠ "java/lang/invoke/MethodHandle" ∧ yX12_write.cls ≠ "java/lang/invoke/VarHandle" ∧ (parseMethodDescriptor yX12_write.desc).map (fun d => d.parameters.length) = some 0 := by decide +kernel
def vX12_write : List Cond := Cond.code yX12_write cX12_write 4 (some .int) :: bG
set_option maxHeartbeats 4000000 in
set_option maxRecDepth 100000 in
theorem bX12_write_198 {X : xC} {E : cE} (F : mF X E RX12 cX12_write bG) (hR : X.1.2.2.2 = rmK 8 (0) (0)) (hN : X.2.2.1.2.2.2 = 4) {Q : Int → cI → Prop} (hret : rIM X E cX12_write (0) (0) Q)   {K61 : Int → cI → Prop} (hK61 : ∀ (x1 : Int) (J : cI), inR x1 → mM J → K61 x1 J → cW X (0) (0) 61 [(0, .ref (E.1 1000)), (1, iV x1)] [] (gw E.1 mIds (mef E J) ++ [])) : ∀ (x1 : Int) (J : cI), inR x1 → mM J → wX12_write_198 Q K61 x1 J → cW X (0) (0) 198 [(0, .ref (E.1 1000)), (1, iV x1)] [] (gw E.1 mIds (mef E J) ++ []) := by
  intro x1 J hx1 hm hw
  unfold wX12_write_198 at hw
  refine q_aload_n F 0 dX12_write_198 rfl rfl ?_
  refine q_bipush F dX12_write_199 (by decide) ?_
  refine q_VvM F (kcX12_put hm (⟨by decide, by decide⟩ : inR (59)) hw) (by decide) meObj (ci := 10) rfl (bV wd1070 wd1071 wd1319 wd13 wd1072) rfl ⟨rfl, rfl⟩ ydX12_put (rmK_le hR (by omega) (by decide)) (av := [iV 59]) rfl rfl (Nat.le_of_ble_eq_true rfl) dX12_write_201 (rmK_cs hR (by omega) (by omega)) (fun J2 m4 hw => ?_)
  obtain ⟨k7, hw⟩ := hw
  obtain ⟨z5, e6⟩ := ex1 (x1 + 1)
  have hw := hw z5 e6
  have hz5 : inR z5 := by rw [e6]; exact k7
  refine q_iinc (lv' := [(0, .ref (E.1 1000)), (1, iV z5)]) F 1 [1, 0] dX12_write_204 rfl (q_n hN (by decide)) e6.symm rfl ?_
  refine q_goto F 61 dX12_write_207 (by decide) ?_
  exact hK61 z5 J2 hz5 m4 hw
set_option maxHeartbeats 4000000 in
set_option maxRecDepth 100000 in
theorem bX12_write_124 {X : xC} {E : cE} (F : mF X E RX12 cX12_write bG) (hR : X.1.2.2.2 = rmK 8 (0) (0)) (hN : X.2.2.1.2.2.2 = 4) {Q : Int → cI → Prop} (hret : rIM X E cX12_write (0) (0) Q)   {K61 : Int → cI → Prop} (hK61 : ∀ (x1 : Int) (J : cI), inR x1 → mM J → K61 x1 J → cW X (0) (0) 61 [(0, .ref (E.1 1000)), (1, iV x1)] [] (gw E.1 mIds (mef E J) ++ [])) : ∀ n124 : Nat, ∀ (x1 : Int) (x2 : Int) (x3 : Int) (J : cI), inR x1 → inR x2 → inR x3 → mM J → wX12_write_124 Q K61 n124 x1 x2 x3 J → cW X (0) (0) 124 [(0, .ref (E.1 1000)), (1, iV x1), (2, iV x2), (3, iV x3)] [] (gw E.1 mIds (mef E J) ++ []) := by
  intro n124
  induction n124 with
  | zero => intro x1 x2 x3 J hx1 hx2 hx3 hm hw; exact hw.elim
  | succ n124 ih =>
    intro x1 x2 x3 J hx1 hx2 hx3 hm hw
    change wbX12_write_124 Q K61 (wX12_write_124 Q K61 n124) x1 x2 x3 J at hw
    unfold wbX12_write_124 at hw
    refine q_iload_n F 3 dX12_write_124 rfl rfl ?_
    refine q_aload_n F 0 dX12_write_125 rfl rfl ?_
    refine s_g_ruleSize F ib12 wd891 dX12_write_126 ?_
    refine q_iload_n F 1 dX12_write_129 rfl rfl ?_
    obtain ⟨k1, hw⟩ := hw
    refine s_ald F 70 kM_ruleSize k1 (by decide) dX12_write_130 ?_
    refine q_icmp_ge F hx3 (hm _ _) 182 dX12_write_131 (by decide) (fun hc => ?_) (fun hc => ?_)
    · have hw := hw.1 hc
      refine q_iload_n F 2 dX12_write_182 rfl rfl ?_
      refine q_bipush F dX12_write_183 (by decide) ?_
      refine q_icmp_ne F hx2 (⟨by decide, by decide⟩ : inR (9)) 198 dX12_write_185 (by decide) (fun hc => ?_) (fun hc => ?_)
      · have hw := hw.1 hc
        refine q_lv [0, 1] rfl ?_
        exact bX12_write_198 F hR hN hret hK61 x1 J hx1 hm hw
      · have hw := hw.2 hc
        refine q_aload_n F 0 dX12_write_188 rfl rfl ?_
        refine q_aload_n F 0 dX12_write_189 rfl rfl ?_
        refine s_g_ruleNumber F ib12 wd889 dX12_write_190 ?_
        refine q_iload_n F 1 dX12_write_193 rfl rfl ?_
        obtain ⟨k2, hw⟩ := hw
        refine s_ald F 70 kM_ruleNumber k2 (by decide) dX12_write_194 ?_
        refine q_VvM F (kcX12_putNext hm (hm _ _) hw) (by decide) meObj (ci := 10) rfl (bV wd1073 wd1074 wd1320 wd13 wd1075) rfl ⟨rfl, rfl⟩ ydX12_putNext (rmK_le hR (by omega) (by decide)) (av := [iV ((J 1016 x1))]) rfl rfl (Nat.le_of_ble_eq_true rfl) dX12_write_195 (rmK_cs hR (by omega) (by omega)) (fun J4 m6 hw => ?_)
        refine q_lv [0, 1] rfl ?_
        exact bX12_write_198 F hR hN hret hK61 x1 J4 hx1 m6 hw
    · have hw := hw.2 hc
      refine q_aload_n F 0 dX12_write_134 rfl rfl ?_
      refine q_bipush F dX12_write_135 (by decide) ?_
      refine q_VvM F (kcX12_put hm (⟨by decide, by decide⟩ : inR (32)) hw) (by decide) meObj (ci := 10) rfl (bV wd1070 wd1071 wd1319 wd13 wd1072) rfl ⟨rfl, rfl⟩ ydX12_put (rmK_le hR (by omega) (by decide)) (av := [iV 32]) rfl rfl (Nat.le_of_ble_eq_true rfl) dX12_write_137 (rmK_cs hR (by omega) (by omega)) (fun J8 m10 hw => ?_)
      refine q_aload_n F 0 dX12_write_140 rfl rfl ?_
      refine q_bipush F dX12_write_141 (by decide) ?_
      refine q_aload_n F 0 dX12_write_143 rfl rfl ?_
      refine q_iload_n F 1 dX12_write_144 rfl rfl ?_
      refine q_iload_n F 3 dX12_write_145 rfl rfl ?_
      refine q_ViM F (kcX12_cellOf m10 hx1 hx3 hw) (by decide) meObj (ci := 10) rfl (bV wd1030 wd1031 wd1311 wd13 wd1032) rfl ⟨rfl, rfl⟩ ydX12_cellOf (rmK_le hR (by omega) (by decide)) (av := [iV x1, iV x3]) rfl rfl (Nat.le_of_ble_eq_true rfl) dX12_write_146 (rmK_cs hR (by omega) (by omega)) (fun r11 J12 h13 m14 hw => ?_)
      refine q_aload_n F 0 dX12_write_149 rfl rfl ?_
      refine s_g_w F ib12 wd884 dX12_write_150 ?_
      obtain ⟨k15, hw⟩ := hw
      refine q_irem F ⟨⟨k15.1, (h13).2⟩, k15.2, ((m14 _ _)).2⟩ dX12_write_153 ?_
      refine q_iadd F dX12_write_154 ?_
      obtain ⟨k16, hw⟩ := hw
      refine q_VvM F (kcX12_put m14 k16 hw) (by decide) meObj (ci := 10) rfl (bV wd1070 wd1071 wd1319 wd13 wd1072) rfl ⟨rfl, rfl⟩ ydX12_put (rmK_le hR (by omega) (by decide)) (av := [iV ((97 + (r11 % (J12 1000 11))))]) rfl rfl (Nat.le_of_ble_eq_true rfl) dX12_write_155 (rmK_cs hR (by omega) (by omega)) (fun J18 m20 hw => ?_)
      refine q_aload_n F 0 dX12_write_158 rfl rfl ?_
      refine q_bipush F dX12_write_159 (by decide) ?_
      refine q_aload_n F 0 dX12_write_161 rfl rfl ?_
      refine q_iload_n F 1 dX12_write_162 rfl rfl ?_
      refine q_iload_n F 3 dX12_write_163 rfl rfl ?_
      refine q_ViM F (kcX12_cellOf m20 hx1 hx3 hw) (by decide) meObj (ci := 10) rfl (bV wd1030 wd1031 wd1311 wd13 wd1032) rfl ⟨rfl, rfl⟩ ydX12_cellOf (rmK_le hR (by omega) (by decide)) (av := [iV x1, iV x3]) rfl rfl (Nat.le_of_ble_eq_true rfl) dX12_write_164 (rmK_cs hR (by omega) (by omega)) (fun r21 J22 h23 m24 hw => ?_)
      refine q_aload_n F 0 dX12_write_167 rfl rfl ?_
      refine s_g_w F ib12 wd884 dX12_write_168 ?_
      obtain ⟨k25, hw⟩ := hw
      refine q_idiv F ⟨⟨k25.1, (h23).2⟩, k25.2, ((m24 _ _)).2⟩ dX12_write_171 ?_
      refine q_iadd F dX12_write_172 ?_
      obtain ⟨k26, hw⟩ := hw
      refine q_VvM F (kcX12_put m24 k26 hw) (by decide) meObj (ci := 10) rfl (bV wd1070 wd1071 wd1319 wd13 wd1072) rfl ⟨rfl, rfl⟩ ydX12_put (rmK_le hR (by omega) (by decide)) (av := [iV ((49 + (r21 / (J22 1000 11))))]) rfl rfl (Nat.le_of_ble_eq_true rfl) dX12_write_173 (rmK_cs hR (by omega) (by omega)) (fun J28 m30 hw => ?_)
      obtain ⟨k33, hw⟩ := hw
      obtain ⟨z31, e32⟩ := ex1 (x3 + 1)
      have hw := hw z31 e32
      have hz31 : inR z31 := by rw [e32]; exact k33
      refine q_iinc (lv' := [(0, .ref (E.1 1000)), (1, iV x1), (2, iV x2), (3, iV z31)]) F 3 [1, 2, 3, 0] dX12_write_176 rfl (q_n hN (by decide)) e32.symm rfl ?_
      refine q_goto F 124 dX12_write_179 (by decide) ?_
      exact ih x1 x2 z31 J28 hx1 hx2 hz31 m30 hw
set_option maxHeartbeats 4000000 in
set_option maxRecDepth 100000 in
theorem bX12_write_122 {X : xC} {E : cE} (F : mF X E RX12 cX12_write bG) (hR : X.1.2.2.2 = rmK 8 (0) (0)) (hN : X.2.2.1.2.2.2 = 4) {Q : Int → cI → Prop} (hret : rIM X E cX12_write (0) (0) Q)   {K61 : Int → cI → Prop} (hK61 : ∀ (x1 : Int) (J : cI), inR x1 → mM J → K61 x1 J → cW X (0) (0) 61 [(0, .ref (E.1 1000)), (1, iV x1)] [] (gw E.1 mIds (mef E J) ++ [])) : ∀ (x1 : Int) (x2 : Int) (J : cI), inR x1 → inR x2 → mM J → wX12_write_122 Q K61 x1 x2 J → cW X (0) (0) 122 [(0, .ref (E.1 1000)), (1, iV x1), (2, iV x2)] [] (gw E.1 mIds (mef E J) ++ []) := by
  intro x1 x2 J hx1 hx2 hm hw
  unfold wX12_write_122 at hw
  refine q_iconst F dX12_write_122 ?_
  refine q_istore_n (lv' := [(0, .ref (E.1 1000)), (1, iV x1), (2, iV x2), (3, iV 0)]) F [1, 2, 3, 0] dX12_write_123 rfl (q_n hN (by decide)) rfl ?_
  obtain ⟨n1, hw⟩ := hw
  exact bX12_write_124 F hR hN hret hK61 n1 x1 x2 0 J hx1 hx2 (⟨by decide, by decide⟩ : inR (0)) hm hw
set_option maxHeartbeats 4000000 in
set_option maxRecDepth 100000 in
theorem bX12_write_103 {X : xC} {E : cE} (F : mF X E RX12 cX12_write bG) (hR : X.1.2.2.2 = rmK 8 (0) (0)) (hN : X.2.2.1.2.2.2 = 4) {Q : Int → cI → Prop} (hret : rIM X E cX12_write (0) (0) Q)   {K61 : Int → cI → Prop} (hK61 : ∀ (x1 : Int) (J : cI), inR x1 → mM J → K61 x1 J → cW X (0) (0) 61 [(0, .ref (E.1 1000)), (1, iV x1)] [] (gw E.1 mIds (mef E J) ++ [])) : ∀ (x1 : Int) (x2 : Int) (J : cI), inR x1 → inR x2 → mM J → wX12_write_103 Q K61 x1 x2 J → cW X (0) (0) 103 [(0, .ref (E.1 1000)), (1, iV x1), (2, iV x2)] [] (gw E.1 mIds (mef E J) ++ []) := by
  intro x1 x2 J hx1 hx2 hm hw
  unfold wX12_write_103 at hw
  refine q_gs F (sZ_NUMBERS F) wd971 rfl dX12_write_103 ?_
  refine q_iload_n F 2 dX12_write_106 rfl rfl ?_
  obtain ⟨k1, hw⟩ := hw
  refine q_ldNUMBERS F k1 dX12_write_107 ?_
  refine q_iconst F dX12_write_108 ?_
  refine q_icmp_le F (nuT_in _) (⟨by decide, by decide⟩ : inR (1)) 122 dX12_write_109 (by decide) (fun hc => ?_) (fun hc => ?_)
  · have hw := hw.1 hc
    exact bX12_write_122 F hR hN hret hK61 x1 x2 J hx1 hx2 hm hw
  · have hw := hw.2 hc
    refine q_aload_n F 0 dX12_write_112 rfl rfl ?_
    refine q_aload_n F 0 dX12_write_113 rfl rfl ?_
    refine s_g_ruleOften F ib12 wd890 dX12_write_114 ?_
    refine q_iload_n F 1 dX12_write_117 rfl rfl ?_
    obtain ⟨k2, hw⟩ := hw
    refine s_ald F 70 kM_ruleOften k2 (by decide) dX12_write_118 ?_
    refine q_VvM F (kcX12_putNext hm (hm _ _) hw) (by decide) meObj (ci := 10) rfl (bV wd1073 wd1074 wd1320 wd13 wd1075) rfl ⟨rfl, rfl⟩ ydX12_putNext (rmK_le hR (by omega) (by decide)) (av := [iV ((J 1017 x1))]) rfl rfl (Nat.le_of_ble_eq_true rfl) dX12_write_119 (rmK_cs hR (by omega) (by omega)) (fun J4 m6 hw => ?_)
    exact bX12_write_122 F hR hN hret hK61 x1 x2 J4 hx1 hx2 m6 hw
set_option maxHeartbeats 4000000 in
set_option maxRecDepth 100000 in
theorem bX12_write_61 {X : xC} {E : cE} (F : mF X E RX12 cX12_write bG) (hR : X.1.2.2.2 = rmK 8 (0) (0)) (hN : X.2.2.1.2.2.2 = 4) {Q : Int → cI → Prop} (hret : rIM X E cX12_write (0) (0) Q)   : ∀ n61 : Nat, ∀ (x1 : Int) (J : cI), inR x1 → mM J → wX12_write_61 Q n61 x1 J → cW X (0) (0) 61 [(0, .ref (E.1 1000)), (1, iV x1)] [] (gw E.1 mIds (mef E J) ++ []) := by
  intro n61
  induction n61 with
  | zero => intro x1 J hx1 hm hw; exact hw.elim
  | succ n61 ih =>
    intro x1 J hx1 hm hw
    change wbX12_write_61 Q (wX12_write_61 Q n61) x1 J at hw
    unfold wbX12_write_61 at hw
    refine q_iload_n F 1 dX12_write_61 rfl rfl ?_
    refine q_aload_n F 0 dX12_write_62 rfl rfl ?_
    refine s_g_rules F ib12 wd887 dX12_write_63 ?_
    refine q_icmp_ge F hx1 (hm _ _) 210 dX12_write_66 (by decide) (fun hc => ?_) (fun hc => ?_)
    · have hw := hw.1 hc
      refine q_aload_n F 0 dX12_write_210 rfl rfl ?_
      refine s_g_papered F ib12 wd883 dX12_write_211 ?_
      exact hret _ _ _ _ _ dX12_write_214 (hm _ _) hm hw
    · have hw := hw.2 hc
      refine q_aload_n F 0 dX12_write_69 rfl rfl ?_
      refine s_g_ruleKind F ib12 wd888 dX12_write_70 ?_
      refine q_iload_n F 1 dX12_write_73 rfl rfl ?_
      obtain ⟨k1, hw⟩ := hw
      refine s_ald F 70 kM_ruleKind k1 (by decide) dX12_write_74 ?_
      obtain ⟨z2, e3⟩ := ex1 ((J 1015 x1))
      have hw := hw z2 e3
      have hz2 : inR z2 := by rw [e3]; exact (hm _ _)
      refine q_top e3 ?_
      refine q_istore_n (lv' := [(0, .ref (E.1 1000)), (1, iV x1), (2, iV z2)]) F [1, 2, 0] dX12_write_75 rfl (q_n hN (by decide)) rfl ?_
      refine q_aload_n F 0 dX12_write_76 rfl rfl ?_
      refine q_gs F (sZ_WORDS F) wd969 rfl dX12_write_77 ?_
      refine q_iload_n F 2 dX12_write_80 rfl rfl ?_
      obtain ⟨k4, hw⟩ := hw
      refine q_ldWORDS F k4 dX12_write_81 ?_
      refine q_VvM F (kcX12_put_ hm (tN15 k4) hw) (by decide) meObj (ci := 10) rfl (bV wd1067 wd1068 wd1318 wd13 wd1069) rfl ⟨rfl, rfl⟩ ydX12_put_ (rmK_le hR (by omega) (by decide)) (av := [.ref (E.2.1 1 (Int.toNat (z2)))]) rfl rfl (Nat.le_of_ble_eq_true rfl) dX12_write_82 (rmK_cs hR (by omega) (by omega)) (fun J6 m8 hw => ?_)
      refine q_gs F (sZ_NUMBERS F) wd971 rfl dX12_write_85 ?_
      refine q_iload_n F 2 dX12_write_88 rfl rfl ?_
      obtain ⟨k9, hw⟩ := hw
      refine q_ldNUMBERS F k9 dX12_write_89 ?_
      refine q_if_le F (nuT_in _) 103 dX12_write_90 (by decide) (fun hc => ?_) (fun hc => ?_)
      · have hw := hw.1 hc
        exact bX12_write_103 F hR hN hret ih x1 z2 J6 hx1 hz2 m8 hw
      · have hw := hw.2 hc
        refine q_aload_n F 0 dX12_write_93 rfl rfl ?_
        refine q_aload_n F 0 dX12_write_94 rfl rfl ?_
        refine s_g_ruleNumber F ib12 wd889 dX12_write_95 ?_
        refine q_iload_n F 1 dX12_write_98 rfl rfl ?_
        obtain ⟨k10, hw⟩ := hw
        refine s_ald F 70 kM_ruleNumber k10 (by decide) dX12_write_99 ?_
        refine q_VvM F (kcX12_putNext m8 (m8 _ _) hw) (by decide) meObj (ci := 10) rfl (bV wd1073 wd1074 wd1320 wd13 wd1075) rfl ⟨rfl, rfl⟩ ydX12_putNext (rmK_le hR (by omega) (by decide)) (av := [iV ((J6 1016 x1))]) rfl rfl (Nat.le_of_ble_eq_true rfl) dX12_write_100 (rmK_cs hR (by omega) (by omega)) (fun J12 m14 hw => ?_)
        exact bX12_write_103 F hR hN hret ih x1 z2 J12 hx1 hz2 m14 hw
set_option maxHeartbeats 4000000 in
set_option maxRecDepth 100000 in
theorem kcX12_write {l : Launch} {D : va_G} {E : cE} {J : cI} (hm : mM J)  {Q : Int → cI → Prop} (hw : wX12_write  J Q) : gM l D E mIds yX12_write vX12_write (rmK 8 (0) (0)) [.ref (E.1 1000)] (mef E J) (mef E) (oI Q) (0) (0) := by
  unfold wX12_write at hw
  refine k_ofW (own := RX12) (cc := cX12_write) (maxL := 4) (ret := (some .int)) (lv := [(0, .ref (E.1 1000))]) (by decide) rfl rfl (Nat.le_of_ble_eq_true rfl) rfl ?_
  intro X hl hR hN hD F K
  subst hl; subst hD
  have hret := mk_rIM (Q := Q) F K
  refine q_aload_n F 0 dX12_write_0 rfl rfl ?_
  refine q_iconst F dX12_write_1 ?_
  obtain ⟨J1, e2⟩ := ex1 (up2 J 1000 0 0)
  have hw := hw J1 e2
  have m3 : mM J1 := mM_I hm e2 (⟨by decide, by decide⟩ : inR (0))
  refine s_p_thrown F ib12 wd873 e2 dX12_write_2 ?_
  refine q_aload_n F 0 dX12_write_5 rfl rfl ?_
  refine s_g_w F ib12 wd884 dX12_write_6 ?_
  refine q_if_ne F (m3 _ _) 18 dX12_write_9 (by decide) (fun hc => ?_) (fun hc => ?_)
  · have hw := hw.1 hc
    refine q_aload_n F 0 dX12_write_18 rfl rfl ?_
    refine q_iconst F dX12_write_19 ?_
    obtain ⟨J4, e5⟩ := ex1 (up2 J1 1000 10 0)
    have hw := hw J4 e5
    have m6 : mM J4 := mM_I m3 e5 (⟨by decide, by decide⟩ : inR (0))
    refine s_p_papered F ib12 wd883 e5 dX12_write_20 ?_
    refine q_aload_n F 0 dX12_write_23 rfl rfl ?_
    refine q_ldcT F (sR_RX12_grid F) dX12_write_24 ?_
    refine q_VvM F (kcX12_put_ m6 (by decide) hw) (by decide) meObj (ci := 10) rfl (bV wd1067 wd1068 wd1318 wd13 wd1069) rfl ⟨rfl, rfl⟩ ydX12_put_ (rmK_le hR (by omega) (by decide)) (av := [.ref (E.2.1 1 14)]) rfl rfl (Nat.le_of_ble_eq_true rfl) dX12_write_26 (rmK_cs hR (by omega) (by omega)) (fun J8 m10 hw => ?_)
    refine q_aload_n F 0 dX12_write_29 rfl rfl ?_
    refine q_aload_n F 0 dX12_write_30 rfl rfl ?_
    refine s_g_w F ib12 wd884 dX12_write_31 ?_
    refine q_VvM F (kcX12_putNext m10 (m10 _ _) hw) (by decide) meObj (ci := 10) rfl (bV wd1073 wd1074 wd1320 wd13 wd1075) rfl ⟨rfl, rfl⟩ ydX12_putNext (rmK_le hR (by omega) (by decide)) (av := [iV ((J8 1000 11))]) rfl rfl (Nat.le_of_ble_eq_true rfl) dX12_write_34 (rmK_cs hR (by omega) (by omega)) (fun J12 m14 hw => ?_)
    refine q_aload_n F 0 dX12_write_37 rfl rfl ?_
    refine q_aload_n F 0 dX12_write_38 rfl rfl ?_
    refine s_g_h F ib12 wd885 dX12_write_39 ?_
    refine q_VvM F (kcX12_putNext m14 (m14 _ _) hw) (by decide) meObj (ci := 10) rfl (bV wd1073 wd1074 wd1320 wd13 wd1075) rfl ⟨rfl, rfl⟩ ydX12_putNext (rmK_le hR (by omega) (by decide)) (av := [iV ((J12 1000 12))]) rfl rfl (Nat.le_of_ble_eq_true rfl) dX12_write_42 (rmK_cs hR (by omega) (by omega)) (fun J16 m18 hw => ?_)
    refine q_aload_n F 0 dX12_write_45 rfl rfl ?_
    refine q_aload_n F 0 dX12_write_46 rfl rfl ?_
    refine s_g_k F ib12 wd886 dX12_write_47 ?_
    refine q_VvM F (kcX12_putNext m18 (m18 _ _) hw) (by decide) meObj (ci := 10) rfl (bV wd1073 wd1074 wd1320 wd13 wd1075) rfl ⟨rfl, rfl⟩ ydX12_putNext (rmK_le hR (by omega) (by decide)) (av := [iV ((J16 1000 13))]) rfl rfl (Nat.le_of_ble_eq_true rfl) dX12_write_50 (rmK_cs hR (by omega) (by omega)) (fun J20 m22 hw => ?_)
    refine q_aload_n F 0 dX12_write_53 rfl rfl ?_
    refine q_bipush F dX12_write_54 (by decide) ?_
    refine q_VvM F (kcX12_put m22 (⟨by decide, by decide⟩ : inR (59)) hw) (by decide) meObj (ci := 10) rfl (bV wd1070 wd1071 wd1319 wd13 wd1072) rfl ⟨rfl, rfl⟩ ydX12_put (rmK_le hR (by omega) (by decide)) (av := [iV 59]) rfl rfl (Nat.le_of_ble_eq_true rfl) dX12_write_56 (rmK_cs hR (by omega) (by omega)) (fun J24 m26 hw => ?_)
    refine q_iconst F dX12_write_59 ?_
    refine q_istore_n (lv' := [(0, .ref (E.1 1000)), (1, iV 0)]) F [1, 0] dX12_write_60 rfl (q_n hN (by decide)) rfl ?_
    obtain ⟨n27, hw⟩ := hw
    exact bX12_write_61 F hR hN hret n27 0 J24 (⟨by decide, by decide⟩ : inR (0)) m26 hw
  · have hw := hw.2 hc
    refine q_aload_n F 0 dX12_write_12 rfl rfl ?_
    refine q_iconst F dX12_write_13 ?_
    refine q_ViM F (kcX12_no m3 (⟨by decide, by decide⟩ : inR (1)) hw) (by decide) meObj (ci := 10) rfl (bV wd925 wd926 wd1285 wd13 wd927) rfl ⟨rfl, rfl⟩ ydX12_no (rmK_le hR (by omega) (by decide)) (av := [iV 1]) rfl rfl (Nat.le_of_ble_eq_true rfl) dX12_write_14 (rmK_cs hR (by omega) (by omega)) (fun r28 J29 h30 m31 hw => ?_)
    exact hret _ _ _ _ _ dX12_write_17 h30 m31 hw
theorem ydX12_byteAt : yX12_byteAt.cls = RX12 ∧ yX12_byteAt.cls ≠ "java/lang/invoke/MethodHandle" ∧ yX12_byteAt.cls ≠ "java/lang/invoke/VarHandle" ∧ (parseMethodDescriptor yX12_byteAt.desc).map (fun d => d.parameters.length) = some 1 := by decide +kernel
def vX12_byteAt : List Cond := Cond.code yX12_byteAt cX12_byteAt 2 (some .int) :: bG
set_option maxHeartbeats 4000000 in
set_option maxRecDepth 100000 in
theorem kcX12_byteAt {l : Launch} {D : va_G} {E : cE} {a1 : Int} {J : cI} (hm : mM J) (ha1 : inR a1) {Q : Int → cI → Prop} (hw : wX12_byteAt a1 J Q) : gM l D E mIds yX12_byteAt vX12_byteAt (rmK 2 (0) (0)) [.ref (E.1 1000), iV a1] (mef E J) (mef E) (oI Q) (0) (0) := by
  unfold wX12_byteAt at hw
  refine k_ofW (own := RX12) (cc := cX12_byteAt) (maxL := 2) (ret := (some .int)) (lv := [(0, .ref (E.1 1000)), (1, iV a1)]) (by decide) rfl rfl (Nat.le_of_ble_eq_true rfl) rfl ?_
  intro X hl hR hN hD F K
  subst hl; subst hD
  have hret := mk_rIM (Q := Q) F K
  refine q_aload_n F 0 dX12_byteAt_0 rfl rfl ?_
  refine q_iconst F dX12_byteAt_1 ?_
  obtain ⟨J1, e2⟩ := ex1 (up2 J 1000 0 0)
  have hw := hw J1 e2
  have m3 : mM J1 := mM_I hm e2 (⟨by decide, by decide⟩ : inR (0))
  refine s_p_thrown F ib12 wd873 e2 dX12_byteAt_2 ?_
  refine q_iload_n F 1 dX12_byteAt_5 rfl rfl ?_
  refine q_iconst F dX12_byteAt_6 ?_
  refine q_aload_n F 0 dX12_byteAt_7 rfl rfl ?_
  refine s_g_papered F ib12 wd883 dX12_byteAt_8 ?_
  refine q_iconst F dX12_byteAt_11 ?_
  refine q_isub F dX12_byteAt_12 ?_
  obtain ⟨k4, hw⟩ := hw
  refine q_SiM F (kcX12_isIn m3 ha1 (⟨by decide, by decide⟩ : inR (0)) k4 hw) (bS wd932 wd933 wd13 wd934) rfl ⟨rfl, rfl⟩ ydX12_isIn (rmK_le hR (by omega) (by decide)) (av := [iV a1, iV 0, iV (((J1 1000 10) - 1))]) rfl rfl (Nat.le_of_ble_eq_true rfl) dX12_byteAt_13 (rmK_cs hR (by omega) (by omega)) (fun r5 J6 h7 m8 hw => ?_)
  refine q_if_eq F h7 28 dX12_byteAt_16 (by decide) (fun hc => ?_) (fun hc => ?_)
  · have hw := hw.1 hc
    refine q_aload_n F 0 dX12_byteAt_28 rfl rfl ?_
    refine q_iconst F dX12_byteAt_29 ?_
    refine q_ViM F (kcX12_no m8 (⟨by decide, by decide⟩ : inR (1)) hw) (by decide) meObj (ci := 10) rfl (bV wd925 wd926 wd1285 wd13 wd927) rfl ⟨rfl, rfl⟩ ydX12_no (rmK_le hR (by omega) (by decide)) (av := [iV 1]) rfl rfl (Nat.le_of_ble_eq_true rfl) dX12_byteAt_30 (rmK_cs hR (by omega) (by omega)) (fun r9 J10 h11 m12 hw => ?_)
    exact hret _ _ _ _ _ dX12_byteAt_33 h11 m12 hw
  · have hw := hw.2 hc
    refine q_aload_n F 0 dX12_byteAt_19 rfl rfl ?_
    refine s_g_paper F ib12 wd882 dX12_byteAt_20 ?_
    refine q_iload_n F 1 dX12_byteAt_23 rfl rfl ?_
    obtain ⟨k13, hw⟩ := hw
    refine s_ald F 4000 kM_paper k13 (by decide) dX12_byteAt_24 ?_
    refine q_goto F 33 dX12_byteAt_25 (by decide) ?_
    exact hret _ _ _ _ _ dX12_byteAt_33 (m8 _ _) m8 hw
theorem ydX12_put__ : yX12_put__.cls = RX12 ∧ yX12_put__.cls ≠ "java/lang/invoke/MethodHandle" ∧ yX12_put__.cls ≠ "java/lang/invoke/VarHandle" ∧ (parseMethodDescriptor yX12_put__.desc).map (fun d => d.parameters.length) = some 2 := by decide +kernel
def vX12_put__ : List Cond := Cond.code yX12_put__ cX12_put__ 4 (some .int) :: bG
set_option maxHeartbeats 4000000 in
set_option maxRecDepth 100000 in
theorem kcX12_put__ {l : Launch} {D : va_G} {E : cE} {a1 : Int} {a2 : Int} {J : cI} (hm : mM J) (ha1 : inR a1) (ha2 : inR a2) {Q : Int → cI → Prop} (hw : wX12_put__ a1 a2 J Q) : gM l D E mIds yX12_put__ vX12_put__ (rmK 3 (0) (0)) [.ref (E.1 1000), iV a1, iV a2] (mef E J) (mef E) (oI Q) (0) (0) := by
  unfold wX12_put__ at hw
  refine k_ofW (own := RX12) (cc := cX12_put__) (maxL := 4) (ret := (some .int)) (lv := [(0, .ref (E.1 1000)), (1, iV a1), (2, iV a2)]) (by decide) rfl rfl (Nat.le_of_ble_eq_true rfl) rfl ?_
  intro X hl hR hN hD F K
  subst hl; subst hD
  have hret := mk_rIM (Q := Q) F K
  refine q_aload_n F 0 dX12_put___0 rfl rfl ?_
  refine q_iconst F dX12_put___1 ?_
  obtain ⟨J1, e2⟩ := ex1 (up2 J 1000 0 0)
  have hw := hw J1 e2
  have m3 : mM J1 := mM_I hm e2 (⟨by decide, by decide⟩ : inR (0))
  refine s_p_thrown F ib12 wd873 e2 dX12_put___2 ?_
  refine q_aload_n F 0 dX12_put___5 rfl rfl ?_
  refine q_iload_n F 1 dX12_put___6 rfl rfl ?_
  refine q_ViM F (kcX12_isCell m3 ha1 hw) (by decide) meObj (ci := 10) rfl (bV wd1087 wd1088 wd1322 wd13 wd1089) rfl ⟨rfl, rfl⟩ ydX12_isCell (rmK_le hR (by omega) (by decide)) (av := [iV a1]) rfl rfl (Nat.le_of_ble_eq_true rfl) dX12_put___7 (rmK_cs hR (by omega) (by omega)) (fun r4 J5 h6 m7 hw => ?_)
  refine q_if_ne F h6 19 dX12_put___10 (by decide) (fun hc => ?_) (fun hc => ?_)
  · have hw := hw.1 hc
    refine q_iload_n F 2 dX12_put___19 rfl rfl ?_
    refine q_iconst F dX12_put___20 ?_
    refine q_aload_n F 0 dX12_put___21 rfl rfl ?_
    refine s_g_k F ib12 wd886 dX12_put___22 ?_
    refine q_SiM F (kcX12_isIn m7 ha2 (⟨by decide, by decide⟩ : inR (0)) (m7 _ _) hw) (bS wd932 wd933 wd13 wd934) rfl ⟨rfl, rfl⟩ ydX12_isIn (rmK_le hR (by omega) (by decide)) (av := [iV a2, iV 0, iV ((J5 1000 13))]) rfl rfl (Nat.le_of_ble_eq_true rfl) dX12_put___25 (rmK_cs hR (by omega) (by omega)) (fun r8 J9 h10 m11 hw => ?_)
    refine q_if_ne F h10 37 dX12_put___28 (by decide) (fun hc => ?_) (fun hc => ?_)
    · have hw := hw.1 hc
      refine q_aload_n F 0 dX12_put___37 rfl rfl ?_
      refine s_g_grid F ib12 wd893 dX12_put___38 ?_
      refine q_iload_n F 1 dX12_put___41 rfl rfl ?_
      obtain ⟨k12, hw⟩ := hw
      refine s_ald F 25 kM_grid k12 (by decide) dX12_put___42 ?_
      obtain ⟨z13, e14⟩ := ex1 ((J9 1020 a1))
      have hw := hw z13 e14
      have hz13 : inR z13 := by rw [e14]; exact (m11 _ _)
      refine q_top e14 ?_
      refine q_istore_n (lv' := [(0, .ref (E.1 1000)), (1, iV a1), (2, iV a2), (3, iV z13)]) F [1, 2, 3, 0] dX12_put___43 rfl (q_n hN (by decide)) rfl ?_
      refine q_aload_n F 0 dX12_put___44 rfl rfl ?_
      refine s_g_grid F ib12 wd893 dX12_put___45 ?_
      refine q_iload_n F 1 dX12_put___48 rfl rfl ?_
      refine q_iload_n F 2 dX12_put___49 rfl rfl ?_
      obtain ⟨k15, hw⟩ := hw
      obtain ⟨J16, e17⟩ := ex1 (up2 J9 1020 a1 a2)
      have hw := hw J16 e17
      have m18 : mM J16 := mM_I m11 e17 ha2
      refine s_ast F 25 kM_grid k15 (by decide) e17 dX12_put___50 ?_
      refine q_iload_n F 3 dX12_put___51 rfl rfl ?_
      exact hret _ _ _ _ _ dX12_put___52 hz13 m18 hw
    · have hw := hw.2 hc
      refine q_aload_n F 0 dX12_put___31 rfl rfl ?_
      refine q_iconst F dX12_put___32 ?_
      refine q_ViM F (kcX12_no m11 (⟨by decide, by decide⟩ : inR (2)) hw) (by decide) meObj (ci := 10) rfl (bV wd925 wd926 wd1285 wd13 wd927) rfl ⟨rfl, rfl⟩ ydX12_no (rmK_le hR (by omega) (by decide)) (av := [iV 2]) rfl rfl (Nat.le_of_ble_eq_true rfl) dX12_put___33 (rmK_cs hR (by omega) (by omega)) (fun r19 J20 h21 m22 hw => ?_)
      exact hret _ _ _ _ _ dX12_put___36 h21 m22 hw
  · have hw := hw.2 hc
    refine q_aload_n F 0 dX12_put___13 rfl rfl ?_
    refine q_iconst F dX12_put___14 ?_
    refine q_ViM F (kcX12_no m7 (⟨by decide, by decide⟩ : inR (1)) hw) (by decide) meObj (ci := 10) rfl (bV wd925 wd926 wd1285 wd13 wd927) rfl ⟨rfl, rfl⟩ ydX12_no (rmK_le hR (by omega) (by decide)) (av := [iV 1]) rfl rfl (Nat.le_of_ble_eq_true rfl) dX12_put___15 (rmK_cs hR (by omega) (by omega)) (fun r23 J24 h25 m26 hw => ?_)
    exact hret _ _ _ _ _ dX12_put___18 h25 m26 hw
theorem ydX12_value : yX12_value.cls = RX12 ∧ yX12_value.cls ≠ "java/lang/invoke/MethodHandle" ∧ yX12_value.cls ≠ "java/lang/invoke/VarHandle" ∧ (parseMethodDescriptor yX12_value.desc).map (fun d => d.parameters.length) = some 1 := by decide +kernel
def vX12_value : List Cond := Cond.code yX12_value cX12_value 2 (some .int) :: bG
set_option maxHeartbeats 4000000 in
set_option maxRecDepth 100000 in
theorem kcX12_value {l : Launch} {D : va_G} {E : cE} {a1 : Int} {J : cI} (hm : mM J) (ha1 : inR a1) {Q : Int → cI → Prop} (hw : wX12_value a1 J Q) : gM l D E mIds yX12_value vX12_value (rmK 3 (0) (0)) [.ref (E.1 1000), iV a1] (mef E J) (mef E) (oI Q) (0) (0) := by
  unfold wX12_value at hw
  refine k_ofW (own := RX12) (cc := cX12_value) (maxL := 2) (ret := (some .int)) (lv := [(0, .ref (E.1 1000)), (1, iV a1)]) (by decide) rfl rfl (Nat.le_of_ble_eq_true rfl) rfl ?_
  intro X hl hR hN hD F K
  subst hl; subst hD
  have hret := mk_rIM (Q := Q) F K
  refine q_aload_n F 0 dX12_value_0 rfl rfl ?_
  refine q_iconst F dX12_value_1 ?_
  obtain ⟨J1, e2⟩ := ex1 (up2 J 1000 0 0)
  have hw := hw J1 e2
  have m3 : mM J1 := mM_I hm e2 (⟨by decide, by decide⟩ : inR (0))
  refine s_p_thrown F ib12 wd873 e2 dX12_value_2 ?_
  refine q_aload_n F 0 dX12_value_5 rfl rfl ?_
  refine q_iload_n F 1 dX12_value_6 rfl rfl ?_
  refine q_ViM F (kcX12_isCell m3 ha1 hw) (by decide) meObj (ci := 10) rfl (bV wd1087 wd1088 wd1322 wd13 wd1089) rfl ⟨rfl, rfl⟩ ydX12_isCell (rmK_le hR (by omega) (by decide)) (av := [iV a1]) rfl rfl (Nat.le_of_ble_eq_true rfl) dX12_value_7 (rmK_cs hR (by omega) (by omega)) (fun r4 J5 h6 m7 hw => ?_)
  refine q_if_eq F h6 22 dX12_value_10 (by decide) (fun hc => ?_) (fun hc => ?_)
  · have hw := hw.1 hc
    refine q_aload_n F 0 dX12_value_22 rfl rfl ?_
    refine q_iconst F dX12_value_23 ?_
    refine q_ViM F (kcX12_no m7 (⟨by decide, by decide⟩ : inR (1)) hw) (by decide) meObj (ci := 10) rfl (bV wd925 wd926 wd1285 wd13 wd927) rfl ⟨rfl, rfl⟩ ydX12_no (rmK_le hR (by omega) (by decide)) (av := [iV 1]) rfl rfl (Nat.le_of_ble_eq_true rfl) dX12_value_24 (rmK_cs hR (by omega) (by omega)) (fun r8 J9 h10 m11 hw => ?_)
    exact hret _ _ _ _ _ dX12_value_27 h10 m11 hw
  · have hw := hw.2 hc
    refine q_aload_n F 0 dX12_value_13 rfl rfl ?_
    refine s_g_grid F ib12 wd893 dX12_value_14 ?_
    refine q_iload_n F 1 dX12_value_17 rfl rfl ?_
    obtain ⟨k12, hw⟩ := hw
    refine s_ald F 25 kM_grid k12 (by decide) dX12_value_18 ?_
    refine q_goto F 27 dX12_value_19 (by decide) ?_
    exact hret _ _ _ _ _ dX12_value_27 (m7 _ _) m7 hw
theorem ydX12_clear : yX12_clear.cls = RX12 ∧ yX12_clear.cls ≠ "java/lang/invoke/MethodHandle" ∧ yX12_clear.cls ≠ "java/lang/invoke/VarHandle" ∧ (parseMethodDescriptor yX12_clear.desc).map (fun d => d.parameters.length) = some 0 := by decide +kernel
def vX12_clear : List Cond := Cond.code yX12_clear cX12_clear 3 (some .int) :: bG
set_option maxHeartbeats 4000000 in
set_option maxRecDepth 100000 in
theorem bX12_clear_12 {X : xC} {E : cE} (F : mF X E RX12 cX12_clear bG) (hR : X.1.2.2.2 = rmK 3 (0) (0)) (hN : X.2.2.1.2.2.2 = 3) {Q : Int → cI → Prop} (hret : rIM X E cX12_clear (0) (0) Q)   : ∀ n12 : Nat, ∀ (x1 : Int) (x2 : Int) (J : cI), inR x1 → inR x2 → mM J → wX12_clear_12 Q n12 x1 x2 J → cW X (0) (0) 12 [(0, .ref (E.1 1000)), (1, iV x1), (2, iV x2)] [] (gw E.1 mIds (mef E J) ++ []) := by
  intro n12
  induction n12 with
  | zero => intro x1 x2 J hx1 hx2 hm hw; exact hw.elim
  | succ n12 ih =>
    intro x1 x2 J hx1 hx2 hm hw
    change wbX12_clear_12 Q (wX12_clear_12 Q n12) x1 x2 J at hw
    unfold wbX12_clear_12 at hw
    refine q_iload_n F 2 dX12_clear_12 rfl rfl ?_
    refine q_bipush F dX12_clear_13 (by decide) ?_
    refine q_icmp_ge F hx2 (⟨by decide, by decide⟩ : inR (25)) 31 dX12_clear_15 (by decide) (fun hc => ?_) (fun hc => ?_)
    · have hw := hw.1 hc
      refine q_iload_n F 1 dX12_clear_31 rfl rfl ?_
      exact hret _ _ _ _ _ dX12_clear_32 hx1 hm hw
    · have hw := hw.2 hc
      refine q_aload_n F 0 dX12_clear_18 rfl rfl ?_
      refine s_g_grid F ib12 wd893 dX12_clear_19 ?_
      refine q_iload_n F 2 dX12_clear_22 rfl rfl ?_
      refine q_iconst F dX12_clear_23 ?_
      obtain ⟨k1, hw⟩ := hw
      obtain ⟨J2, e3⟩ := ex1 (up2 J 1020 x2 0)
      have hw := hw J2 e3
      have m4 : mM J2 := mM_I hm e3 (⟨by decide, by decide⟩ : inR (0))
      refine s_ast F 25 kM_grid k1 (by decide) e3 dX12_clear_24 ?_
      obtain ⟨k7, hw⟩ := hw
      obtain ⟨z5, e6⟩ := ex1 (x2 + 1)
      have hw := hw z5 e6
      have hz5 : inR z5 := by rw [e6]; exact k7
      refine q_iinc (lv' := [(0, .ref (E.1 1000)), (1, iV x1), (2, iV z5)]) F 2 [1, 2, 0] dX12_clear_25 rfl (q_n hN (by decide)) e6.symm rfl ?_
      refine q_goto F 12 dX12_clear_28 (by decide) ?_
      exact ih x1 z5 J2 hx1 hz5 m4 hw
set_option maxHeartbeats 4000000 in
set_option maxRecDepth 100000 in
theorem kcX12_clear {l : Launch} {D : va_G} {E : cE} {J : cI} (hm : mM J)  {Q : Int → cI → Prop} (hw : wX12_clear  J Q) : gM l D E mIds yX12_clear vX12_clear (rmK 3 (0) (0)) [.ref (E.1 1000)] (mef E J) (mef E) (oI Q) (0) (0) := by
  unfold wX12_clear at hw
  refine k_ofW (own := RX12) (cc := cX12_clear) (maxL := 3) (ret := (some .int)) (lv := [(0, .ref (E.1 1000))]) (by decide) rfl rfl (Nat.le_of_ble_eq_true rfl) rfl ?_
  intro X hl hR hN hD F K
  subst hl; subst hD
  have hret := mk_rIM (Q := Q) F K
  refine q_aload_n F 0 dX12_clear_0 rfl rfl ?_
  refine q_iconst F dX12_clear_1 ?_
  obtain ⟨J1, e2⟩ := ex1 (up2 J 1000 0 0)
  have hw := hw J1 e2
  have m3 : mM J1 := mM_I hm e2 (⟨by decide, by decide⟩ : inR (0))
  refine s_p_thrown F ib12 wd873 e2 dX12_clear_2 ?_
  refine q_aload_n F 0 dX12_clear_5 rfl rfl ?_
  refine q_ViM F (kcX12_filled m3 hw) (by decide) meObj (ci := 10) rfl (bV wd1021 wd1022 wd1308 wd13 wd1023) rfl ⟨rfl, rfl⟩ ydX12_filled (rmK_le hR (by omega) (by decide)) (av := []) rfl rfl (Nat.le_of_ble_eq_true rfl) dX12_clear_6 (rmK_cs hR (by omega) (by omega)) (fun r4 J5 h6 m7 hw => ?_)
  refine q_istore_n (lv' := [(0, .ref (E.1 1000)), (1, iV r4)]) F [1, 0] dX12_clear_9 rfl (q_n hN (by decide)) rfl ?_
  refine q_iconst F dX12_clear_10 ?_
  refine q_istore_n (lv' := [(0, .ref (E.1 1000)), (1, iV r4), (2, iV 0)]) F [1, 2, 0] dX12_clear_11 rfl (q_n hN (by decide)) rfl ?_
  obtain ⟨n8, hw⟩ := hw
  exact bX12_clear_12 F hR hN hret n8 r4 0 J5 h6 (⟨by decide, by decide⟩ : inR (0)) m7 hw
theorem ydX12_hasCell : yX12_hasCell.cls = RX12 ∧ yX12_hasCell.cls ≠ "java/lang/invoke/MethodHandle" ∧ yX12_hasCell.cls ≠ "java/lang/invoke/VarHandle" ∧ (parseMethodDescriptor yX12_hasCell.desc).map (fun d => d.parameters.length) = some 2 := by decide +kernel
def vX12_hasCell : List Cond := Cond.code yX12_hasCell cX12_hasCell 5 (some .boolean) :: bG
set_option maxHeartbeats 4000000 in
set_option maxRecDepth 100000 in
theorem bX12_hasCell_5 {X : xC} {E : cE} (F : mF X E RX12 cX12_hasCell bG) (hR : X.1.2.2.2 = rmK 2 (0) (0)) (hN : X.2.2.1.2.2.2 = 5) {Q : Int → cI → Prop} (hret : rZM X E cX12_hasCell (0) (0) Q) {a1 : Int} {a2 : Int} (ha1 : inR a1) (ha2 : inR a2) : ∀ n5 : Nat, ∀ (x3 : Int) (x4 : Int) (J : cI), inR x3 → inR x4 → mM J → wX12_hasCell_5 Q a1 a2 n5 x3 x4 J → cW X (0) (0) 5 [(0, .ref (E.1 1000)), (1, iV a1), (2, iV a2), (3, iV x3), (4, iV x4)] [] (gw E.1 mIds (mef E J) ++ []) := by
  intro n5
  induction n5 with
  | zero => intro x3 x4 J hx3 hx4 hm hw; exact hw.elim
  | succ n5 ih =>
    intro x3 x4 J hx3 hx4 hm hw
    change wbX12_hasCell_5 Q a1 a2 (wX12_hasCell_5 Q a1 a2 n5) x3 x4 J at hw
    unfold wbX12_hasCell_5 at hw
    refine q_iload F 4 dX12_hasCell_5 rfl ?_
    refine q_aload_n F 0 dX12_hasCell_7 rfl rfl ?_
    refine s_g_ruleSize F ib12 wd891 dX12_hasCell_8 ?_
    refine q_iload_n F 1 dX12_hasCell_11 rfl rfl ?_
    obtain ⟨k1, hw⟩ := hw
    refine s_ald F 70 kM_ruleSize k1 (by decide) dX12_hasCell_12 ?_
    refine q_icmp_ge F hx4 (hm _ _) 43 dX12_hasCell_13 (by decide) (fun hc => ?_) (fun hc => ?_)
    · have hw := hw.1 hc
      refine q_iload_n F 3 dX12_hasCell_43 rfl rfl ?_
      obtain ⟨k2, hw⟩ := hw
      exact hret _ _ _ _ _ dX12_hasCell_44 k2 hx3 hm hw
    · have hw := hw.2 hc
      refine q_iload_n F 3 dX12_hasCell_16 rfl rfl ?_
      refine q_if_ne F hx3 31 dX12_hasCell_17 (by decide) (fun hc => ?_) (fun hc => ?_)
      · have hw := hw.1 hc
        refine q_iconst F dX12_hasCell_31 ?_
        refine q_goto F 36 dX12_hasCell_32 (by decide) ?_
        refine q_istore_n (lv' := [(0, .ref (E.1 1000)), (1, iV a1), (2, iV a2), (3, iV 1), (4, iV x4)]) F [1, 2, 3, 0, 4] dX12_hasCell_36 rfl (q_n hN (by decide)) rfl ?_
        obtain ⟨k5, hw⟩ := hw
        obtain ⟨z3, e4⟩ := ex1 (x4 + 1)
        have hw := hw z3 e4
        have hz3 : inR z3 := by rw [e4]; exact k5
        refine q_iinc (lv' := [(0, .ref (E.1 1000)), (1, iV a1), (2, iV a2), (3, iV 1), (4, iV z3)]) F 4 [1, 2, 3, 4, 0] dX12_hasCell_37 rfl (q_n hN (by decide)) e4.symm rfl ?_
        refine q_goto F 5 dX12_hasCell_40 (by decide) ?_
        exact ih 1 z3 J (⟨by decide, by decide⟩ : inR (1)) hz3 hm hw
      · have hw := hw.2 hc
        refine q_aload_n F 0 dX12_hasCell_20 rfl rfl ?_
        refine q_iload_n F 1 dX12_hasCell_21 rfl rfl ?_
        refine q_iload F 4 dX12_hasCell_22 rfl ?_
        refine q_ViM F (kcX12_cellOf hm ha1 hx4 hw) (by decide) meObj (ci := 10) rfl (bV wd1030 wd1031 wd1311 wd13 wd1032) rfl ⟨rfl, rfl⟩ ydX12_cellOf (rmK_le hR (by omega) (by decide)) (av := [iV a1, iV x4]) rfl rfl (Nat.le_of_ble_eq_true rfl) dX12_hasCell_24 (rmK_cs hR (by omega) (by omega)) (fun r6 J7 h8 m9 hw => ?_)
        refine q_iload_n F 2 dX12_hasCell_27 rfl rfl ?_
        refine q_icmp_ne F h8 ha2 35 dX12_hasCell_28 (by decide) (fun hc => ?_) (fun hc => ?_)
        · have hw := hw.1 hc
          refine q_iconst F dX12_hasCell_35 ?_
          refine q_istore_n (lv' := [(0, .ref (E.1 1000)), (1, iV a1), (2, iV a2), (3, iV 0), (4, iV x4)]) F [1, 2, 3, 0, 4] dX12_hasCell_36 rfl (q_n hN (by decide)) rfl ?_
          obtain ⟨k12, hw⟩ := hw
          obtain ⟨z10, e11⟩ := ex1 (x4 + 1)
          have hw := hw z10 e11
          have hz10 : inR z10 := by rw [e11]; exact k12
          refine q_iinc (lv' := [(0, .ref (E.1 1000)), (1, iV a1), (2, iV a2), (3, iV 0), (4, iV z10)]) F 4 [1, 2, 3, 4, 0] dX12_hasCell_37 rfl (q_n hN (by decide)) e11.symm rfl ?_
          refine q_goto F 5 dX12_hasCell_40 (by decide) ?_
          exact ih 0 z10 J7 (⟨by decide, by decide⟩ : inR (0)) hz10 m9 hw
        · have hw := hw.2 hc
          refine q_iconst F dX12_hasCell_31 ?_
          refine q_goto F 36 dX12_hasCell_32 (by decide) ?_
          refine q_istore_n (lv' := [(0, .ref (E.1 1000)), (1, iV a1), (2, iV a2), (3, iV 1), (4, iV x4)]) F [1, 2, 3, 0, 4] dX12_hasCell_36 rfl (q_n hN (by decide)) rfl ?_
          obtain ⟨k15, hw⟩ := hw
          obtain ⟨z13, e14⟩ := ex1 (x4 + 1)
          have hw := hw z13 e14
          have hz13 : inR z13 := by rw [e14]; exact k15
          refine q_iinc (lv' := [(0, .ref (E.1 1000)), (1, iV a1), (2, iV a2), (3, iV 1), (4, iV z13)]) F 4 [1, 2, 3, 4, 0] dX12_hasCell_37 rfl (q_n hN (by decide)) e14.symm rfl ?_
          refine q_goto F 5 dX12_hasCell_40 (by decide) ?_
          exact ih 1 z13 J7 (⟨by decide, by decide⟩ : inR (1)) hz13 m9 hw
set_option maxHeartbeats 4000000 in
set_option maxRecDepth 100000 in
theorem kcX12_hasCell {l : Launch} {D : va_G} {E : cE} {a1 : Int} {a2 : Int} {J : cI} (hm : mM J) (ha1 : inR a1) (ha2 : inR a2) {Q : Int → cI → Prop} (hw : wX12_hasCell a1 a2 J Q) : gM l D E mIds yX12_hasCell vX12_hasCell (rmK 2 (0) (0)) [.ref (E.1 1000), iV a1, iV a2] (mef E J) (mef E) (oI Q) (0) (0) := by
  unfold wX12_hasCell at hw
  refine k_ofW (own := RX12) (cc := cX12_hasCell) (maxL := 5) (ret := (some .boolean)) (lv := [(0, .ref (E.1 1000)), (1, iV a1), (2, iV a2)]) (by decide) rfl rfl (Nat.le_of_ble_eq_true rfl) rfl ?_
  intro X hl hR hN hD F K
  subst hl; subst hD
  have hret := mk_rZM (Q := Q) F K
  refine q_iconst F dX12_hasCell_0 ?_
  refine q_istore_n (lv' := [(0, .ref (E.1 1000)), (1, iV a1), (2, iV a2), (3, iV 0)]) F [1, 2, 3, 0] dX12_hasCell_1 rfl (q_n hN (by decide)) rfl ?_
  refine q_iconst F dX12_hasCell_2 ?_
  refine q_istore (lv' := [(0, .ref (E.1 1000)), (1, iV a1), (2, iV a2), (3, iV 0), (4, iV 0)]) F [1, 2, 3, 4, 0] dX12_hasCell_3 (q_n hN (by decide)) rfl ?_
  obtain ⟨n1, hw⟩ := hw
  exact bX12_hasCell_5 F hR hN hret ha1 ha2 n1 0 0 J (⟨by decide, by decide⟩ : inR (0)) (⟨by decide, by decide⟩ : inR (0)) hm hw
theorem ydX12_isAmiss : yX12_isAmiss.cls = RX12 ∧ yX12_isAmiss.cls ≠ "java/lang/invoke/MethodHandle" ∧ yX12_isAmiss.cls ≠ "java/lang/invoke/VarHandle" ∧ (parseMethodDescriptor yX12_isAmiss.desc).map (fun d => d.parameters.length) = some 2 := by decide +kernel
def vX12_isAmiss : List Cond := Cond.code yX12_isAmiss cX12_isAmiss 4 (some .boolean) :: bG
set_option maxHeartbeats 4000000 in
set_option maxRecDepth 100000 in
theorem bX12_isAmiss_2 {X : xC} {E : cE} (F : mF X E RX12 cX12_isAmiss bG) (hR : X.1.2.2.2 = rmK 4 (0) (0)) (hN : X.2.2.1.2.2.2 = 4) {Q : Int → cI → Prop} (hret : rZM X E cX12_isAmiss (0) (0) Q) {a1 : Int} {a2 : Int} (ha1 : inR a1) (ha2 : inR a2) : ∀ n2 : Nat, ∀ (x3 : Int) (J : cI), inR x3 → mM J → wX12_isAmiss_2 Q a1 a2 n2 x3 J → cW X (0) (0) 2 [(0, .ref (E.1 1000)), (1, iV a1), (2, iV a2), (3, iV x3)] [] (gw E.1 mIds (mef E J) ++ []) := by
  intro n2
  induction n2 with
  | zero => intro x3 J hx3 hm hw; exact hw.elim
  | succ n2 ih =>
    intro x3 J hx3 hm hw
    change wbX12_isAmiss_2 Q a1 a2 (wX12_isAmiss_2 Q a1 a2 n2) x3 J at hw
    unfold wbX12_isAmiss_2 at hw
    refine q_iload_n F 3 dX12_isAmiss_2 rfl rfl ?_
    refine q_aload_n F 0 dX12_isAmiss_3 rfl rfl ?_
    refine s_g_rules F ib12 wd887 dX12_isAmiss_4 ?_
    refine q_icmp_ge F hx3 (hm _ _) 44 dX12_isAmiss_7 (by decide) (fun hc => ?_) (fun hc => ?_)
    · have hw := hw.1 hc
      refine q_iconst F dX12_isAmiss_44 ?_
      exact hret _ _ _ _ _ dX12_isAmiss_45 (Or.inl rfl) (⟨by decide, by decide⟩ : inR (0)) hm hw
    · have hw := hw.2 hc
      refine q_iload_n F 3 dX12_isAmiss_10 rfl rfl ?_
      refine q_iload_n F 2 dX12_isAmiss_11 rfl rfl ?_
      refine q_icmp_eq F hx3 ha2 38 dX12_isAmiss_12 (by decide) (fun hc => ?_) (fun hc => ?_)
      · have hw := hw.1 hc
        obtain ⟨k3, hw⟩ := hw
        obtain ⟨z1, e2⟩ := ex1 (x3 + 1)
        have hw := hw z1 e2
        have hz1 : inR z1 := by rw [e2]; exact k3
        refine q_iinc (lv' := [(0, .ref (E.1 1000)), (1, iV a1), (2, iV a2), (3, iV z1)]) F 3 [1, 2, 3, 0] dX12_isAmiss_38 rfl (q_n hN (by decide)) e2.symm rfl ?_
        refine q_goto F 2 dX12_isAmiss_41 (by decide) ?_
        exact ih z1 J hz1 hm hw
      · have hw := hw.2 hc
        refine q_aload_n F 0 dX12_isAmiss_15 rfl rfl ?_
        refine q_iload_n F 3 dX12_isAmiss_16 rfl rfl ?_
        refine q_iload_n F 1 dX12_isAmiss_17 rfl rfl ?_
        refine q_ViM F (kcX12_hasCell hm hx3 ha1 hw) (by decide) meObj (ci := 10) rfl (bV wd1111 wd1112 wd1326 wd13 wd1113) rfl ⟨rfl, rfl⟩ ydX12_hasCell (rmK_le hR (by omega) (by decide)) (av := [iV x3, iV a1]) rfl rfl (Nat.le_of_ble_eq_true rfl) dX12_isAmiss_18 (rmK_cs hR (by omega) (by omega)) (fun r4 J5 h6 m7 hw => ?_)
        refine q_if_eq F h6 38 dX12_isAmiss_21 (by decide) (fun hc => ?_) (fun hc => ?_)
        · have hw := hw.1 hc
          obtain ⟨k10, hw⟩ := hw
          obtain ⟨z8, e9⟩ := ex1 (x3 + 1)
          have hw := hw z8 e9
          have hz8 : inR z8 := by rw [e9]; exact k10
          refine q_iinc (lv' := [(0, .ref (E.1 1000)), (1, iV a1), (2, iV a2), (3, iV z8)]) F 3 [1, 2, 3, 0] dX12_isAmiss_38 rfl (q_n hN (by decide)) e9.symm rfl ?_
          refine q_goto F 2 dX12_isAmiss_41 (by decide) ?_
          exact ih z8 J5 hz8 m7 hw
        · have hw := hw.2 hc
          refine q_aload_n F 0 dX12_isAmiss_24 rfl rfl ?_
          refine q_iload_n F 3 dX12_isAmiss_25 rfl rfl ?_
          refine q_aload_n F 0 dX12_isAmiss_26 rfl rfl ?_
          refine s_g_fill F ib12 wd894 dX12_isAmiss_27 ?_
          refine q_ViM F (kcX12_isBroken m7 hx3 kM_fill hw) (by decide) meObj (ci := 10) rfl (bV wd1027 wd1028 wd1310 wd13 wd1029) rfl ⟨rfl, rfl⟩ ydX12_isBroken (rmK_le hR (by omega) (by decide)) (av := [iV x3, .ref (E.1 1021)]) rfl rfl (Nat.le_of_ble_eq_true rfl) dX12_isAmiss_30 (rmK_cs hR (by omega) (by omega)) (fun r11 J12 h13 m14 hw => ?_)
          refine q_if_eq F h13 38 dX12_isAmiss_33 (by decide) (fun hc => ?_) (fun hc => ?_)
          · have hw := hw.1 hc
            obtain ⟨k17, hw⟩ := hw
            obtain ⟨z15, e16⟩ := ex1 (x3 + 1)
            have hw := hw z15 e16
            have hz15 : inR z15 := by rw [e16]; exact k17
            refine q_iinc (lv' := [(0, .ref (E.1 1000)), (1, iV a1), (2, iV a2), (3, iV z15)]) F 3 [1, 2, 3, 0] dX12_isAmiss_38 rfl (q_n hN (by decide)) e16.symm rfl ?_
            refine q_goto F 2 dX12_isAmiss_41 (by decide) ?_
            exact ih z15 J12 hz15 m14 hw
          · have hw := hw.2 hc
            refine q_iconst F dX12_isAmiss_36 ?_
            exact hret _ _ _ _ _ dX12_isAmiss_37 (Or.inr rfl) (⟨by decide, by decide⟩ : inR (1)) m14 hw
set_option maxHeartbeats 4000000 in
set_option maxRecDepth 100000 in
theorem kcX12_isAmiss {l : Launch} {D : va_G} {E : cE} {a1 : Int} {a2 : Int} {J : cI} (hm : mM J) (ha1 : inR a1) (ha2 : inR a2) {Q : Int → cI → Prop} (hw : wX12_isAmiss a1 a2 J Q) : gM l D E mIds yX12_isAmiss vX12_isAmiss (rmK 4 (0) (0)) [.ref (E.1 1000), iV a1, iV a2] (mef E J) (mef E) (oI Q) (0) (0) := by
  unfold wX12_isAmiss at hw
  refine k_ofW (own := RX12) (cc := cX12_isAmiss) (maxL := 4) (ret := (some .boolean)) (lv := [(0, .ref (E.1 1000)), (1, iV a1), (2, iV a2)]) (by decide) rfl rfl (Nat.le_of_ble_eq_true rfl) rfl ?_
  intro X hl hR hN hD F K
  subst hl; subst hD
  have hret := mk_rZM (Q := Q) F K
  refine q_iconst F dX12_isAmiss_0 ?_
  refine q_istore_n (lv' := [(0, .ref (E.1 1000)), (1, iV a1), (2, iV a2), (3, iV 0)]) F [1, 2, 3, 0] dX12_isAmiss_1 rfl (q_n hN (by decide)) rfl ?_
  obtain ⟨n1, hw⟩ := hw
  exact bX12_isAmiss_2 F hR hN hret ha1 ha2 n1 0 J (⟨by decide, by decide⟩ : inR (0)) hm hw
theorem ydX12_look : yX12_look.cls = RX12 ∧ yX12_look.cls ≠ "java/lang/invoke/MethodHandle" ∧ yX12_look.cls ≠ "java/lang/invoke/VarHandle" ∧ (parseMethodDescriptor yX12_look.desc).map (fun d => d.parameters.length) = some 2 := by decide +kernel
def vX12_look : List Cond := Cond.code yX12_look cX12_look 7 (some .int) :: bG
set_option maxHeartbeats 4000000 in
set_option maxRecDepth 100000 in
theorem bX12_look_232 {X : xC} {E : cE} (F : mF X E RX12 cX12_look bG) (hR : X.1.2.2.2 = rmK 5 (1) (25)) (hN : X.2.2.1.2.2.2 = 7) {Q : Int → cI → Prop} (hret : rIM X E cX12_look (1) (25) Q) {a1 : Int} {a2 : Int} (ha1 : inR a1) (ha2 : inR a2) {K69 : Int → Int → (Int → Int) → cI → Prop} (hK69 : ∀ (x3 : Int) (x5 : Int) (q0 : Nat) (f0 : Int → Int) (J : cI), inR x3 → inR x5 → (∀ x, inR (f0 x)) → mM J → K69 x3 x5 f0 J → cW X (1) (25) 69 [(0, .ref (E.1 1000)), (1, iV a1), (2, iV a2), (3, iV x3), (4, .ref q0), (5, iV x5)] [] (gw E.1 mIds (mef E J) ++ [(q0, iA E 25 f0)])) : ∀ n232 : Nat, ∀ (x3 : Int) (x5 : Int) (x6 : Int) (q0 : Nat) (f0 : Int → Int) (J : cI), inR x3 → inR x5 → inR x6 → (∀ x, inR (f0 x)) → mM J → wX12_look_232 Q a1 a2 K69 n232 x3 x5 x6 f0 J → cW X (1) (25) 232 [(0, .ref (E.1 1000)), (1, iV a1), (2, iV a2), (3, iV x3), (4, .ref q0), (5, iV x5), (6, iV x6)] [] (gw E.1 mIds (mef E J) ++ [(q0, iA E 25 f0)]) := by
  intro n232
  induction n232 with
  | zero => intro x3 x5 x6 q0 f0 J hx3 hx5 hx6 hf0 hm hw; exact hw.elim
  | succ n232 ih =>
    intro x3 x5 x6 q0 f0 J hx3 hx5 hx6 hf0 hm hw
    change wbX12_look_232 Q a1 a2 K69 (wX12_look_232 Q a1 a2 K69 n232) x3 x5 x6 f0 J at hw
    unfold wbX12_look_232 at hw
    refine q_iload F 6 dX12_look_232 rfl ?_
    refine q_iload_n F 3 dX12_look_234 rfl rfl ?_
    refine q_icmp_ge F hx6 hx3 266 dX12_look_235 (by decide) (fun hc => ?_) (fun hc => ?_)
    · have hw := hw.1 hc
      refine q_aload_n F 0 dX12_look_266 rfl rfl ?_
      refine q_dup F dX12_look_267 rfl ?_
      refine s_g_found F ib12 wd898 dX12_look_268 ?_
      refine q_iconst F dX12_look_271 ?_
      refine q_iadd F dX12_look_272 ?_
      obtain ⟨k1, hw⟩ := hw
      obtain ⟨J2, e3⟩ := ex1 (up2 J 1000 25 (((J 1000 25) + 1)))
      have hw := hw J2 e3
      have m4 : mM J2 := mM_I hm e3 k1
      refine s_p_found F ib12 wd898 e3 dX12_look_273 ?_
      refine q_aload_n F 0 dX12_look_276 rfl rfl ?_
      refine s_g_found F ib12 wd898 dX12_look_277 ?_
      refine q_iload_n F 1 dX12_look_280 rfl rfl ?_
      refine q_icmp_ne F (m4 _ _) ha1 69 dX12_look_281 (by decide) (fun hc => ?_) (fun hc => ?_)
      · have hw := hw.1 hc
        refine q_lv [0, 1, 2, 3, 4, 5] rfl ?_
        exact hK69 x3 x5 q0 f0 J2 hx3 hx5 hf0 m4 hw
      · have hw := hw.2 hc
        refine q_aload_n F 0 dX12_look_284 rfl rfl ?_
        refine s_g_found F ib12 wd898 dX12_look_285 ?_
        exact hret _ _ _ _ _ dX12_look_288 (m4 _ _) m4 hw
    · have hw := hw.2 hc
      refine q_aload_n F 0 dX12_look_238 rfl rfl ?_
      refine s_g_solutions F ib12 wd899 dX12_look_239 ?_
      refine q_bipush F dX12_look_242 (by decide) ?_
      refine q_aload_n F 0 dX12_look_244 rfl rfl ?_
      refine s_g_found F ib12 wd898 dX12_look_245 ?_
      refine q_imul F dX12_look_248 ?_
      refine q_iload F 6 dX12_look_249 rfl ?_
      refine q_iadd F dX12_look_251 ?_
      refine q_aload_n F 0 dX12_look_252 rfl rfl ?_
      refine s_g_fill F ib12 wd894 dX12_look_253 ?_
      refine q_iload F 6 dX12_look_256 rfl ?_
      obtain ⟨k5, hw⟩ := hw
      refine s_ald F 25 kM_fill k5 (by decide) dX12_look_258 ?_
      obtain ⟨k6, hw⟩ := hw
      obtain ⟨J7, e8⟩ := ex1 (up2 J 1026 (((25 * (J 1000 25)) + x6)) ((J 1021 x6)))
      have hw := hw J7 e8
      have m9 : mM J7 := mM_I hm e8 (hm _ _)
      refine s_ast F 750 kM_solutions k6 (by decide) e8 dX12_look_259 ?_
      obtain ⟨k12, hw⟩ := hw
      obtain ⟨z10, e11⟩ := ex1 (x6 + 1)
      have hw := hw z10 e11
      have hz10 : inR z10 := by rw [e11]; exact k12
      refine q_iinc (lv' := [(0, .ref (E.1 1000)), (1, iV a1), (2, iV a2), (3, iV x3), (4, .ref q0), (5, iV x5), (6, iV z10)]) F 6 [1, 2, 3, 4, 5, 6, 0] dX12_look_260 rfl (q_n hN (by decide)) e11.symm rfl ?_
      refine q_goto F 232 dX12_look_263 (by decide) ?_
      exact ih x3 x5 z10 q0 f0 J7 hx3 hx5 hz10 hf0 m9 hw
set_option maxHeartbeats 4000000 in
set_option maxRecDepth 100000 in
theorem bX12_look_169 {X : xC} {E : cE} (F : mF X E RX12 cX12_look bG) (hR : X.1.2.2.2 = rmK 5 (1) (25)) (hN : X.2.2.1.2.2.2 = 7) {Q : Int → cI → Prop} (hret : rIM X E cX12_look (1) (25) Q) {a1 : Int} {a2 : Int} (ha1 : inR a1) (ha2 : inR a2) {K69 : Int → Int → (Int → Int) → cI → Prop} (hK69 : ∀ (x3 : Int) (x5 : Int) (q0 : Nat) (f0 : Int → Int) (J : cI), inR x3 → inR x5 → (∀ x, inR (f0 x)) → mM J → K69 x3 x5 f0 J → cW X (1) (25) 69 [(0, .ref (E.1 1000)), (1, iV a1), (2, iV a2), (3, iV x3), (4, .ref q0), (5, iV x5)] [] (gw E.1 mIds (mef E J) ++ [(q0, iA E 25 f0)])) : ∀ (x3 : Int) (x5 : Int) (y1 : Int) (y2 : Int) (q0 : Nat) (f0 : Int → Int) (J : cI), inR x3 → inR x5 → inR y1 → inR y2 → (∀ x, inR (f0 x)) → mM J → wX12_look_169 Q a1 a2 K69 x3 x5 y1 y2 f0 J → cW X (1) (25) 169 [(0, .ref (E.1 1000)), (1, iV a1), (2, iV a2), (3, iV x3), (4, .ref q0), (5, iV x5)] [iV y2, iV y1, .ref (E.1 1021)] (gw E.1 mIds (mef E J) ++ [(q0, iA E 25 f0)]) := by
  intro x3 x5 y1 y2 q0 f0 J hx3 hx5 hy1 hy2 hf0 hm hw
  unfold wX12_look_169 at hw
  obtain ⟨k1, hw⟩ := hw
  obtain ⟨J2, e3⟩ := ex1 (up2 J 1021 y1 y2)
  have hw := hw J2 e3
  have m4 : mM J2 := mM_I hm e3 hy2
  refine s_ast F 25 kM_fill k1 (by decide) e3 dX12_look_169 ?_
  refine q_aload F 4 dX12_look_170 rfl ?_
  refine q_iload F 5 dX12_look_172 rfl ?_
  refine q_dup2 F dX12_look_174 rfl rfl ?_
  obtain ⟨k5, hw⟩ := hw
  refine g_tald F 0 rfl k5 (by decide) dX12_look_175 ?_
  refine q_iconst F dX12_look_176 ?_
  refine q_isub F dX12_look_177 ?_
  obtain ⟨k6, hw⟩ := hw
  obtain ⟨k7, hw⟩ := hw
  obtain ⟨f8, e9⟩ := ex1 (upF f0 x5 (((f0 x5) - 1)))
  have hw := hw f8 e9
  have gf8 : ∀ x, inR (f8 x) := upF_in hf0 e9 k6
  refine g_tast F 0 rfl k7 (by decide) (T' := [(q0, iA E 25 f8)]) (by rw [e9]; rfl) dX12_look_178 ?_
  refine q_aload_n F 0 dX12_look_179 rfl rfl ?_
  refine q_iload F 5 dX12_look_180 rfl ?_
  refine q_iload_n F 2 dX12_look_182 rfl rfl ?_
  refine q_ViM F (kcX12_isAmiss m4 hx5 ha2 hw) (by decide) meObj (ci := 10) rfl (bV wd1108 wd1109 wd1325 wd13 wd1110) rfl ⟨rfl, rfl⟩ ydX12_isAmiss (rmK_le hR (by omega) (by decide)) (av := [iV x5, iV a2]) rfl rfl (Nat.le_of_ble_eq_true rfl) dX12_look_183 (rmK_cs hR (by omega) (by omega)) (fun r10 J11 h12 m13 hw => ?_)
  refine q_if_eq F h12 192 dX12_look_186 (by decide) (fun hc => ?_) (fun hc => ?_)
  · have hw := hw.1 hc
    refine q_iload F 5 dX12_look_192 rfl ?_
    refine q_iconst F dX12_look_194 ?_
    refine q_iadd F dX12_look_195 ?_
    refine q_iload_n F 3 dX12_look_196 rfl rfl ?_
    obtain ⟨k14, hw⟩ := hw
    refine q_icmp_ge F k14 hx3 229 dX12_look_197 (by decide) (fun hc => ?_) (fun hc => ?_)
    · have hw := hw.1 hc
      refine q_iconst F dX12_look_229 ?_
      refine q_istore (lv' := [(0, .ref (E.1 1000)), (1, iV a1), (2, iV a2), (3, iV x3), (4, .ref q0), (5, iV x5), (6, iV 0)]) F [1, 2, 3, 4, 5, 6, 0] dX12_look_230 (q_n hN (by decide)) rfl ?_
      obtain ⟨n15, hw⟩ := hw
      exact bX12_look_232 F hR hN hret ha1 ha2 hK69 n15 x3 x5 0 q0 f8 J11 hx3 hx5 (⟨by decide, by decide⟩ : inR (0)) gf8 m13 hw
    · have hw := hw.2 hc
      obtain ⟨k18, hw⟩ := hw
      obtain ⟨z16, e17⟩ := ex1 (x5 + 1)
      have hw := hw z16 e17
      have hz16 : inR z16 := by rw [e17]; exact k18
      refine q_iinc (lv' := [(0, .ref (E.1 1000)), (1, iV a1), (2, iV a2), (3, iV x3), (4, .ref q0), (5, iV z16)]) F 5 [1, 2, 3, 4, 5, 0] dX12_look_200 rfl (q_n hN (by decide)) e17.symm rfl ?_
      refine q_aload F 4 dX12_look_203 rfl ?_
      refine q_iload F 5 dX12_look_205 rfl ?_
      refine q_aload_n F 0 dX12_look_207 rfl rfl ?_
      refine s_g_given F ib12 wd896 dX12_look_208 ?_
      refine q_iload F 5 dX12_look_211 rfl ?_
      obtain ⟨k19, hw⟩ := hw
      refine s_ald F 25 kM_given k19 (by decide) dX12_look_213 ?_
      refine q_if_le F (m13 _ _) 221 dX12_look_214 (by decide) (fun hc => ?_) (fun hc => ?_)
      · have hw := hw.1 hc
        refine q_aload_n F 0 dX12_look_221 rfl rfl ?_
        refine s_g_k F ib12 wd886 dX12_look_222 ?_
        obtain ⟨k20, hw⟩ := hw
        obtain ⟨f21, e22⟩ := ex1 (upF f8 z16 ((J11 1000 13)))
        have hw := hw f21 e22
        have gf21 : ∀ x, inR (f21 x) := upF_in gf8 e22 (m13 _ _)
        refine g_tast F 0 rfl k20 (by decide) (T' := [(q0, iA E 25 f21)]) (by rw [e22]; rfl) dX12_look_225 ?_
        refine q_goto F 69 dX12_look_226 (by decide) ?_
        exact hK69 x3 z16 q0 f21 J11 hx3 hz16 gf21 m13 hw
      · have hw := hw.2 hc
        refine q_iconst F dX12_look_217 ?_
        refine q_goto F 225 dX12_look_218 (by decide) ?_
        obtain ⟨k23, hw⟩ := hw
        obtain ⟨f24, e25⟩ := ex1 (upF f8 z16 1)
        have hw := hw f24 e25
        have gf24 : ∀ x, inR (f24 x) := upF_in gf8 e25 (⟨by decide, by decide⟩ : inR (1))
        refine g_tast F 0 rfl k23 (by decide) (T' := [(q0, iA E 25 f24)]) (by rw [e25]; rfl) dX12_look_225 ?_
        refine q_goto F 69 dX12_look_226 (by decide) ?_
        exact hK69 x3 z16 q0 f24 J11 hx3 hz16 gf24 m13 hw
  · have hw := hw.2 hc
    refine q_goto F 69 dX12_look_189 (by decide) ?_
    exact hK69 x3 x5 q0 f8 J11 hx3 hx5 gf8 m13 hw
set_option maxHeartbeats 4000000 in
set_option maxRecDepth 100000 in
theorem bX12_look_69 {X : xC} {E : cE} (F : mF X E RX12 cX12_look bG) (hR : X.1.2.2.2 = rmK 5 (1) (25)) (hN : X.2.2.1.2.2.2 = 7) {Q : Int → cI → Prop} (hret : rIM X E cX12_look (1) (25) Q) {a1 : Int} {a2 : Int} (ha1 : inR a1) (ha2 : inR a2) : ∀ n69 : Nat, ∀ (x3 : Int) (x5 : Int) (q0 : Nat) (f0 : Int → Int) (J : cI), inR x3 → inR x5 → (∀ x, inR (f0 x)) → mM J → wX12_look_69 Q a1 a2 n69 x3 x5 f0 J → cW X (1) (25) 69 [(0, .ref (E.1 1000)), (1, iV a1), (2, iV a2), (3, iV x3), (4, .ref q0), (5, iV x5)] [] (gw E.1 mIds (mef E J) ++ [(q0, iA E 25 f0)]) := by
  intro n69
  induction n69 with
  | zero => intro x3 x5 q0 f0 J hx3 hx5 hf0 hm hw; exact hw.elim
  | succ n69 ih =>
    intro x3 x5 q0 f0 J hx3 hx5 hf0 hm hw
    change wbX12_look_69 Q a1 a2 (wX12_look_69 Q a1 a2 n69) x3 x5 f0 J at hw
    unfold wbX12_look_69 at hw
    refine q_iload F 5 dX12_look_69 rfl ?_
    refine q_if_lt F hx5 289 dX12_look_71 (by decide) (fun hc => ?_) (fun hc => ?_)
    · have hw := hw.1 hc
      refine q_aload_n F 0 dX12_look_289 rfl rfl ?_
      refine s_g_found F ib12 wd898 dX12_look_290 ?_
      exact hret _ _ _ _ _ dX12_look_293 (hm _ _) hm hw
    · have hw := hw.2 hc
      refine q_aload F 4 dX12_look_74 rfl ?_
      refine q_iload F 5 dX12_look_76 rfl ?_
      obtain ⟨k1, hw⟩ := hw
      refine g_tald F 0 rfl k1 (by decide) dX12_look_78 ?_
      refine q_if_ne F (hf0 _) 96 dX12_look_79 (by decide) (fun hc => ?_) (fun hc => ?_)
      · have hw := hw.1 hc
        refine q_aload_n F 0 dX12_look_96 rfl rfl ?_
        refine s_g_tries F ib12 wd897 dX12_look_97 ?_
        refine q_sipush F dX12_look_100 (by decide) ?_
        refine q_icmp_ne F (hm _ _) (⟨by decide, by decide⟩ : inR (5000)) 108 dX12_look_103 (by decide) (fun hc => ?_) (fun hc => ?_)
        · have hw := hw.1 hc
          refine q_aload_n F 0 dX12_look_108 rfl rfl ?_
          refine q_dup F dX12_look_109 rfl ?_
          refine s_g_tries F ib12 wd897 dX12_look_110 ?_
          refine q_iconst F dX12_look_113 ?_
          refine q_iadd F dX12_look_114 ?_
          obtain ⟨k2, hw⟩ := hw
          obtain ⟨J3, e4⟩ := ex1 (up2 J 1000 24 (((J 1000 24) + 1)))
          have hw := hw J3 e4
          have m5 : mM J3 := mM_I hm e4 k2
          refine s_p_tries F ib12 wd897 e4 dX12_look_115 ?_
          refine q_aload_n F 0 dX12_look_118 rfl rfl ?_
          refine s_g_fill F ib12 wd894 dX12_look_119 ?_
          refine q_iload F 5 dX12_look_122 rfl ?_
          refine q_aload_n F 0 dX12_look_124 rfl rfl ?_
          refine s_g_given F ib12 wd896 dX12_look_125 ?_
          refine q_iload F 5 dX12_look_128 rfl ?_
          obtain ⟨k6, hw⟩ := hw
          refine s_ald F 25 kM_given k6 (by decide) dX12_look_130 ?_
          refine q_if_le F (m5 _ _) 144 dX12_look_131 (by decide) (fun hc => ?_) (fun hc => ?_)
          · have hw := hw.1 hc
            refine q_aload_n F 0 dX12_look_144 rfl rfl ?_
            refine s_g_begins F ib12 wd895 dX12_look_145 ?_
            refine q_iload F 5 dX12_look_148 rfl ?_
            obtain ⟨k7, hw⟩ := hw
            refine s_ald F 25 kM_begins k7 (by decide) dX12_look_150 ?_
            refine q_aload_n F 0 dX12_look_151 rfl rfl ?_
            refine s_g_k F ib12 wd886 dX12_look_152 ?_
            refine q_iadd F dX12_look_155 ?_
            refine q_aload F 4 dX12_look_156 rfl ?_
            refine q_iload F 5 dX12_look_158 rfl ?_
            obtain ⟨k8, hw⟩ := hw
            refine g_tald F 0 rfl k8 (by decide) dX12_look_160 ?_
            refine q_isub F dX12_look_161 ?_
            refine q_aload_n F 0 dX12_look_162 rfl rfl ?_
            refine s_g_k F ib12 wd886 dX12_look_163 ?_
            obtain ⟨k9, hw⟩ := hw
            obtain ⟨k10, hw⟩ := hw
            refine q_irem F ⟨⟨k10.1, (k9).2⟩, k10.2, ((m5 _ _)).2⟩ dX12_look_166 ?_
            refine q_iconst F dX12_look_167 ?_
            refine q_iadd F dX12_look_168 ?_
            obtain ⟨k11, hw⟩ := hw
            exact bX12_look_169 F hR hN hret ha1 ha2 ih x3 x5 x5 ((((((J3 1022 x5) + (J3 1000 13)) - (f0 x5)) % (J3 1000 13)) + 1)) q0 f0 J3 hx3 hx5 hx5 k11 hf0 m5 hw
          · have hw := hw.2 hc
            refine q_aload_n F 0 dX12_look_134 rfl rfl ?_
            refine s_g_given F ib12 wd896 dX12_look_135 ?_
            refine q_iload F 5 dX12_look_138 rfl ?_
            obtain ⟨k12, hw⟩ := hw
            refine s_ald F 25 kM_given k12 (by decide) dX12_look_140 ?_
            refine q_goto F 169 dX12_look_141 (by decide) ?_
            exact bX12_look_169 F hR hN hret ha1 ha2 ih x3 x5 x5 ((J3 1023 x5)) q0 f0 J3 hx3 hx5 hx5 (m5 _ _) hf0 m5 hw
        · have hw := hw.2 hc
          refine q_iconst F dX12_look_106 ?_
          exact hret _ _ _ _ _ dX12_look_107 (⟨by decide, by decide⟩ : inR (-1)) hm hw
      · have hw := hw.2 hc
        refine q_aload_n F 0 dX12_look_82 rfl rfl ?_
        refine s_g_fill F ib12 wd894 dX12_look_83 ?_
        refine q_iload F 5 dX12_look_86 rfl ?_
        refine q_iconst F dX12_look_88 ?_
        obtain ⟨k13, hw⟩ := hw
        obtain ⟨J14, e15⟩ := ex1 (up2 J 1021 x5 0)
        have hw := hw J14 e15
        have m16 : mM J14 := mM_I hm e15 (⟨by decide, by decide⟩ : inR (0))
        refine s_ast F 25 kM_fill k13 (by decide) e15 dX12_look_89 ?_
        obtain ⟨k19, hw⟩ := hw
        obtain ⟨z17, e18⟩ := ex1 (x5 + (-1))
        have hw := hw z17 e18
        have hz17 : inR z17 := by rw [e18]; exact k19
        refine q_iinc (lv' := [(0, .ref (E.1 1000)), (1, iV a1), (2, iV a2), (3, iV x3), (4, .ref q0), (5, iV z17)]) F 5 [1, 2, 3, 4, 5, 0] dX12_look_90 rfl (q_n hN (by decide)) e18.symm rfl ?_
        refine q_goto F 69 dX12_look_93 (by decide) ?_
        exact ih x3 z17 q0 f0 J14 hx3 hz17 hf0 m16 hw
set_option maxHeartbeats 4000000 in
set_option maxRecDepth 100000 in
theorem bX12_look_68 {X : xC} {E : cE} (F : mF X E RX12 cX12_look bG) (hR : X.1.2.2.2 = rmK 5 (1) (25)) (hN : X.2.2.1.2.2.2 = 7) {Q : Int → cI → Prop} (hret : rIM X E cX12_look (1) (25) Q) {a1 : Int} {a2 : Int} (ha1 : inR a1) (ha2 : inR a2) : ∀ (x3 : Int) (x5 : Int) (y1 : Int) (y2 : Int) (q0 : Nat) (f0 : Int → Int) (J : cI), inR x3 → inR x5 → inR y1 → inR y2 → (∀ x, inR (f0 x)) → mM J → wX12_look_68 Q a1 a2 x3 x5 y1 y2 f0 J → cW X (1) (25) 68 [(0, .ref (E.1 1000)), (1, iV a1), (2, iV a2), (3, iV x3), (4, .ref q0), (5, iV x5)] [iV y2, iV y1, .ref q0] (gw E.1 mIds (mef E J) ++ [(q0, iA E 25 f0)]) := by
  intro x3 x5 y1 y2 q0 f0 J hx3 hx5 hy1 hy2 hf0 hm hw
  unfold wX12_look_68 at hw
  obtain ⟨k1, hw⟩ := hw
  obtain ⟨f2, e3⟩ := ex1 (upF f0 y1 y2)
  have hw := hw f2 e3
  have gf2 : ∀ x, inR (f2 x) := upF_in hf0 e3 hy2
  refine g_tast F 0 rfl k1 (by decide) (T' := [(q0, iA E 25 f2)]) (by rw [e3]; rfl) dX12_look_68 ?_
  obtain ⟨n4, hw⟩ := hw
  exact bX12_look_69 F hR hN hret ha1 ha2 n4 x3 x5 q0 f2 J hx3 hx5 gf2 hm hw
set_option maxHeartbeats 4000000 in
set_option maxRecDepth 100000 in
theorem bX12_look_14 {X : xC} {E : cE} (F : mF X E RX12 cX12_look bG) (hR : X.1.2.2.2 = rmK 5 (1) (25)) (hN : X.2.2.1.2.2.2 = 7) {Q : Int → cI → Prop} (hret : rIM X E cX12_look (1) (25) Q) {a1 : Int} {a2 : Int} (ha1 : inR a1) (ha2 : inR a2) : ∀ n14 : Nat, ∀ (x3 : Int) (x5 : Int) (q0 : Nat) (f0 : Int → Int) (J : cI), inR x3 → inR x5 → (∀ x, inR (f0 x)) → mM J → wX12_look_14 Q a1 a2 n14 x3 x5 f0 J → cW X (1) (25) 14 [(0, .ref (E.1 1000)), (1, iV a1), (2, iV a2), (3, iV x3), (4, .ref q0), (5, iV x5)] [] (gw E.1 mIds (mef E J) ++ [(q0, iA E 25 f0)]) := by
  intro n14
  induction n14 with
  | zero => intro x3 x5 q0 f0 J hx3 hx5 hf0 hm hw; exact hw.elim
  | succ n14 ih =>
    intro x3 x5 q0 f0 J hx3 hx5 hf0 hm hw
    change wbX12_look_14 Q a1 a2 (wX12_look_14 Q a1 a2 n14) x3 x5 f0 J at hw
    unfold wbX12_look_14 at hw
    refine q_iload F 5 dX12_look_14 rfl ?_
    refine q_bipush F dX12_look_16 (by decide) ?_
    refine q_icmp_ge F hx5 (⟨by decide, by decide⟩ : inR (25)) 35 dX12_look_18 (by decide) (fun hc => ?_) (fun hc => ?_)
    · have hw := hw.1 hc
      refine q_aload_n F 0 dX12_look_35 rfl rfl ?_
      refine q_iconst F dX12_look_36 ?_
      obtain ⟨J1, e2⟩ := ex1 (up2 J 1000 24 0)
      have hw := hw J1 e2
      have m3 : mM J1 := mM_I hm e2 (⟨by decide, by decide⟩ : inR (0))
      refine s_p_tries F ib12 wd897 e2 dX12_look_37 ?_
      refine q_aload_n F 0 dX12_look_40 rfl rfl ?_
      refine q_iconst F dX12_look_41 ?_
      obtain ⟨J4, e5⟩ := ex1 (up2 J1 1000 25 0)
      have hw := hw J4 e5
      have m6 : mM J4 := mM_I m3 e5 (⟨by decide, by decide⟩ : inR (0))
      refine s_p_found F ib12 wd898 e5 dX12_look_42 ?_
      refine q_iconst F dX12_look_45 ?_
      refine q_istore (lv' := [(0, .ref (E.1 1000)), (1, iV a1), (2, iV a2), (3, iV x3), (4, .ref q0), (5, iV 0)]) F [1, 2, 3, 4, 5, 0] dX12_look_46 (q_n hN (by decide)) rfl ?_
      refine q_aload F 4 dX12_look_48 rfl ?_
      refine q_iconst F dX12_look_50 ?_
      refine q_aload_n F 0 dX12_look_51 rfl rfl ?_
      refine s_g_given F ib12 wd896 dX12_look_52 ?_
      refine q_iconst F dX12_look_55 ?_
      refine s_ald F 25 kM_given (⟨by decide, by decide⟩ : 0 ≤ (0 : Int) ∧ (0 : Int) < 25) (by decide) dX12_look_56 ?_
      refine q_if_le F (m6 _ _) 64 dX12_look_57 (by decide) (fun hc => ?_) (fun hc => ?_)
      · have hw := hw.1 hc
        refine q_aload_n F 0 dX12_look_64 rfl rfl ?_
        refine s_g_k F ib12 wd886 dX12_look_65 ?_
        exact bX12_look_68 F hR hN hret ha1 ha2 x3 0 0 ((J4 1000 13)) q0 f0 J4 hx3 (⟨by decide, by decide⟩ : inR (0)) (⟨by decide, by decide⟩ : inR (0)) (m6 _ _) hf0 m6 hw
      · have hw := hw.2 hc
        refine q_iconst F dX12_look_60 ?_
        refine q_goto F 68 dX12_look_61 (by decide) ?_
        exact bX12_look_68 F hR hN hret ha1 ha2 x3 0 0 1 q0 f0 J4 hx3 (⟨by decide, by decide⟩ : inR (0)) (⟨by decide, by decide⟩ : inR (0)) (⟨by decide, by decide⟩ : inR (1)) hf0 m6 hw
    · have hw := hw.2 hc
      refine q_aload_n F 0 dX12_look_21 rfl rfl ?_
      refine s_g_fill F ib12 wd894 dX12_look_22 ?_
      refine q_iload F 5 dX12_look_25 rfl ?_
      refine q_iconst F dX12_look_27 ?_
      obtain ⟨k7, hw⟩ := hw
      obtain ⟨J8, e9⟩ := ex1 (up2 J 1021 x5 0)
      have hw := hw J8 e9
      have m10 : mM J8 := mM_I hm e9 (⟨by decide, by decide⟩ : inR (0))
      refine s_ast F 25 kM_fill k7 (by decide) e9 dX12_look_28 ?_
      obtain ⟨k13, hw⟩ := hw
      obtain ⟨z11, e12⟩ := ex1 (x5 + 1)
      have hw := hw z11 e12
      have hz11 : inR z11 := by rw [e12]; exact k13
      refine q_iinc (lv' := [(0, .ref (E.1 1000)), (1, iV a1), (2, iV a2), (3, iV x3), (4, .ref q0), (5, iV z11)]) F 5 [1, 2, 3, 4, 5, 0] dX12_look_29 rfl (q_n hN (by decide)) e12.symm rfl ?_
      refine q_goto F 14 dX12_look_32 (by decide) ?_
      exact ih x3 z11 q0 f0 J8 hx3 hz11 hf0 m10 hw
set_option maxHeartbeats 4000000 in
set_option maxRecDepth 100000 in
theorem kcX12_look {l : Launch} {D : va_G} {E : cE} {a1 : Int} {a2 : Int} {J : cI} (hm : mM J) (ha1 : inR a1) (ha2 : inR a2) {Q : Int → cI → Prop} (hw : wX12_look a1 a2 J Q) : gM l D E mIds yX12_look vX12_look (rmK 5 (1) (25)) [.ref (E.1 1000), iV a1, iV a2] (mef E J) (mef E) (oI Q) (1) (25) := by
  unfold wX12_look at hw
  refine k_ofW (own := RX12) (cc := cX12_look) (maxL := 7) (ret := (some .int)) (lv := [(0, .ref (E.1 1000)), (1, iV a1), (2, iV a2)]) (by decide) rfl rfl (Nat.le_of_ble_eq_true rfl) rfl ?_
  intro X hl hR hN hD F K
  subst hl; subst hD
  have hret := mk_rIM (Q := Q) F K
  refine q_aload_n F 0 dX12_look_0 rfl rfl ?_
  refine q_ViM F (kcX12_cells hm hw) (by decide) meObj (ci := 10) rfl (bV wd1003 wd1004 wd1305 wd13 wd1005) rfl ⟨rfl, rfl⟩ ydX12_cells (rmK_le hR (by omega) (by decide)) (av := []) rfl rfl (Nat.le_of_ble_eq_true rfl) dX12_look_1 (rmK_cs hR (by omega) (by omega)) (fun r1 J2 h3 m4 hw => ?_)
  refine q_istore_n (lv' := [(0, .ref (E.1 1000)), (1, iV a1), (2, iV a2), (3, iV r1)]) F [1, 2, 3, 0] dX12_look_4 rfl (q_n hN (by decide)) rfl ?_
  refine q_bipush F dX12_look_5 (by decide) ?_
  obtain ⟨f6, e7⟩ := ex1 (fun _ : Int => (0 : Int))
  have hw := hw f6 e7
  have gf6 : ∀ x, inR (f6 x) := by rw [e7]; exact fun _ => ti_0
  refine g_tnew F wd45 25 rfl (by decide) (rmK_cs (a := 1) (b := 0) (ns := 0) hR (by omega) (by omega)).1 (rmK_cs (a := 0) (nc := 0) hR (by omega) (by omega)).2 dX12_look_7 (T' := fun q5 => [(q5, iA E 25 f6)]) (fun q5 => by rw [e7]; rfl) (fun q5 => ?_)
  refine q_astore (lv' := [(0, .ref (E.1 1000)), (1, iV a1), (2, iV a2), (3, iV r1), (4, .ref q5)]) F [1, 2, 3, 4, 0] dX12_look_9 (q_n hN (by decide)) rfl ?_
  refine q_iconst F dX12_look_11 ?_
  refine q_istore (lv' := [(0, .ref (E.1 1000)), (1, iV a1), (2, iV a2), (3, iV r1), (4, .ref q5), (5, iV 0)]) F [1, 2, 3, 4, 5, 0] dX12_look_12 (q_n hN (by decide)) rfl ?_
  obtain ⟨n8, hw⟩ := hw
  exact bX12_look_14 F hR hN hret ha1 ha2 n8 r1 0 q5 f6 J2 h3 (⟨by decide, by decide⟩ : inR (0)) gf6 m4 hw
theorem ydX12_prepare : yX12_prepare.cls = RX12 ∧ yX12_prepare.cls ≠ "java/lang/invoke/MethodHandle" ∧ yX12_prepare.cls ≠ "java/lang/invoke/VarHandle" ∧ (parseMethodDescriptor yX12_prepare.desc).map (fun d => d.parameters.length) = some 1 := by decide +kernel
def vX12_prepare : List Cond := Cond.code yX12_prepare cX12_prepare 3 none :: bG
set_option maxHeartbeats 4000000 in
set_option maxRecDepth 100000 in
theorem bX12_prepare_2 {X : xC} {E : cE} (F : mF X E RX12 cX12_prepare bG) (hR : X.1.2.2.2 = rmK 1 (0) (0)) (hN : X.2.2.1.2.2.2 = 3) {Q : cI → Prop} (hret : rVM X E cX12_prepare (0) (0) Q) {a1 : Int} (ha1 : inR a1) : ∀ n2 : Nat, ∀ (x2 : Int) (J : cI), inR x2 → mM J → wX12_prepare_2 Q a1 n2 x2 J → cW X (0) (0) 2 [(0, .ref (E.1 1000)), (1, iV a1), (2, iV x2)] [] (gw E.1 mIds (mef E J) ++ []) := by
  intro n2
  induction n2 with
  | zero => intro x2 J hx2 hm hw; exact hw.elim
  | succ n2 ih =>
    intro x2 J hx2 hm hw
    change wbX12_prepare_2 Q a1 (wX12_prepare_2 Q a1 n2) x2 J at hw
    unfold wbX12_prepare_2 at hw
    refine q_iload_n F 2 dX12_prepare_2 rfl rfl ?_
    refine q_bipush F dX12_prepare_3 (by decide) ?_
    refine q_icmp_ge F hx2 (⟨by decide, by decide⟩ : inR (25)) 41 dX12_prepare_5 (by decide) (fun hc => ?_) (fun hc => ?_)
    · have hw := hw.1 hc
      exact hret _ _ _ _ dX12_prepare_41 hm hw
    · have hw := hw.2 hc
      refine q_aload_n F 0 dX12_prepare_8 rfl rfl ?_
      refine s_g_begins F ib12 wd895 dX12_prepare_9 ?_
      refine q_iload_n F 2 dX12_prepare_12 rfl rfl ?_
      refine q_iconst F dX12_prepare_13 ?_
      obtain ⟨k1, hw⟩ := hw
      obtain ⟨J2, e3⟩ := ex1 (up2 J 1022 x2 0)
      have hw := hw J2 e3
      have m4 : mM J2 := mM_I hm e3 (⟨by decide, by decide⟩ : inR (0))
      refine s_ast F 25 kM_begins k1 (by decide) e3 dX12_prepare_14 ?_
      refine q_aload_n F 0 dX12_prepare_15 rfl rfl ?_
      refine s_g_given F ib12 wd896 dX12_prepare_16 ?_
      refine q_iload_n F 2 dX12_prepare_19 rfl rfl ?_
      refine q_iload_n F 1 dX12_prepare_20 rfl rfl ?_
      refine q_if_eq F ha1 33 dX12_prepare_21 (by decide) (fun hc => ?_) (fun hc => ?_)
      · have hw := hw.1 hc
        refine q_iconst F dX12_prepare_33 ?_
        obtain ⟨k5, hw⟩ := hw
        obtain ⟨J6, e7⟩ := ex1 (up2 J2 1023 x2 0)
        have hw := hw J6 e7
        have m8 : mM J6 := mM_I m4 e7 (⟨by decide, by decide⟩ : inR (0))
        refine s_ast F 25 kM_given k5 (by decide) e7 dX12_prepare_34 ?_
        obtain ⟨k11, hw⟩ := hw
        obtain ⟨z9, e10⟩ := ex1 (x2 + 1)
        have hw := hw z9 e10
        have hz9 : inR z9 := by rw [e10]; exact k11
        refine q_iinc (lv' := [(0, .ref (E.1 1000)), (1, iV a1), (2, iV z9)]) F 2 [1, 2, 0] dX12_prepare_35 rfl (q_n hN (by decide)) e10.symm rfl ?_
        refine q_goto F 2 dX12_prepare_38 (by decide) ?_
        exact ih z9 J6 hz9 m8 hw
      · have hw := hw.2 hc
        refine q_aload_n F 0 dX12_prepare_24 rfl rfl ?_
        refine s_g_grid F ib12 wd893 dX12_prepare_25 ?_
        refine q_iload_n F 2 dX12_prepare_28 rfl rfl ?_
        obtain ⟨k12, hw⟩ := hw
        refine s_ald F 25 kM_grid k12 (by decide) dX12_prepare_29 ?_
        refine q_goto F 34 dX12_prepare_30 (by decide) ?_
        obtain ⟨k13, hw⟩ := hw
        obtain ⟨J14, e15⟩ := ex1 (up2 J2 1023 x2 ((J2 1020 x2)))
        have hw := hw J14 e15
        have m16 : mM J14 := mM_I m4 e15 (m4 _ _)
        refine s_ast F 25 kM_given k13 (by decide) e15 dX12_prepare_34 ?_
        obtain ⟨k19, hw⟩ := hw
        obtain ⟨z17, e18⟩ := ex1 (x2 + 1)
        have hw := hw z17 e18
        have hz17 : inR z17 := by rw [e18]; exact k19
        refine q_iinc (lv' := [(0, .ref (E.1 1000)), (1, iV a1), (2, iV z17)]) F 2 [1, 2, 0] dX12_prepare_35 rfl (q_n hN (by decide)) e18.symm rfl ?_
        refine q_goto F 2 dX12_prepare_38 (by decide) ?_
        exact ih z17 J14 hz17 m16 hw
set_option maxHeartbeats 4000000 in
set_option maxRecDepth 100000 in
theorem kcX12_prepare {l : Launch} {D : va_G} {E : cE} {a1 : Int} {J : cI} (hm : mM J) (ha1 : inR a1) {Q : cI → Prop} (hw : wX12_prepare a1 J Q) : gM l D E mIds yX12_prepare vX12_prepare (rmK 1 (0) (0)) [.ref (E.1 1000), iV a1] (mef E J) (mef E) (oV Q) (0) (0) := by
  unfold wX12_prepare at hw
  refine k_ofW (own := RX12) (cc := cX12_prepare) (maxL := 3) (ret := none) (lv := [(0, .ref (E.1 1000)), (1, iV a1)]) (by decide) rfl rfl (Nat.le_of_ble_eq_true rfl) rfl ?_
  intro X hl hR hN hD F K
  subst hl; subst hD
  have hret := mk_rVM (Q := Q) F K
  refine q_iconst F dX12_prepare_0 ?_
  refine q_istore_n (lv' := [(0, .ref (E.1 1000)), (1, iV a1), (2, iV 0)]) F [1, 2, 0] dX12_prepare_1 rfl (q_n hN (by decide)) rfl ?_
  obtain ⟨n1, hw⟩ := hw
  exact bX12_prepare_2 F hR hN hret ha1 n1 0 J (⟨by decide, by decide⟩ : inR (0)) hm hw
