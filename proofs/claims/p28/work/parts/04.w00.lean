/-! ===== walks: X9_appendFour, X11_feed, X11_trim, X9_byteOrNone, X10_isBlank, X10_skipBlanks, X10_isDigit, X10_add, X10_addNumber, X10_isLetter, X10_isWord, X10_wordNumber, X10_addWord, X10_split, X10_numberAt, X10_typeAt, X5_passes, X5_passesCells ===== -/
theorem ydX9_appendFour : yX9_appendFour.cls = RX9 ∧ yX9_appendFour.cls ≠ "java/lang/invoke/MethodHandle" ∧ yX9_appendFour.cls ≠ "java/lang/invoke/VarHandle" ∧ (parseMethodDescriptor yX9_appendFour.desc).map (fun d => d.parameters.length) = some 1 := by decide +kernel
def vX9_appendFour : List Cond := Cond.code yX9_appendFour cX9_appendFour 3 none :: bG
set_option maxHeartbeats 4000000 in
set_option maxRecDepth 100000 in
theorem bX9_appendFour_3 {X : xC} {E : cE} (F : mF X E RX9 cX9_appendFour bG) (hR : X.1.2.2.2 = rmK 1 (0) (0)) (hN : X.2.2.1.2.2.2 = 3) {Q : cI → cR → Prop} (hret : rV X E cX9_appendFour (0) (0) Q) {a1 : Int} (ha1 : inR a1) : ∀ n3 : Nat, ∀ (x2 : Int) (I : cI) (R : cR), inR x2 → cM I R → wX9_appendFour_3 Q a1 n3 x2 I R → cW X (0) (0) 3 [(0, .ref (E.1 1)), (1, iV a1), (2, iV x2)] [] (gw E.1 cIds (cef E (I, R)) ++ []) := by
  intro n3
  induction n3 with
  | zero => intro x2 I R hx2 hm hw; exact hw.elim
  | succ n3 ih =>
    intro x2 I R hx2 hm hw
    change wbX9_appendFour_3 Q a1 (wX9_appendFour_3 Q a1 n3) x2 I R at hw
    unfold wbX9_appendFour_3 at hw
    refine q_iload_n F 2 dX9_appendFour_3 rfl rfl ?_
    refine q_if_lt F hx2 51 dX9_appendFour_4 (by decide) (fun hc => ?_) (fun hc => ?_)
    · have hw := hw.1 hc
      exact hret _ _ _ _ _ dX9_appendFour_51 hm hw
    · have hw := hw.2 hc
      refine q_aload_n F 0 dX9_appendFour_7 rfl rfl ?_
      refine t_g_Tape_length F (by decide) ib9 wd41 dX9_appendFour_8 ?_
      refine q_aload_n F 0 dX9_appendFour_11 rfl rfl ?_
      refine t_g_Tape_bytes F (by decide) ib9 wd43 2 rfl dX9_appendFour_12 ?_
      refine t_alen F 1600 kA_2 dX9_appendFour_15 ?_
      refine q_icmp_ge F (hm.1 _ _) (⟨by decide, by decide⟩ : inR (1600)) 51 dX9_appendFour_16 (by decide) (fun hc => ?_) (fun hc => ?_)
      · have hw := hw.1 hc
        exact hret _ _ _ _ _ dX9_appendFour_51 hm hw
      · have hw := hw.2 hc
        refine q_aload_n F 0 dX9_appendFour_19 rfl rfl ?_
        refine t_g_Tape_bytes F (by decide) ib9 wd43 2 rfl dX9_appendFour_20 ?_
        refine q_aload_n F 0 dX9_appendFour_23 rfl rfl ?_
        refine t_g_Tape_length F (by decide) ib9 wd41 dX9_appendFour_24 ?_
        refine q_iload_n F 1 dX9_appendFour_27 rfl rfl ?_
        refine q_iload_n F 2 dX9_appendFour_28 rfl rfl ?_
        refine q_ishr F dX9_appendFour_29 ?_
        refine q_sipush F dX9_appendFour_30 (by decide) ?_
        refine q_iand F dX9_appendFour_33 ?_
        obtain ⟨k1, hw⟩ := hw
        obtain ⟨I2, e3⟩ := ex1 (up2 I 2 ((I 1 0)) ((iAnd ((iShr a1 x2)) 255)))
        have hw := hw I2 e3
        have m4 : cM I2 R := cM_I hm e3 (ti_rng _)
        refine t_ast F 1600 kA_2 k1 (by decide) e3 dX9_appendFour_34 ?_
        refine q_aload_n F 0 dX9_appendFour_35 rfl rfl ?_
        refine q_dup F dX9_appendFour_36 rfl ?_
        refine t_g_Tape_length F (by decide) ib9 wd41 dX9_appendFour_37 ?_
        refine q_iconst F dX9_appendFour_40 ?_
        refine q_iadd F dX9_appendFour_41 ?_
        obtain ⟨k5, hw⟩ := hw
        obtain ⟨I6, e7⟩ := ex1 (up2 I2 1 0 (((I2 1 0) + 1)))
        have hw := hw I6 e7
        have m8 : cM I6 R := cM_I m4 e7 k5
        refine t_p_Tape_length F (by decide) ib9 wd41 e7 dX9_appendFour_42 ?_
        obtain ⟨k11, hw⟩ := hw
        obtain ⟨z9, e10⟩ := ex1 (x2 + (-8))
        have hw := hw z9 e10
        have hz9 : inR z9 := by rw [e10]; exact k11
        refine q_iinc (lv' := [(0, .ref (E.1 1)), (1, iV a1), (2, iV z9)]) F 2 [1, 2, 0] dX9_appendFour_45 rfl (q_n hN (by decide)) e10.symm rfl ?_
        refine q_goto F 3 dX9_appendFour_48 (by decide) ?_
        exact ih z9 I6 R hz9 m8 hw
set_option maxHeartbeats 4000000 in
set_option maxRecDepth 100000 in
theorem kcX9_appendFour {l : Launch} {D : va_G} {E : cE} {a1 : Int} {I : cI} {R : cR} (hm : cM I R) (ha1 : inR a1) {Q : cI → cR → Prop} (hw : wX9_appendFour a1 I R Q) : gM l D E cIds yX9_appendFour vX9_appendFour (rmK 1 (0) (0)) [.ref (E.1 1), iV a1] (cef E (I, R)) (cef E) (pV Q) (0) (0) := by
  unfold wX9_appendFour at hw
  refine k_ofW (own := RX9) (cc := cX9_appendFour) (maxL := 3) (ret := none) (lv := [(0, .ref (E.1 1)), (1, iV a1)]) (by decide) rfl rfl (Nat.le_of_ble_eq_true rfl) rfl ?_
  intro X hl hR hN hD F K
  subst hl; subst hD
  have hret := mk_rV (Q := Q) F K
  refine q_bipush F dX9_appendFour_0 (by decide) ?_
  refine q_istore_n (lv' := [(0, .ref (E.1 1)), (1, iV a1), (2, iV 24)]) F [1, 2, 0] dX9_appendFour_2 rfl (q_n hN (by decide)) rfl ?_
  obtain ⟨n1, hw⟩ := hw
  exact bX9_appendFour_3 F hR hN hret ha1 n1 24 I R (⟨by decide, by decide⟩ : inR (24)) hm hw
theorem ydX11_feed : yX11_feed.cls = RX11 ∧ yX11_feed.cls ≠ "java/lang/invoke/MethodHandle" ∧ yX11_feed.cls ≠ "java/lang/invoke/VarHandle" ∧ (parseMethodDescriptor yX11_feed.desc).map (fun d => d.parameters.length) = some 5 := by decide +kernel
def vX11_feed : List Cond := Cond.code yX11_feed cX11_feed 6 (some .int) :: bG
set_option maxHeartbeats 4000000 in
set_option maxRecDepth 100000 in
theorem kcX11_feed {l : Launch} {D : va_G} {E : cE} (hfl : l.stackTraces = false) (z : Nat) {Qx : Nat → cI → cR → Prop} (hz : z = 1 ∨ ∀ k I R, ¬ Qx k I R) {a1 : Int} {a2 : Int} {a3 : Int} {a4 : Int} {a5 : Int} {I : cI} {R : cR} (hm : cM I R) (ha1 : inR a1) (ha2 : inR a2) (ha3 : inR a3) (ha4 : inR a4) (ha5 : inR a5) {Q : Int → cI → cR → Prop} (hw : wX11_feed a1 a2 a3 a4 a5 I R Q Qx) : gMx l D E cIds yX11_feed vX11_feed (rmK 7 (1 * z) (6 * z)) [.ref (E.1 0), iV a1, iV a2, iV a3, iV a4, iV a5] (cef E (I, R)) (cef E) (pI Q) (pX Qx) (1 * z) (6 * z) := by
  unfold wX11_feed at hw
  refine k_ofWx hfl (own := RX11) (cc := cX11_feed) (maxL := 6) (ret := (some .int)) (lv := [(0, .ref (E.1 0)), (1, iV a1), (2, iV a2), (3, iV a3), (4, iV a4), (5, iV a5)]) (by decide) rfl rfl (Nat.le_of_ble_eq_true rfl) rfl ?_
  intro X hl hR hN hD F hX
  subst hl; subst hD
  have hret := mk_rIx (Q := Q) F hX
  refine q_aload_n F 0 dX11_feed_0 rfl rfl ?_
  refine t_g_Mill_tape F (by decide) ib11 wd194 dX11_feed_1 ?_
  refine t_g_Tape_length F (by decide) ib9 wd40 dX11_feed_4 ?_
  refine q_bipush F dX11_feed_7 (by decide) ?_
  refine q_iadd F dX11_feed_9 ?_
  refine q_sipush F dX11_feed_10 (by decide) ?_
  obtain ⟨k1, hw⟩ := hw
  refine q_icmp_le F k1 (⟨by decide, by decide⟩ : inR (1600)) 26 dX11_feed_13 (by decide) (fun hc => ?_) (fun hc => ?_)
  · have hw := hw.1 hc
    refine q_aload_n F 0 dX11_feed_26 rfl rfl ?_
    refine t_g_Mill_tape F (by decide) ib11 wd194 dX11_feed_27 ?_
    refine q_iload_n F 1 dX11_feed_30 rfl rfl ?_
    refine q_Vv F (kcX9_appendFour hm ha1 hw) (cIds_in (show ckd 1 = 7 ∧ 1 < 353 by decide).2) (ceTape (show ckd 1 = 7 ∧ 1 < 353 by decide).1) (ci := 7) rfl (bV wd804 wd805 wd806 wd2 wd807) rfl ⟨rfl, rfl⟩ ydX9_appendFour (rmK_le hR (by omega) (by decide)) (av := [iV a1]) rfl rfl (Nat.le_of_ble_eq_true rfl) dX11_feed_31 (rmK_cs hR (by omega) (by omega)) (fun I3 R4 m6 hw => ?_)
    refine q_aload_n F 0 dX11_feed_34 rfl rfl ?_
    refine t_g_Mill_tape F (by decide) ib11 wd194 dX11_feed_35 ?_
    refine q_iload_n F 2 dX11_feed_38 rfl rfl ?_
    refine q_Vv F (kcX9_appendFour m6 ha2 hw) (cIds_in (show ckd 1 = 7 ∧ 1 < 353 by decide).2) (ceTape (show ckd 1 = 7 ∧ 1 < 353 by decide).1) (ci := 7) rfl (bV wd804 wd805 wd806 wd2 wd807) rfl ⟨rfl, rfl⟩ ydX9_appendFour (rmK_le hR (by omega) (by decide)) (av := [iV a2]) rfl rfl (Nat.le_of_ble_eq_true rfl) dX11_feed_39 (rmK_cs hR (by omega) (by omega)) (fun I8 R9 m11 hw => ?_)
    refine q_aload_n F 0 dX11_feed_42 rfl rfl ?_
    refine t_g_Mill_tape F (by decide) ib11 wd194 dX11_feed_43 ?_
    refine q_iload_n F 3 dX11_feed_46 rfl rfl ?_
    refine q_Vv F (kcX9_appendFour m11 ha3 hw) (cIds_in (show ckd 1 = 7 ∧ 1 < 353 by decide).2) (ceTape (show ckd 1 = 7 ∧ 1 < 353 by decide).1) (ci := 7) rfl (bV wd804 wd805 wd806 wd2 wd807) rfl ⟨rfl, rfl⟩ ydX9_appendFour (rmK_le hR (by omega) (by decide)) (av := [iV a3]) rfl rfl (Nat.le_of_ble_eq_true rfl) dX11_feed_47 (rmK_cs hR (by omega) (by omega)) (fun I13 R14 m16 hw => ?_)
    refine q_aload_n F 0 dX11_feed_50 rfl rfl ?_
    refine t_g_Mill_tape F (by decide) ib11 wd194 dX11_feed_51 ?_
    refine q_iload F 4 dX11_feed_54 rfl ?_
    refine q_Vv F (kcX9_appendFour m16 ha4 hw) (cIds_in (show ckd 1 = 7 ∧ 1 < 353 by decide).2) (ceTape (show ckd 1 = 7 ∧ 1 < 353 by decide).1) (ci := 7) rfl (bV wd804 wd805 wd806 wd2 wd807) rfl ⟨rfl, rfl⟩ ydX9_appendFour (rmK_le hR (by omega) (by decide)) (av := [iV a4]) rfl rfl (Nat.le_of_ble_eq_true rfl) dX11_feed_56 (rmK_cs hR (by omega) (by omega)) (fun I18 R19 m21 hw => ?_)
    refine q_aload_n F 0 dX11_feed_59 rfl rfl ?_
    refine t_g_Mill_tape F (by decide) ib11 wd194 dX11_feed_60 ?_
    refine q_iload F 5 dX11_feed_63 rfl ?_
    refine q_Vv F (kcX9_appendFour m21 ha5 hw) (cIds_in (show ckd 1 = 7 ∧ 1 < 353 by decide).2) (ceTape (show ckd 1 = 7 ∧ 1 < 353 by decide).1) (ci := 7) rfl (bV wd804 wd805 wd806 wd2 wd807) rfl ⟨rfl, rfl⟩ ydX9_appendFour (rmK_le hR (by omega) (by decide)) (av := [iV a5]) rfl rfl (Nat.le_of_ble_eq_true rfl) dX11_feed_65 (rmK_cs hR (by omega) (by omega)) (fun I23 R24 m26 hw => ?_)
    refine q_aload_n F 0 dX11_feed_68 rfl rfl ?_
    refine t_g_Mill_tape F (by decide) ib11 wd194 dX11_feed_69 ?_
    refine t_g_Tape_length F (by decide) ib9 wd40 dX11_feed_72 ?_
    refine q_wide (nc' := 1 * z) (ns' := 6 * z) (by omega) (by omega) ?_
    exact hret _ _ _ _ _ _ dX11_feed_75 (m26.1 _ _) m26 hw
  · have hw := hw.2 hc
    exact q_thr0 F hX hR (by decide) hz 0 (by decide) wd536 rfl dX11_feed_16 dX11_feed_19 dX11_feed_20 dX11_feed_22 dX11_feed_25 (fun hz1 => by omega) (fun hz1 => by omega) hm hw
theorem ydX11_trim : yX11_trim.cls = RX11 ∧ yX11_trim.cls ≠ "java/lang/invoke/MethodHandle" ∧ yX11_trim.cls ≠ "java/lang/invoke/VarHandle" ∧ (parseMethodDescriptor yX11_trim.desc).map (fun d => d.parameters.length) = some 1 := by decide +kernel
def vX11_trim : List Cond := Cond.code yX11_trim cX11_trim 2 (some .int) :: bG
set_option maxHeartbeats 4000000 in
set_option maxRecDepth 100000 in
theorem bX11_trim_15 {z : Nat} {X : xC} {E : cE} (F : mF X E RX11 cX11_trim bG) (hR : X.1.2.2.2 = rmK 7 (1 * z) (6 * z)) (hN : X.2.2.1.2.2.2 = 2) {Q : Int → cI → cR → Prop} {Qx : Nat → cI → cR → Prop} (hret : rI X E cX11_trim (1 * z) (6 * z) Q) (hX : kXx X E cIds (some .int) (cef E) (pI Q) (pX Qx) (1 * z) (6 * z)) (hz : z = 1 ∨ ∀ k I R, ¬ Qx k I R) {a1 : Int} (ha1 : inR a1) : ∀ (I : cI) (R : cR), cM I R → wX11_trim_15 Q Qx a1 I R → cW X (0) (0) 15 [] [] (gw E.1 cIds (cef E (I, R)) ++ []) := by
  intro I R hm hw
  unfold wX11_trim_15 at hw
  exact q_thr1 F hX hR (by decide) hz 1 (by decide) wd582 rfl dX11_trim_15 dX11_trim_18 dX11_trim_19 dX11_trim_21 dX11_trim_24 (fun hz1 => by omega) (fun hz1 => by omega) hm hw
set_option maxHeartbeats 4000000 in
set_option maxRecDepth 100000 in
theorem kcX11_trim {l : Launch} {D : va_G} {E : cE} (hfl : l.stackTraces = false) (z : Nat) {Qx : Nat → cI → cR → Prop} (hz : z = 1 ∨ ∀ k I R, ¬ Qx k I R) {a1 : Int} {I : cI} {R : cR} (hm : cM I R) (ha1 : inR a1) {Q : Int → cI → cR → Prop} (hw : wX11_trim a1 I R Q Qx) : gMx l D E cIds yX11_trim vX11_trim (rmK 7 (1 * z) (6 * z)) [.ref (E.1 0), iV a1] (cef E (I, R)) (cef E) (pI Q) (pX Qx) (1 * z) (6 * z) := by
  unfold wX11_trim at hw
  refine k_ofWx hfl (own := RX11) (cc := cX11_trim) (maxL := 2) (ret := (some .int)) (lv := [(0, .ref (E.1 0)), (1, iV a1)]) (by decide) rfl rfl (Nat.le_of_ble_eq_true rfl) rfl ?_
  intro X hl hR hN hD F hX
  subst hl; subst hD
  have hret := mk_rIx (Q := Q) F hX
  refine q_iload_n F 1 dX11_trim_0 rfl rfl ?_
  refine q_if_lt F ha1 15 dX11_trim_1 (by decide) (fun hc => ?_) (fun hc => ?_)
  · have hw := hw.1 hc
    refine q_lv [] rfl ?_
    exact bX11_trim_15 F hR hN hret hX hz ha1 I R hm hw
  · have hw := hw.2 hc
    refine q_iload_n F 1 dX11_trim_4 rfl rfl ?_
    refine q_aload_n F 0 dX11_trim_5 rfl rfl ?_
    refine t_g_Mill_tape F (by decide) ib11 wd194 dX11_trim_6 ?_
    refine t_g_Tape_length F (by decide) ib9 wd40 dX11_trim_9 ?_
    refine q_icmp_le F ha1 (hm.1 _ _) 25 dX11_trim_12 (by decide) (fun hc => ?_) (fun hc => ?_)
    · have hw := hw.1 hc
      refine q_aload_n F 0 dX11_trim_25 rfl rfl ?_
      refine t_g_Mill_tape F (by decide) ib11 wd194 dX11_trim_26 ?_
      refine q_iload_n F 1 dX11_trim_29 rfl rfl ?_
      obtain ⟨I1, e2⟩ := ex1 (up2 I 1 0 a1)
      have hw := hw I1 e2
      have m3 : cM I1 R := cM_I hm e2 ha1
      refine t_p_Tape_length F (by decide) ib9 wd40 e2 dX11_trim_30 ?_
      refine q_iload_n F 1 dX11_trim_33 rfl rfl ?_
      refine q_wide (nc' := 1 * z) (ns' := 6 * z) (by omega) (by omega) ?_
      exact hret _ _ _ _ _ _ dX11_trim_34 ha1 m3 hw
    · have hw := hw.2 hc
      refine q_lv [] rfl ?_
      exact bX11_trim_15 F hR hN hret hX hz ha1 I R hm hw
theorem ydX9_byteOrNone : yX9_byteOrNone.cls = RX9 ∧ yX9_byteOrNone.cls ≠ "java/lang/invoke/MethodHandle" ∧ yX9_byteOrNone.cls ≠ "java/lang/invoke/VarHandle" ∧ (parseMethodDescriptor yX9_byteOrNone.desc).map (fun d => d.parameters.length) = some 1 := by decide +kernel
def vX9_byteOrNone : List Cond := Cond.code yX9_byteOrNone cX9_byteOrNone 2 (some .int) :: bG
set_option maxHeartbeats 4000000 in
set_option maxRecDepth 100000 in
theorem kcX9_byteOrNone {l : Launch} {D : va_G} {E : cE} {a1 : Int} {I : cI} {R : cR} (hm : cM I R) (ha1 : inR a1) {Q : Int → cI → cR → Prop} (hw : wX9_byteOrNone a1 I R Q) : gM l D E cIds yX9_byteOrNone vX9_byteOrNone (rmK 1 (0) (0)) [.ref (E.1 1), iV a1] (cef E (I, R)) (cef E) (pI Q) (0) (0) := by
  unfold wX9_byteOrNone at hw
  refine k_ofW (own := RX9) (cc := cX9_byteOrNone) (maxL := 2) (ret := (some .int)) (lv := [(0, .ref (E.1 1)), (1, iV a1)]) (by decide) rfl rfl (Nat.le_of_ble_eq_true rfl) rfl ?_
  intro X hl hR hN hD F K
  subst hl; subst hD
  have hret := mk_rI (Q := Q) F K
  refine q_iload_n F 1 dX9_byteOrNone_0 rfl rfl ?_
  refine q_if_lt F ha1 30 dX9_byteOrNone_1 (by decide) (fun hc => ?_) (fun hc => ?_)
  · have hw := hw.1 hc
    refine q_iconst F dX9_byteOrNone_30 ?_
    exact hret _ _ _ _ _ _ dX9_byteOrNone_31 (⟨by decide, by decide⟩ : inR (-1)) hm hw
  · have hw := hw.2 hc
    refine q_iload_n F 1 dX9_byteOrNone_4 rfl rfl ?_
    refine q_aload_n F 0 dX9_byteOrNone_5 rfl rfl ?_
    refine t_g_Tape_length F (by decide) ib9 wd41 dX9_byteOrNone_6 ?_
    refine q_icmp_ge F ha1 (hm.1 _ _) 30 dX9_byteOrNone_9 (by decide) (fun hc => ?_) (fun hc => ?_)
    · have hw := hw.1 hc
      refine q_iconst F dX9_byteOrNone_30 ?_
      exact hret _ _ _ _ _ _ dX9_byteOrNone_31 (⟨by decide, by decide⟩ : inR (-1)) hm hw
    · have hw := hw.2 hc
      refine q_iload_n F 1 dX9_byteOrNone_12 rfl rfl ?_
      refine q_aload_n F 0 dX9_byteOrNone_13 rfl rfl ?_
      refine t_g_Tape_bytes F (by decide) ib9 wd43 2 rfl dX9_byteOrNone_14 ?_
      refine t_alen F 1600 kA_2 dX9_byteOrNone_17 ?_
      refine q_icmp_ge F ha1 (⟨by decide, by decide⟩ : inR (1600)) 30 dX9_byteOrNone_18 (by decide) (fun hc => ?_) (fun hc => ?_)
      · have hw := hw.1 hc
        refine q_iconst F dX9_byteOrNone_30 ?_
        exact hret _ _ _ _ _ _ dX9_byteOrNone_31 (⟨by decide, by decide⟩ : inR (-1)) hm hw
      · have hw := hw.2 hc
        refine q_aload_n F 0 dX9_byteOrNone_21 rfl rfl ?_
        refine t_g_Tape_bytes F (by decide) ib9 wd43 2 rfl dX9_byteOrNone_22 ?_
        refine q_iload_n F 1 dX9_byteOrNone_25 rfl rfl ?_
        obtain ⟨k1, hw⟩ := hw
        refine t_ald F 1600 kA_2 k1 (by decide) dX9_byteOrNone_26 ?_
        refine q_goto F 31 dX9_byteOrNone_27 (by decide) ?_
        exact hret _ _ _ _ _ _ dX9_byteOrNone_31 (hm.1 _ _) hm hw
theorem ydX10_isBlank : yX10_isBlank.cls = RX10 ∧ yX10_isBlank.cls ≠ "java/lang/invoke/MethodHandle" ∧ yX10_isBlank.cls ≠ "java/lang/invoke/VarHandle" ∧ (parseMethodDescriptor yX10_isBlank.desc).map (fun d => d.parameters.length) = some 1 := by decide +kernel
def vX10_isBlank : List Cond := Cond.code yX10_isBlank cX10_isBlank 1 (some .boolean) :: bG
set_option maxHeartbeats 4000000 in
set_option maxRecDepth 100000 in
theorem kcX10_isBlank {l : Launch} {D : va_G} {E : cE} {a0 : Int} {I : cI} {R : cR} (hm : cM I R) (ha0 : inR a0) {Q : Int → cI → cR → Prop} (hw : wX10_isBlank a0 I R Q) : gM l D E cIds yX10_isBlank vX10_isBlank (rmK 1 (0) (0)) [iV a0] (cef E (I, R)) (cef E) (pI Q) (0) (0) := by
  unfold wX10_isBlank at hw
  refine k_ofW (own := RX10) (cc := cX10_isBlank) (maxL := 1) (ret := (some .boolean)) (lv := [(0, iV a0)]) (by decide) rfl rfl (Nat.le_of_ble_eq_true rfl) rfl ?_
  intro X hl hR hN hD F K
  subst hl; subst hD
  have hret := mk_rZ (Q := Q) F K
  refine q_iload_n F 0 dX10_isBlank_0 rfl rfl ?_
  refine q_bipush F dX10_isBlank_1 (by decide) ?_
  refine q_icmp_eq F ha0 (⟨by decide, by decide⟩ : inR (32)) 12 dX10_isBlank_3 (by decide) (fun hc => ?_) (fun hc => ?_)
  · have hw := hw.1 hc
    refine q_iconst F dX10_isBlank_12 ?_
    refine q_goto F 17 dX10_isBlank_13 (by decide) ?_
    exact hret _ _ _ _ _ _ dX10_isBlank_17 (Or.inr rfl) (⟨by decide, by decide⟩ : inR (1)) hm hw
  · have hw := hw.2 hc
    refine q_iload_n F 0 dX10_isBlank_6 rfl rfl ?_
    refine q_bipush F dX10_isBlank_7 (by decide) ?_
    refine q_icmp_ne F ha0 (⟨by decide, by decide⟩ : inR (10)) 16 dX10_isBlank_9 (by decide) (fun hc => ?_) (fun hc => ?_)
    · have hw := hw.1 hc
      refine q_iconst F dX10_isBlank_16 ?_
      exact hret _ _ _ _ _ _ dX10_isBlank_17 (Or.inl rfl) (⟨by decide, by decide⟩ : inR (0)) hm hw
    · have hw := hw.2 hc
      refine q_iconst F dX10_isBlank_12 ?_
      refine q_goto F 17 dX10_isBlank_13 (by decide) ?_
      exact hret _ _ _ _ _ _ dX10_isBlank_17 (Or.inr rfl) (⟨by decide, by decide⟩ : inR (1)) hm hw
theorem ydX10_skipBlanks : yX10_skipBlanks.cls = RX10 ∧ yX10_skipBlanks.cls ≠ "java/lang/invoke/MethodHandle" ∧ yX10_skipBlanks.cls ≠ "java/lang/invoke/VarHandle" ∧ (parseMethodDescriptor yX10_skipBlanks.desc).map (fun d => d.parameters.length) = some 2 := by decide +kernel
def vX10_skipBlanks : List Cond := Cond.code yX10_skipBlanks cX10_skipBlanks 3 (some .int) :: bG
set_option maxHeartbeats 4000000 in
set_option maxRecDepth 100000 in
theorem bX10_skipBlanks_2 {X : xC} {E : cE} (F : mF X E RX10 cX10_skipBlanks bG) (hR : X.1.2.2.2 = rmK 2 (0) (0)) (hN : X.2.2.1.2.2.2 = 3) {Q : Int → cI → cR → Prop} (hret : rI X E cX10_skipBlanks (0) (0) Q) {a1 : Int} (ha1 : inR a1) : ∀ n2 : Nat, ∀ (x2 : Int) (I : cI) (R : cR), inR x2 → cM I R → wX10_skipBlanks_2 Q a1 n2 x2 I R → cW X (0) (0) 2 [(0, .ref (E.1 1)), (2, iV x2)] [] (gw E.1 cIds (cef E (I, R)) ++ []) := by
  intro n2
  induction n2 with
  | zero => intro x2 I R hx2 hm hw; exact hw.elim
  | succ n2 ih =>
    intro x2 I R hx2 hm hw
    change wbX10_skipBlanks_2 Q a1 (wX10_skipBlanks_2 Q a1 n2) x2 I R at hw
    unfold wbX10_skipBlanks_2 at hw
    refine q_iload_n F 1 dX10_skipBlanks_2 rfl rfl ?_
    refine q_aload_n F 0 dX10_skipBlanks_3 rfl rfl ?_
    refine t_g_Tape_length F (by decide) ib9 wd42 dX10_skipBlanks_4 ?_
    refine q_icmp_ge F hx2 (hm.1 _ _) 27 dX10_skipBlanks_7 (by decide) (fun hc => ?_) (fun hc => ?_)
    · have hw := hw.1 hc
      refine q_iload_n F 1 dX10_skipBlanks_27 rfl rfl ?_
      exact hret _ _ _ _ _ _ dX10_skipBlanks_28 hx2 hm hw
    · have hw := hw.2 hc
      refine q_aload_n F 0 dX10_skipBlanks_10 rfl rfl ?_
      refine q_iload_n F 1 dX10_skipBlanks_11 rfl rfl ?_
      refine q_Vi F (kcX9_byteOrNone hm hx2 hw) (cIds_in (show ckd 1 = 7 ∧ 1 < 353 by decide).2) (ceTape (show ckd 1 = 7 ∧ 1 < 353 by decide).1) (ci := 7) rfl (bV wd218 wd219 wd220 wd2 wd221) rfl ⟨rfl, rfl⟩ ydX9_byteOrNone (rmK_le hR (by omega) (by decide)) (av := [iV x2]) rfl rfl (Nat.le_of_ble_eq_true rfl) dX10_skipBlanks_12 (rmK_cs hR (by omega) (by omega)) (fun r1 I2 R3 h4 m5 hw => ?_)
      refine q_Si F (kcX10_isBlank m5 h4 hw) (bS wd222 wd223 wd4 wd224) rfl ⟨rfl, rfl⟩ ydX10_isBlank (rmK_le hR (by omega) (by decide)) (av := [iV r1]) rfl rfl (Nat.le_of_ble_eq_true rfl) dX10_skipBlanks_15 (rmK_cs hR (by omega) (by omega)) (fun r6 I7 R8 h9 m10 hw => ?_)
      refine q_if_eq F h9 27 dX10_skipBlanks_18 (by decide) (fun hc => ?_) (fun hc => ?_)
      · have hw := hw.1 hc
        refine q_iload_n F 1 dX10_skipBlanks_27 rfl rfl ?_
        exact hret _ _ _ _ _ _ dX10_skipBlanks_28 hx2 m10 hw
      · have hw := hw.2 hc
        obtain ⟨k13, hw⟩ := hw
        obtain ⟨z11, e12⟩ := ex1 (x2 + 1)
        have hw := hw z11 e12
        have hz11 : inR z11 := by rw [e12]; exact k13
        refine q_iinc (lv' := [(0, .ref (E.1 1)), (2, iV z11)]) F 1 [1, 0] dX10_skipBlanks_21 rfl (q_n hN (by decide)) e12.symm rfl ?_
        refine q_goto F 2 dX10_skipBlanks_24 (by decide) ?_
        exact ih z11 I7 R8 hz11 m10 hw
set_option maxHeartbeats 4000000 in
set_option maxRecDepth 100000 in
theorem kcX10_skipBlanks {l : Launch} {D : va_G} {E : cE} {a1 : Int} {I : cI} {R : cR} (hm : cM I R) (ha1 : inR a1) {Q : Int → cI → cR → Prop} (hw : wX10_skipBlanks a1 I R Q) : gM l D E cIds yX10_skipBlanks vX10_skipBlanks (rmK 2 (0) (0)) [.ref (E.1 1), iV a1] (cef E (I, R)) (cef E) (pI Q) (0) (0) := by
  unfold wX10_skipBlanks at hw
  refine k_ofW (own := RX10) (cc := cX10_skipBlanks) (maxL := 3) (ret := (some .int)) (lv := [(0, .ref (E.1 1)), (1, iV a1)]) (by decide) rfl rfl (Nat.le_of_ble_eq_true rfl) rfl ?_
  intro X hl hR hN hD F K
  subst hl; subst hD
  have hret := mk_rI (Q := Q) F K
  refine q_iload_n F 1 dX10_skipBlanks_0 rfl rfl ?_
  refine q_istore_n (lv' := [(0, .ref (E.1 1)), (1, iV a1), (2, iV a1)]) F [1, 2, 0] dX10_skipBlanks_1 rfl (q_n hN (by decide)) rfl ?_
  refine q_lv [0, 2] rfl ?_
  obtain ⟨n1, hw⟩ := hw
  exact bX10_skipBlanks_2 F hR hN hret ha1 n1 a1 I R ha1 hm hw
theorem ydX10_isDigit : yX10_isDigit.cls = RX10 ∧ yX10_isDigit.cls ≠ "java/lang/invoke/MethodHandle" ∧ yX10_isDigit.cls ≠ "java/lang/invoke/VarHandle" ∧ (parseMethodDescriptor yX10_isDigit.desc).map (fun d => d.parameters.length) = some 1 := by decide +kernel
def vX10_isDigit : List Cond := Cond.code yX10_isDigit cX10_isDigit 1 (some .boolean) :: bG
set_option maxHeartbeats 4000000 in
set_option maxRecDepth 100000 in
theorem kcX10_isDigit {l : Launch} {D : va_G} {E : cE} {a0 : Int} {I : cI} {R : cR} (hm : cM I R) (ha0 : inR a0) {Q : Int → cI → cR → Prop} (hw : wX10_isDigit a0 I R Q) : gM l D E cIds yX10_isDigit vX10_isDigit (rmK 1 (0) (0)) [iV a0] (cef E (I, R)) (cef E) (pI Q) (0) (0) := by
  unfold wX10_isDigit at hw
  refine k_ofW (own := RX10) (cc := cX10_isDigit) (maxL := 1) (ret := (some .boolean)) (lv := [(0, iV a0)]) (by decide) rfl rfl (Nat.le_of_ble_eq_true rfl) rfl ?_
  intro X hl hR hN hD F K
  subst hl; subst hD
  have hret := mk_rZ (Q := Q) F K
  refine q_iload_n F 0 dX10_isDigit_0 rfl rfl ?_
  refine q_bipush F dX10_isDigit_1 (by decide) ?_
  refine q_icmp_lt F ha0 (⟨by decide, by decide⟩ : inR (48)) 16 dX10_isDigit_3 (by decide) (fun hc => ?_) (fun hc => ?_)
  · have hw := hw.1 hc
    refine q_iconst F dX10_isDigit_16 ?_
    exact hret _ _ _ _ _ _ dX10_isDigit_17 (Or.inl rfl) (⟨by decide, by decide⟩ : inR (0)) hm hw
  · have hw := hw.2 hc
    refine q_iload_n F 0 dX10_isDigit_6 rfl rfl ?_
    refine q_bipush F dX10_isDigit_7 (by decide) ?_
    refine q_icmp_gt F ha0 (⟨by decide, by decide⟩ : inR (57)) 16 dX10_isDigit_9 (by decide) (fun hc => ?_) (fun hc => ?_)
    · have hw := hw.1 hc
      refine q_iconst F dX10_isDigit_16 ?_
      exact hret _ _ _ _ _ _ dX10_isDigit_17 (Or.inl rfl) (⟨by decide, by decide⟩ : inR (0)) hm hw
    · have hw := hw.2 hc
      refine q_iconst F dX10_isDigit_12 ?_
      refine q_goto F 17 dX10_isDigit_13 (by decide) ?_
      exact hret _ _ _ _ _ _ dX10_isDigit_17 (Or.inr rfl) (⟨by decide, by decide⟩ : inR (1)) hm hw
theorem ydX10_add : yX10_add.cls = RX10 ∧ yX10_add.cls ≠ "java/lang/invoke/MethodHandle" ∧ yX10_add.cls ≠ "java/lang/invoke/VarHandle" ∧ (parseMethodDescriptor yX10_add.desc).map (fun d => d.parameters.length) = some 3 := by decide +kernel
def vX10_add : List Cond := Cond.code yX10_add cX10_add 4 none :: bG
set_option maxHeartbeats 4000000 in
set_option maxRecDepth 100000 in
theorem kcX10_add {l : Launch} {D : va_G} {E : cE} {a1 : Int} {a2 : Int} {a3 : Int} {I : cI} {R : cR} (hm : cM I R) (ha1 : inR a1) (ha2 : inR a2) (ha3 : inR a3) {Q : cI → cR → Prop} (hw : wX10_add a1 a2 a3 I R Q) : gM l D E cIds yX10_add vX10_add (rmK 1 (0) (0)) [.ref (E.1 4), iV a1, iV a2, iV a3] (cef E (I, R)) (cef E) (pV Q) (0) (0) := by
  unfold wX10_add at hw
  refine k_ofW (own := RX10) (cc := cX10_add) (maxL := 4) (ret := none) (lv := [(0, .ref (E.1 4)), (1, iV a1), (2, iV a2), (3, iV a3)]) (by decide) rfl rfl (Nat.le_of_ble_eq_true rfl) rfl ?_
  intro X hl hR hN hD F K
  subst hl; subst hD
  have hret := mk_rV (Q := Q) F K
  refine q_aload_n F 0 dX10_add_0 rfl rfl ?_
  refine t_g_Tokens_count F (by decide) ib10 wd57 dX10_add_1 ?_
  refine q_aload_n F 0 dX10_add_4 rfl rfl ?_
  refine t_g_Tokens_types F (by decide) ib10 wd59 5 rfl dX10_add_5 ?_
  refine t_alen F 1601 kA_5 dX10_add_8 ?_
  refine q_icmp_ge F (hm.1 _ _) (⟨by decide, by decide⟩ : inR (1601)) 52 dX10_add_9 (by decide) (fun hc => ?_) (fun hc => ?_)
  · have hw := hw.1 hc
    exact hret _ _ _ _ _ dX10_add_52 hm hw
  · have hw := hw.2 hc
    refine q_aload_n F 0 dX10_add_12 rfl rfl ?_
    refine t_g_Tokens_types F (by decide) ib10 wd59 5 rfl dX10_add_13 ?_
    refine q_aload_n F 0 dX10_add_16 rfl rfl ?_
    refine t_g_Tokens_count F (by decide) ib10 wd57 dX10_add_17 ?_
    refine q_iload_n F 1 dX10_add_20 rfl rfl ?_
    obtain ⟨k1, hw⟩ := hw
    obtain ⟨I2, e3⟩ := ex1 (up2 I 5 ((I 4 0)) a1)
    have hw := hw I2 e3
    have m4 : cM I2 R := cM_I hm e3 ha1
    refine t_ast F 1601 kA_5 k1 (by decide) e3 dX10_add_21 ?_
    refine q_aload_n F 0 dX10_add_22 rfl rfl ?_
    refine t_g_Tokens_starts F (by decide) ib10 wd60 6 rfl dX10_add_23 ?_
    refine q_aload_n F 0 dX10_add_26 rfl rfl ?_
    refine t_g_Tokens_count F (by decide) ib10 wd57 dX10_add_27 ?_
    refine q_iload_n F 2 dX10_add_30 rfl rfl ?_
    obtain ⟨k5, hw⟩ := hw
    obtain ⟨I6, e7⟩ := ex1 (up2 I2 6 ((I2 4 0)) a2)
    have hw := hw I6 e7
    have m8 : cM I6 R := cM_I m4 e7 ha2
    refine t_ast F 1601 kA_6 k5 (by decide) e7 dX10_add_31 ?_
    refine q_aload_n F 0 dX10_add_32 rfl rfl ?_
    refine t_g_Tokens_numbers F (by decide) ib10 wd61 7 rfl dX10_add_33 ?_
    refine q_aload_n F 0 dX10_add_36 rfl rfl ?_
    refine t_g_Tokens_count F (by decide) ib10 wd57 dX10_add_37 ?_
    refine q_iload_n F 3 dX10_add_40 rfl rfl ?_
    obtain ⟨k9, hw⟩ := hw
    obtain ⟨I10, e11⟩ := ex1 (up2 I6 7 ((I6 4 0)) a3)
    have hw := hw I10 e11
    have m12 : cM I10 R := cM_I m8 e11 ha3
    refine t_ast F 1601 kA_7 k9 (by decide) e11 dX10_add_41 ?_
    refine q_aload_n F 0 dX10_add_42 rfl rfl ?_
    refine q_dup F dX10_add_43 rfl ?_
    refine t_g_Tokens_count F (by decide) ib10 wd57 dX10_add_44 ?_
    refine q_iconst F dX10_add_47 ?_
    refine q_iadd F dX10_add_48 ?_
    obtain ⟨k13, hw⟩ := hw
    obtain ⟨I14, e15⟩ := ex1 (up2 I10 4 0 (((I10 4 0) + 1)))
    have hw := hw I14 e15
    have m16 : cM I14 R := cM_I m12 e15 k13
    refine t_p_Tokens_count F (by decide) ib10 wd57 e15 dX10_add_49 ?_
    exact hret _ _ _ _ _ dX10_add_52 m16 hw
theorem ydX10_addNumber : yX10_addNumber.cls = RX10 ∧ yX10_addNumber.cls ≠ "java/lang/invoke/MethodHandle" ∧ yX10_addNumber.cls ≠ "java/lang/invoke/VarHandle" ∧ (parseMethodDescriptor yX10_addNumber.desc).map (fun d => d.parameters.length) = some 2 := by decide +kernel
def vX10_addNumber : List Cond := Cond.code yX10_addNumber cX10_addNumber 5 (some .int) :: bG
set_option maxHeartbeats 4000000 in
set_option maxRecDepth 100000 in
theorem bX10_addNumber_59 {X : xC} {E : cE} (F : mF X E RX10 cX10_addNumber bG) (hR : X.1.2.2.2 = rmK 2 (0) (0)) (hN : X.2.2.1.2.2.2 = 5) {Q : Int → cI → cR → Prop} (hret : rI X E cX10_addNumber (0) (0) Q) {a2 : Int} (ha2 : inR a2) : ∀ (x3 : Int) (x4 : Int) (y1 : Int) (I : cI) (R : cR), inR x3 → inR x4 → inR y1 → cM I R → wX10_addNumber_59 Q a2 x3 x4 y1 I R → cW X (0) (0) 59 [(2, iV a2), (3, iV x3), (4, iV x4)] [iV y1, .ref (E.1 4)] (gw E.1 cIds (cef E (I, R)) ++ []) := by
  intro x3 x4 y1 I R hx3 hx4 hy1 hm hw
  unfold wX10_addNumber_59 at hw
  refine q_iload_n F 0 dX10_addNumber_59 rfl rfl ?_
  refine q_iload F 2 dX10_addNumber_60 rfl ?_
  refine q_Vv F (kcX10_add hm hy1 ha2 hx4 hw) (cIds_in (show ckd 4 = 8 ∧ 4 < 353 by decide).2) (ceTokens (show ckd 4 = 8 ∧ 4 < 353 by decide).1) (ci := 8) rfl (bV wd231 wd232 wd881 wd4 wd233) rfl ⟨rfl, rfl⟩ ydX10_add (rmK_le hR (by omega) (by decide)) (av := [iV y1, iV a2, iV x4]) rfl rfl (Nat.le_of_ble_eq_true rfl) dX10_addNumber_62 (rmK_cs hR (by omega) (by omega)) (fun I2 R3 m5 hw => ?_)
  refine q_iload_n F 1 dX10_addNumber_65 rfl rfl ?_
  exact hret _ _ _ _ _ _ dX10_addNumber_66 hx3 m5 hw
set_option maxHeartbeats 4000000 in
set_option maxRecDepth 100000 in
theorem bX10_addNumber_46 {X : xC} {E : cE} (F : mF X E RX10 cX10_addNumber bG) (hR : X.1.2.2.2 = rmK 2 (0) (0)) (hN : X.2.2.1.2.2.2 = 5) {Q : Int → cI → cR → Prop} (hret : rI X E cX10_addNumber (0) (0) Q) {a2 : Int} (ha2 : inR a2) : ∀ (x3 : Int) (x4 : Int) (I : cI) (R : cR), inR x3 → inR x4 → cM I R → wX10_addNumber_46 Q a2 x3 x4 I R → cW X (0) (0) 46 [(0, .ref (E.1 4)), (2, iV a2), (3, iV x3), (4, iV x4)] [] (gw E.1 cIds (cef E (I, R)) ++ []) := by
  intro x3 x4 I R hx3 hx4 hm hw
  unfold wX10_addNumber_46 at hw
  refine q_aload_n F 0 dX10_addNumber_46 rfl rfl ?_
  refine q_iload_n F 2 dX10_addNumber_47 rfl rfl ?_
  refine q_iload_n F 1 dX10_addNumber_48 rfl rfl ?_
  refine q_isub F dX10_addNumber_49 ?_
  refine q_iconst F dX10_addNumber_50 ?_
  obtain ⟨k1, hw⟩ := hw
  refine q_icmp_gt F k1 (⟨by decide, by decide⟩ : inR (4)) 58 dX10_addNumber_51 (by decide) (fun hc => ?_) (fun hc => ?_)
  · have hw := hw.1 hc
    refine q_iconst F dX10_addNumber_58 ?_
    refine q_lv [1, 2, 3] rfl ?_
    exact bX10_addNumber_59 F hR hN hret ha2 x3 x4 5 I R hx3 hx4 (⟨by decide, by decide⟩ : inR (5)) hm hw
  · have hw := hw.2 hc
    refine q_iconst F dX10_addNumber_54 ?_
    refine q_goto F 59 dX10_addNumber_55 (by decide) ?_
    refine q_lv [1, 2, 3] rfl ?_
    exact bX10_addNumber_59 F hR hN hret ha2 x3 x4 2 I R hx3 hx4 (⟨by decide, by decide⟩ : inR (2)) hm hw
set_option maxHeartbeats 4000000 in
set_option maxRecDepth 100000 in
theorem bX10_addNumber_5 {X : xC} {E : cE} (F : mF X E RX10 cX10_addNumber bG) (hR : X.1.2.2.2 = rmK 2 (0) (0)) (hN : X.2.2.1.2.2.2 = 5) {Q : Int → cI → cR → Prop} (hret : rI X E cX10_addNumber (0) (0) Q) {a2 : Int} (ha2 : inR a2) : ∀ n5 : Nat, ∀ (x3 : Int) (x4 : Int) (I : cI) (R : cR), inR x3 → inR x4 → cM I R → wX10_addNumber_5 Q a2 n5 x3 x4 I R → cW X (0) (0) 5 [(0, .ref (E.1 4)), (1, .ref (E.1 1)), (2, iV a2), (3, iV x3), (4, iV x4)] [] (gw E.1 cIds (cef E (I, R)) ++ []) := by
  intro n5
  induction n5 with
  | zero => intro x3 x4 I R hx3 hx4 hm hw; exact hw.elim
  | succ n5 ih =>
    intro x3 x4 I R hx3 hx4 hm hw
    change wbX10_addNumber_5 Q a2 (wX10_addNumber_5 Q a2 n5) x3 x4 I R at hw
    unfold wbX10_addNumber_5 at hw
    refine q_iload_n F 3 dX10_addNumber_5 rfl rfl ?_
    refine q_aload_n F 1 dX10_addNumber_6 rfl rfl ?_
    refine t_g_Tape_length F (by decide) ib9 wd42 dX10_addNumber_7 ?_
    refine q_icmp_ge F hx3 (hm.1 _ _) 46 dX10_addNumber_10 (by decide) (fun hc => ?_) (fun hc => ?_)
    · have hw := hw.1 hc
      refine q_lv [0, 2, 3, 4] rfl ?_
      exact bX10_addNumber_46 F hR hN hret ha2 x3 x4 I R hx3 hx4 hm hw
    · have hw := hw.2 hc
      refine q_aload_n F 1 dX10_addNumber_13 rfl rfl ?_
      refine q_iload_n F 3 dX10_addNumber_14 rfl rfl ?_
      refine q_Vi F (kcX9_byteOrNone hm hx3 hw) (cIds_in (show ckd 1 = 7 ∧ 1 < 353 by decide).2) (ceTape (show ckd 1 = 7 ∧ 1 < 353 by decide).1) (ci := 7) rfl (bV wd218 wd219 wd220 wd2 wd221) rfl ⟨rfl, rfl⟩ ydX9_byteOrNone (rmK_le hR (by omega) (by decide)) (av := [iV x3]) rfl rfl (Nat.le_of_ble_eq_true rfl) dX10_addNumber_15 (rmK_cs hR (by omega) (by omega)) (fun r1 I2 R3 h4 m5 hw => ?_)
      refine q_Si F (kcX10_isDigit m5 h4 hw) (bS wd225 wd226 wd4 wd227) rfl ⟨rfl, rfl⟩ ydX10_isDigit (rmK_le hR (by omega) (by decide)) (av := [iV r1]) rfl rfl (Nat.le_of_ble_eq_true rfl) dX10_addNumber_18 (rmK_cs hR (by omega) (by omega)) (fun r6 I7 R8 h9 m10 hw => ?_)
      refine q_if_eq F h9 46 dX10_addNumber_21 (by decide) (fun hc => ?_) (fun hc => ?_)
      · have hw := hw.1 hc
        refine q_lv [0, 2, 3, 4] rfl ?_
        exact bX10_addNumber_46 F hR hN hret ha2 x3 x4 I7 R8 hx3 hx4 m10 hw
      · have hw := hw.2 hc
        refine q_iload F 4 dX10_addNumber_24 rfl ?_
        refine q_bipush F dX10_addNumber_26 (by decide) ?_
        refine q_imul F dX10_addNumber_28 ?_
        refine q_aload_n F 1 dX10_addNumber_29 rfl rfl ?_
        refine q_iload_n F 3 dX10_addNumber_30 rfl rfl ?_
        refine q_Vi F (kcX9_byteOrNone m10 hx3 hw) (cIds_in (show ckd 1 = 7 ∧ 1 < 353 by decide).2) (ceTape (show ckd 1 = 7 ∧ 1 < 353 by decide).1) (ci := 7) rfl (bV wd218 wd219 wd220 wd2 wd221) rfl ⟨rfl, rfl⟩ ydX9_byteOrNone (rmK_le hR (by omega) (by decide)) (av := [iV x3]) rfl rfl (Nat.le_of_ble_eq_true rfl) dX10_addNumber_31 (rmK_cs hR (by omega) (by omega)) (fun r11 I12 R13 h14 m15 hw => ?_)
        refine q_iadd F dX10_addNumber_34 ?_
        refine q_bipush F dX10_addNumber_35 (by decide) ?_
        refine q_isub F dX10_addNumber_37 ?_
        obtain ⟨z16, e17⟩ := ex1 (wrp ((((x4 * 10) + r11) - 48)))
        have hw := hw z16 e17
        have hz16 : inR z16 := by rw [e17]; exact wrp_in
        refine q_topw e17 ?_
        refine q_istore (lv' := [(0, .ref (E.1 4)), (1, .ref (E.1 1)), (2, iV a2), (3, iV x3), (4, iV z16)]) F [1, 2, 3, 4, 0] dX10_addNumber_38 (q_n hN (by decide)) rfl ?_
        obtain ⟨k20, hw⟩ := hw
        obtain ⟨z18, e19⟩ := ex1 (x3 + 1)
        have hw := hw z18 e19
        have hz18 : inR z18 := by rw [e19]; exact k20
        refine q_iinc (lv' := [(0, .ref (E.1 4)), (1, .ref (E.1 1)), (2, iV a2), (3, iV z18), (4, iV z16)]) F 3 [1, 2, 3, 0, 4] dX10_addNumber_40 rfl (q_n hN (by decide)) e19.symm rfl ?_
        refine q_goto F 5 dX10_addNumber_43 (by decide) ?_
        exact ih z18 z16 I12 R13 hz18 hz16 m15 hw
set_option maxHeartbeats 4000000 in
set_option maxRecDepth 100000 in
theorem kcX10_addNumber {l : Launch} {D : va_G} {E : cE} {a2 : Int} {I : cI} {R : cR} (hm : cM I R) (ha2 : inR a2) {Q : Int → cI → cR → Prop} (hw : wX10_addNumber a2 I R Q) : gM l D E cIds yX10_addNumber vX10_addNumber (rmK 2 (0) (0)) [.ref (E.1 4), .ref (E.1 1), iV a2] (cef E (I, R)) (cef E) (pI Q) (0) (0) := by
  unfold wX10_addNumber at hw
  refine k_ofW (own := RX10) (cc := cX10_addNumber) (maxL := 5) (ret := (some .int)) (lv := [(0, .ref (E.1 4)), (1, .ref (E.1 1)), (2, iV a2)]) (by decide) rfl rfl (Nat.le_of_ble_eq_true rfl) rfl ?_
  intro X hl hR hN hD F K
  subst hl; subst hD
  have hret := mk_rI (Q := Q) F K
  refine q_iload_n F 2 dX10_addNumber_0 rfl rfl ?_
  refine q_istore_n (lv' := [(0, .ref (E.1 4)), (1, .ref (E.1 1)), (2, iV a2), (3, iV a2)]) F [1, 2, 3, 0] dX10_addNumber_1 rfl (q_n hN (by decide)) rfl ?_
  refine q_iconst F dX10_addNumber_2 ?_
  refine q_istore (lv' := [(0, .ref (E.1 4)), (1, .ref (E.1 1)), (2, iV a2), (3, iV a2), (4, iV 0)]) F [1, 2, 3, 4, 0] dX10_addNumber_3 (q_n hN (by decide)) rfl ?_
  obtain ⟨n1, hw⟩ := hw
  exact bX10_addNumber_5 F hR hN hret ha2 n1 a2 0 I R ha2 (⟨by decide, by decide⟩ : inR (0)) hm hw
theorem ydX10_isLetter : yX10_isLetter.cls = RX10 ∧ yX10_isLetter.cls ≠ "java/lang/invoke/MethodHandle" ∧ yX10_isLetter.cls ≠ "java/lang/invoke/VarHandle" ∧ (parseMethodDescriptor yX10_isLetter.desc).map (fun d => d.parameters.length) = some 1 := by decide +kernel
def vX10_isLetter : List Cond := Cond.code yX10_isLetter cX10_isLetter 1 (some .boolean) :: bG
set_option maxHeartbeats 4000000 in
set_option maxRecDepth 100000 in
theorem kcX10_isLetter {l : Launch} {D : va_G} {E : cE} {a0 : Int} {I : cI} {R : cR} (hm : cM I R) (ha0 : inR a0) {Q : Int → cI → cR → Prop} (hw : wX10_isLetter a0 I R Q) : gM l D E cIds yX10_isLetter vX10_isLetter (rmK 1 (0) (0)) [iV a0] (cef E (I, R)) (cef E) (pI Q) (0) (0) := by
  unfold wX10_isLetter at hw
  refine k_ofW (own := RX10) (cc := cX10_isLetter) (maxL := 1) (ret := (some .boolean)) (lv := [(0, iV a0)]) (by decide) rfl rfl (Nat.le_of_ble_eq_true rfl) rfl ?_
  intro X hl hR hN hD F K
  subst hl; subst hD
  have hret := mk_rZ (Q := Q) F K
  refine q_iload_n F 0 dX10_isLetter_0 rfl rfl ?_
  refine q_bipush F dX10_isLetter_1 (by decide) ?_
  refine q_icmp_lt F ha0 (⟨by decide, by decide⟩ : inR (97)) 16 dX10_isLetter_3 (by decide) (fun hc => ?_) (fun hc => ?_)
  · have hw := hw.1 hc
    refine q_iconst F dX10_isLetter_16 ?_
    exact hret _ _ _ _ _ _ dX10_isLetter_17 (Or.inl rfl) (⟨by decide, by decide⟩ : inR (0)) hm hw
  · have hw := hw.2 hc
    refine q_iload_n F 0 dX10_isLetter_6 rfl rfl ?_
    refine q_bipush F dX10_isLetter_7 (by decide) ?_
    refine q_icmp_gt F ha0 (⟨by decide, by decide⟩ : inR (122)) 16 dX10_isLetter_9 (by decide) (fun hc => ?_) (fun hc => ?_)
    · have hw := hw.1 hc
      refine q_iconst F dX10_isLetter_16 ?_
      exact hret _ _ _ _ _ _ dX10_isLetter_17 (Or.inl rfl) (⟨by decide, by decide⟩ : inR (0)) hm hw
    · have hw := hw.2 hc
      refine q_iconst F dX10_isLetter_12 ?_
      refine q_goto F 17 dX10_isLetter_13 (by decide) ?_
      exact hret _ _ _ _ _ _ dX10_isLetter_17 (Or.inr rfl) (⟨by decide, by decide⟩ : inR (1)) hm hw
theorem ydX10_isWord : yX10_isWord.cls = RX10 ∧ yX10_isWord.cls ≠ "java/lang/invoke/MethodHandle" ∧ yX10_isWord.cls ≠ "java/lang/invoke/VarHandle" ∧ (parseMethodDescriptor yX10_isWord.desc).map (fun d => d.parameters.length) = some 4 := by decide +kernel
def vX10_isWord : List Cond := Cond.code yX10_isWord cX10_isWord 5 (some .boolean) :: bG
set_option maxHeartbeats 4000000 in
set_option maxRecDepth 100000 in
theorem bX10_isWord_15 {X : xC} {E : cE} (F : mF X E RX10 cX10_isWord bG) (hR : X.1.2.2.2 = rmK 5 (0) (0)) (hN : X.2.2.1.2.2.2 = 5) {Q : Int → cI → cR → Prop} (hret : rZ X E cX10_isWord (0) (0) Q) {a1 : Int} {a2 : Int} {a3 : Nat} (ha1 : inR a1) (ha2 : inR a2) (ha3 : a3 < 33) : ∀ n15 : Nat, ∀ (x4 : Int) (I : cI) (R : cR), inR x4 → cM I R → wX10_isWord_15 Q a1 a2 a3 n15 x4 I R → cW X (0) (0) 15 [(0, .ref (E.1 1)), (1, iV a1), (3, .ref (E.2.1 1 a3)), (4, iV x4)] [] (gw E.1 cIds (cef E (I, R)) ++ []) := by
  intro n15
  induction n15 with
  | zero => intro x4 I R hx4 hm hw; exact hw.elim
  | succ n15 ih =>
    intro x4 I R hx4 hm hw
    change wbX10_isWord_15 Q a1 a2 a3 (wX10_isWord_15 Q a1 a2 a3 n15) x4 I R at hw
    unfold wbX10_isWord_15 at hw
    refine q_iload F 3 dX10_isWord_15 rfl ?_
    refine q_aload_n F 2 dX10_isWord_17 rfl rfl ?_
    refine q_slen F hR (by omega) ha3 wd248 dX10_isWord_18 (Nat.le_of_ble_eq_true rfl) ?_
    refine q_icmp_ge F hx4 (txN_in ha3) 49 dX10_isWord_21 (by decide) (fun hc => ?_) (fun hc => ?_)
    · have hw := hw.1 hc
      refine q_iconst F dX10_isWord_49 ?_
      exact hret _ _ _ _ _ _ dX10_isWord_50 (Or.inr rfl) (⟨by decide, by decide⟩ : inR (1)) hm hw
    · have hw := hw.2 hc
      refine q_aload_n F 0 dX10_isWord_24 rfl rfl ?_
      refine q_iload_n F 1 dX10_isWord_25 rfl rfl ?_
      refine q_iload F 3 dX10_isWord_26 rfl ?_
      refine q_iadd F dX10_isWord_28 ?_
      obtain ⟨k1, hw⟩ := hw
      refine q_Vi F (kcX9_byteOrNone hm k1 hw) (cIds_in (show ckd 1 = 7 ∧ 1 < 353 by decide).2) (ceTape (show ckd 1 = 7 ∧ 1 < 353 by decide).1) (ci := 7) rfl (bV wd218 wd219 wd220 wd2 wd221) rfl ⟨rfl, rfl⟩ ydX9_byteOrNone (rmK_le hR (by omega) (by decide)) (av := [iV ((a1 + x4))]) rfl rfl (Nat.le_of_ble_eq_true rfl) dX10_isWord_29 (rmK_cs hR (by omega) (by omega)) (fun r2 I3 R4 h5 m6 hw => ?_)
      refine q_aload_n F 2 dX10_isWord_32 rfl rfl ?_
      refine q_iload F 3 dX10_isWord_33 rfl ?_
      obtain ⟨k7, hw⟩ := hw
      refine q_sch F hR (by omega) ha3 k7 wd258 dX10_isWord_35 (Nat.le_of_ble_eq_true rfl) ?_
      refine q_icmp_eq F h5 (txC_in _ _) 43 dX10_isWord_38 (by decide) (fun hc => ?_) (fun hc => ?_)
      · have hw := hw.1 hc
        obtain ⟨k10, hw⟩ := hw
        obtain ⟨z8, e9⟩ := ex1 (x4 + 1)
        have hw := hw z8 e9
        have hz8 : inR z8 := by rw [e9]; exact k10
        refine q_iinc (lv' := [(0, .ref (E.1 1)), (1, iV a1), (3, .ref (E.2.1 1 a3)), (4, iV z8)]) F 3 [1, 2, 3, 0] dX10_isWord_43 rfl (q_n hN (by decide)) e9.symm rfl ?_
        refine q_goto F 15 dX10_isWord_46 (by decide) ?_
        exact ih z8 I3 R4 hz8 m6 hw
      · have hw := hw.2 hc
        refine q_iconst F dX10_isWord_41 ?_
        exact hret _ _ _ _ _ _ dX10_isWord_42 (Or.inl rfl) (⟨by decide, by decide⟩ : inR (0)) m6 hw
set_option maxHeartbeats 4000000 in
set_option maxRecDepth 100000 in
theorem kcX10_isWord {l : Launch} {D : va_G} {E : cE} {a1 : Int} {a2 : Int} {a3 : Nat} {I : cI} {R : cR} (hm : cM I R) (ha1 : inR a1) (ha2 : inR a2) (ha3 : a3 < 33) {Q : Int → cI → cR → Prop} (hw : wX10_isWord a1 a2 a3 I R Q) : gM l D E cIds yX10_isWord vX10_isWord (rmK 5 (0) (0)) [.ref (E.1 1), iV a1, iV a2, .ref (E.2.1 1 a3)] (cef E (I, R)) (cef E) (pI Q) (0) (0) := by
  unfold wX10_isWord at hw
  refine k_ofW (own := RX10) (cc := cX10_isWord) (maxL := 5) (ret := (some .boolean)) (lv := [(0, .ref (E.1 1)), (1, iV a1), (2, iV a2), (3, .ref (E.2.1 1 a3))]) (by decide) rfl rfl (Nat.le_of_ble_eq_true rfl) rfl ?_
  intro X hl hR hN hD F K
  subst hl; subst hD
  have hret := mk_rZ (Q := Q) F K
  refine q_iload_n F 2 dX10_isWord_0 rfl rfl ?_
  refine q_iload_n F 1 dX10_isWord_1 rfl rfl ?_
  refine q_isub F dX10_isWord_2 ?_
  refine q_aload_n F 3 dX10_isWord_3 rfl rfl ?_
  refine q_slen F hR (by omega) ha3 wd248 dX10_isWord_4 (Nat.le_of_ble_eq_true rfl) ?_
  obtain ⟨k1, hw⟩ := hw
  refine q_icmp_eq F k1 (txN_in ha3) 12 dX10_isWord_7 (by decide) (fun hc => ?_) (fun hc => ?_)
  · have hw := hw.1 hc
    refine q_iconst F dX10_isWord_12 ?_
    refine q_istore (lv' := [(0, .ref (E.1 1)), (1, iV a1), (2, iV a2), (3, .ref (E.2.1 1 a3)), (4, iV 0)]) F [1, 2, 3, 4, 0] dX10_isWord_13 (q_n hN (by decide)) rfl ?_
    refine q_lv [0, 1, 3, 4] rfl ?_
    obtain ⟨n2, hw⟩ := hw
    exact bX10_isWord_15 F hR hN hret ha1 ha2 ha3 n2 0 I R (⟨by decide, by decide⟩ : inR (0)) hm hw
  · have hw := hw.2 hc
    refine q_iconst F dX10_isWord_10 ?_
    exact hret _ _ _ _ _ _ dX10_isWord_11 (Or.inl rfl) (⟨by decide, by decide⟩ : inR (0)) hm hw
theorem ydX10_wordNumber : yX10_wordNumber.cls = RX10 ∧ yX10_wordNumber.cls ≠ "java/lang/invoke/MethodHandle" ∧ yX10_wordNumber.cls ≠ "java/lang/invoke/VarHandle" ∧ (parseMethodDescriptor yX10_wordNumber.desc).map (fun d => d.parameters.length) = some 3 := by decide +kernel
def vX10_wordNumber : List Cond := Cond.code yX10_wordNumber cX10_wordNumber 4 (some .int) :: bG
set_option maxHeartbeats 4000000 in
set_option maxRecDepth 100000 in
theorem bX10_wordNumber_2 {X : xC} {E : cE} (F : mF X E RX10 cX10_wordNumber bG) (hR : X.1.2.2.2 = rmK 6 (0) (0)) (hN : X.2.2.1.2.2.2 = 4) {Q : Int → cI → cR → Prop} (hret : rI X E cX10_wordNumber (0) (0) Q) {a1 : Int} {a2 : Int} (ha1 : inR a1) (ha2 : inR a2) : ∀ n2 : Nat, ∀ (x3 : Int) (I : cI) (R : cR), inR x3 → cM I R → wX10_wordNumber_2 Q a1 a2 n2 x3 I R → cW X (0) (0) 2 [(0, .ref (E.1 1)), (1, iV a1), (2, iV a2), (3, iV x3)] [] (gw E.1 cIds (cef E (I, R)) ++ []) := by
  intro n2
  induction n2 with
  | zero => intro x3 I R hx3 hm hw; exact hw.elim
  | succ n2 ih =>
    intro x3 I R hx3 hm hw
    change wbX10_wordNumber_2 Q a1 a2 (wX10_wordNumber_2 Q a1 a2 n2) x3 I R at hw
    unfold wbX10_wordNumber_2 at hw
    refine q_iload_n F 3 dX10_wordNumber_2 rfl rfl ?_
    refine q_gsN F (sZ_ALL F) (sN_10 F) rfl dX10_wordNumber_3 ?_
    refine q_lenALL F dX10_wordNumber_6 ?_
    refine q_icmp_ge F hx3 (⟨by decide, by decide⟩ : inR (12)) 42 dX10_wordNumber_7 (by decide) (fun hc => ?_) (fun hc => ?_)
    · have hw := hw.1 hc
      refine q_aload_n F 0 dX10_wordNumber_42 rfl rfl ?_
      refine q_iload_n F 1 dX10_wordNumber_43 rfl rfl ?_
      refine q_iload_n F 2 dX10_wordNumber_44 rfl rfl ?_
      refine q_ldcT F (sR_RX10_rows F) dX10_wordNumber_45 ?_
      refine q_Si F (kcX10_isWord hm ha1 ha2 (by decide) hw) (bS wd245 wd246 wd4 wd247) rfl ⟨rfl, rfl⟩ ydX10_isWord (rmK_le hR (by omega) (by decide)) (av := [.ref (E.1 1), iV a1, iV a2, .ref (E.2.1 1 12)]) rfl rfl (Nat.le_of_ble_eq_true rfl) dX10_wordNumber_47 (rmK_cs hR (by omega) (by omega)) (fun r1 I2 R3 h4 m5 hw => ?_)
      refine q_if_eq F h4 56 dX10_wordNumber_50 (by decide) (fun hc => ?_) (fun hc => ?_)
      · have hw := hw.1 hc
        refine q_aload_n F 0 dX10_wordNumber_56 rfl rfl ?_
        refine q_iload_n F 1 dX10_wordNumber_57 rfl rfl ?_
        refine q_iload_n F 2 dX10_wordNumber_58 rfl rfl ?_
        refine q_ldcT F (sR_RX10_columns F) dX10_wordNumber_59 ?_
        refine q_Si F (kcX10_isWord m5 ha1 ha2 (by decide) hw) (bS wd245 wd246 wd4 wd247) rfl ⟨rfl, rfl⟩ ydX10_isWord (rmK_le hR (by omega) (by decide)) (av := [.ref (E.1 1), iV a1, iV a2, .ref (E.2.1 1 13)]) rfl rfl (Nat.le_of_ble_eq_true rfl) dX10_wordNumber_61 (rmK_cs hR (by omega) (by omega)) (fun r6 I7 R8 h9 m10 hw => ?_)
        refine q_if_eq F h9 70 dX10_wordNumber_64 (by decide) (fun hc => ?_) (fun hc => ?_)
        · have hw := hw.1 hc
          refine q_aload_n F 0 dX10_wordNumber_70 rfl rfl ?_
          refine q_iload_n F 1 dX10_wordNumber_71 rfl rfl ?_
          refine q_iload_n F 2 dX10_wordNumber_72 rfl rfl ?_
          refine q_ldcT F (sR_RX10_grid F) dX10_wordNumber_73 ?_
          refine q_Si F (kcX10_isWord m10 ha1 ha2 (by decide) hw) (bS wd245 wd246 wd4 wd247) rfl ⟨rfl, rfl⟩ ydX10_isWord (rmK_le hR (by omega) (by decide)) (av := [.ref (E.1 1), iV a1, iV a2, .ref (E.2.1 1 14)]) rfl rfl (Nat.le_of_ble_eq_true rfl) dX10_wordNumber_75 (rmK_cs hR (by omega) (by omega)) (fun r11 I12 R13 h14 m15 hw => ?_)
          refine q_if_eq F h14 86 dX10_wordNumber_78 (by decide) (fun hc => ?_) (fun hc => ?_)
          · have hw := hw.1 hc
            refine q_iconst F dX10_wordNumber_86 ?_
            exact hret _ _ _ _ _ _ dX10_wordNumber_87 (⟨by decide, by decide⟩ : inR (-1)) m15 hw
          · have hw := hw.2 hc
            refine q_bipush F dX10_wordNumber_81 (by decide) ?_
            refine q_goto F 87 dX10_wordNumber_83 (by decide) ?_
            exact hret _ _ _ _ _ _ dX10_wordNumber_87 (⟨by decide, by decide⟩ : inR (14)) m15 hw
        · have hw := hw.2 hc
          refine q_bipush F dX10_wordNumber_67 (by decide) ?_
          exact hret _ _ _ _ _ _ dX10_wordNumber_69 (⟨by decide, by decide⟩ : inR (13)) m10 hw
      · have hw := hw.2 hc
        refine q_bipush F dX10_wordNumber_53 (by decide) ?_
        exact hret _ _ _ _ _ _ dX10_wordNumber_55 (⟨by decide, by decide⟩ : inR (12)) m5 hw
    · have hw := hw.2 hc
      refine q_aload_n F 0 dX10_wordNumber_10 rfl rfl ?_
      refine q_iload_n F 1 dX10_wordNumber_11 rfl rfl ?_
      refine q_iload_n F 2 dX10_wordNumber_12 rfl rfl ?_
      refine q_gsN F (sZ_ALL F) (sN_10 F) rfl dX10_wordNumber_13 ?_
      refine q_iload_n F 3 dX10_wordNumber_16 rfl rfl ?_
      obtain ⟨k16, hw⟩ := hw
      refine q_ldALL F k16 dX10_wordNumber_17 ?_
      refine q_kWord F (tN12 k16) wd834 dX10_wordNumber_18 ?_
      refine q_Si F (kcX10_isWord hm ha1 ha2 (Nat.lt_trans (tN12 k16) (by decide)) hw) (bS wd245 wd246 wd4 wd247) rfl ⟨rfl, rfl⟩ ydX10_isWord (rmK_le hR (by omega) (by decide)) (av := [.ref (E.1 1), iV a1, iV a2, .ref (E.2.1 1 (Int.toNat (x3)))]) rfl rfl (Nat.le_of_ble_eq_true rfl) dX10_wordNumber_21 (rmK_cs hR (by omega) (by omega)) (fun r17 I18 R19 h20 m21 hw => ?_)
      refine q_if_eq F h20 36 dX10_wordNumber_24 (by decide) (fun hc => ?_) (fun hc => ?_)
      · have hw := hw.1 hc
        obtain ⟨k24, hw⟩ := hw
        obtain ⟨z22, e23⟩ := ex1 (x3 + 1)
        have hw := hw z22 e23
        have hz22 : inR z22 := by rw [e23]; exact k24
        refine q_iinc (lv' := [(0, .ref (E.1 1)), (1, iV a1), (2, iV a2), (3, iV z22)]) F 3 [1, 2, 3, 0] dX10_wordNumber_36 rfl (q_n hN (by decide)) e23.symm rfl ?_
        refine q_goto F 2 dX10_wordNumber_39 (by decide) ?_
        exact ih z22 I18 R19 hz22 m21 hw
      · have hw := hw.2 hc
        refine q_gsN F (sZ_ALL F) (sN_10 F) rfl dX10_wordNumber_27 ?_
        refine q_iload_n F 3 dX10_wordNumber_30 rfl rfl ?_
        obtain ⟨k25, hw⟩ := hw
        refine q_ldALL F k25 dX10_wordNumber_31 ?_
        refine q_kNum F (tN12 k25) wd835 dX10_wordNumber_32 ?_
        exact hret _ _ _ _ _ _ dX10_wordNumber_35 (kN_in (tN12 k25)) m21 hw
set_option maxHeartbeats 4000000 in
set_option maxRecDepth 100000 in
theorem kcX10_wordNumber {l : Launch} {D : va_G} {E : cE} {a1 : Int} {a2 : Int} {I : cI} {R : cR} (hm : cM I R) (ha1 : inR a1) (ha2 : inR a2) {Q : Int → cI → cR → Prop} (hw : wX10_wordNumber a1 a2 I R Q) : gM l D E cIds yX10_wordNumber vX10_wordNumber (rmK 6 (0) (0)) [.ref (E.1 1), iV a1, iV a2] (cef E (I, R)) (cef E) (pI Q) (0) (0) := by
  unfold wX10_wordNumber at hw
  refine k_ofW (own := RX10) (cc := cX10_wordNumber) (maxL := 4) (ret := (some .int)) (lv := [(0, .ref (E.1 1)), (1, iV a1), (2, iV a2)]) (by decide) rfl rfl (Nat.le_of_ble_eq_true rfl) rfl ?_
  intro X hl hR hN hD F K
  subst hl; subst hD
  have hret := mk_rI (Q := Q) F K
  refine q_iconst F dX10_wordNumber_0 ?_
  refine q_istore_n (lv' := [(0, .ref (E.1 1)), (1, iV a1), (2, iV a2), (3, iV 0)]) F [1, 2, 3, 0] dX10_wordNumber_1 rfl (q_n hN (by decide)) rfl ?_
  obtain ⟨n1, hw⟩ := hw
  exact bX10_wordNumber_2 F hR hN hret ha1 ha2 n1 0 I R (⟨by decide, by decide⟩ : inR (0)) hm hw
theorem ydX10_addWord : yX10_addWord.cls = RX10 ∧ yX10_addWord.cls ≠ "java/lang/invoke/MethodHandle" ∧ yX10_addWord.cls ≠ "java/lang/invoke/VarHandle" ∧ (parseMethodDescriptor yX10_addWord.desc).map (fun d => d.parameters.length) = some 2 := by decide +kernel
def vX10_addWord : List Cond := Cond.code yX10_addWord cX10_addWord 5 (some .int) :: bG
set_option maxHeartbeats 4000000 in
set_option maxRecDepth 100000 in
theorem bX10_addWord_59 {X : xC} {E : cE} (F : mF X E RX10 cX10_addWord bG) (hR : X.1.2.2.2 = rmK 7 (0) (0)) (hN : X.2.2.1.2.2.2 = 5) {Q : Int → cI → cR → Prop} (hret : rI X E cX10_addWord (0) (0) Q) {a2 : Int} (ha2 : inR a2) : ∀ (x3 : Int) (x4 : Int) (y1 : Int) (I : cI) (R : cR), inR x3 → inR x4 → inR y1 → cM I R → wX10_addWord_59 Q a2 x3 x4 y1 I R → cW X (0) (0) 59 [(2, iV a2), (3, iV x3), (4, iV x4)] [iV y1, .ref (E.1 4)] (gw E.1 cIds (cef E (I, R)) ++ []) := by
  intro x3 x4 y1 I R hx3 hx4 hy1 hm hw
  unfold wX10_addWord_59 at hw
  refine q_iload_n F 0 dX10_addWord_59 rfl rfl ?_
  refine q_iload F 2 dX10_addWord_60 rfl ?_
  refine q_Vv F (kcX10_add hm hy1 ha2 hx4 hw) (cIds_in (show ckd 4 = 8 ∧ 4 < 353 by decide).2) (ceTokens (show ckd 4 = 8 ∧ 4 < 353 by decide).1) (ci := 8) rfl (bV wd231 wd232 wd881 wd4 wd233) rfl ⟨rfl, rfl⟩ ydX10_add (rmK_le hR (by omega) (by decide)) (av := [iV y1, iV a2, iV x4]) rfl rfl (Nat.le_of_ble_eq_true rfl) dX10_addWord_62 (rmK_cs hR (by omega) (by omega)) (fun I2 R3 m5 hw => ?_)
  refine q_iload_n F 1 dX10_addWord_65 rfl rfl ?_
  exact hret _ _ _ _ _ _ dX10_addWord_66 hx3 m5 hw
set_option maxHeartbeats 4000000 in
set_option maxRecDepth 100000 in
theorem bX10_addWord_45 {X : xC} {E : cE} (F : mF X E RX10 cX10_addWord bG) (hR : X.1.2.2.2 = rmK 7 (0) (0)) (hN : X.2.2.1.2.2.2 = 5) {Q : Int → cI → cR → Prop} (hret : rI X E cX10_addWord (0) (0) Q) {a2 : Int} (ha2 : inR a2) : ∀ (x3 : Int) (y0 : Int) (I : cI) (R : cR), inR x3 → inR y0 → cM I R → wX10_addWord_45 Q a2 x3 y0 I R → cW X (0) (0) 45 [(0, .ref (E.1 4)), (2, iV a2), (3, iV x3)] [iV y0] (gw E.1 cIds (cef E (I, R)) ++ []) := by
  intro x3 y0 I R hx3 hy0 hm hw
  unfold wX10_addWord_45 at hw
  refine q_istore (lv' := [(0, .ref (E.1 4)), (2, iV a2), (3, iV x3), (4, iV y0)]) F [1, 2, 3, 0] dX10_addWord_45 (q_n hN (by decide)) rfl ?_
  refine q_aload_n F 0 dX10_addWord_47 rfl rfl ?_
  refine q_iload F 3 dX10_addWord_48 rfl ?_
  refine q_iconst F dX10_addWord_50 ?_
  refine q_icmp_ne F hy0 (⟨by decide, by decide⟩ : inR (-1)) 58 dX10_addWord_51 (by decide) (fun hc => ?_) (fun hc => ?_)
  · have hw := hw.1 hc
    refine q_iconst F dX10_addWord_58 ?_
    refine q_lv [1, 2, 3] rfl ?_
    exact bX10_addWord_59 F hR hN hret ha2 x3 y0 1 I R hx3 hy0 (⟨by decide, by decide⟩ : inR (1)) hm hw
  · have hw := hw.2 hc
    refine q_iconst F dX10_addWord_54 ?_
    refine q_goto F 59 dX10_addWord_55 (by decide) ?_
    refine q_lv [1, 2, 3] rfl ?_
    exact bX10_addWord_59 F hR hN hret ha2 x3 y0 5 I R hx3 hy0 (⟨by decide, by decide⟩ : inR (5)) hm hw
set_option maxHeartbeats 4000000 in
set_option maxRecDepth 100000 in
theorem bX10_addWord_27 {X : xC} {E : cE} (F : mF X E RX10 cX10_addWord bG) (hR : X.1.2.2.2 = rmK 7 (0) (0)) (hN : X.2.2.1.2.2.2 = 5) {Q : Int → cI → cR → Prop} (hret : rI X E cX10_addWord (0) (0) Q) {a2 : Int} (ha2 : inR a2) : ∀ (x3 : Int) (I : cI) (R : cR), inR x3 → cM I R → wX10_addWord_27 Q a2 x3 I R → cW X (0) (0) 27 [(0, .ref (E.1 4)), (1, .ref (E.1 1)), (2, iV a2), (3, iV x3)] [] (gw E.1 cIds (cef E (I, R)) ++ []) := by
  intro x3 I R hx3 hm hw
  unfold wX10_addWord_27 at hw
  refine q_iload_n F 3 dX10_addWord_27 rfl rfl ?_
  refine q_iload_n F 2 dX10_addWord_28 rfl rfl ?_
  refine q_isub F dX10_addWord_29 ?_
  refine q_bipush F dX10_addWord_30 (by decide) ?_
  obtain ⟨k1, hw⟩ := hw
  refine q_icmp_gt F k1 (⟨by decide, by decide⟩ : inR (8)) 44 dX10_addWord_32 (by decide) (fun hc => ?_) (fun hc => ?_)
  · have hw := hw.1 hc
    refine q_iconst F dX10_addWord_44 ?_
    refine q_lv [0, 2, 3] rfl ?_
    exact bX10_addWord_45 F hR hN hret ha2 x3 (-1) I R hx3 (⟨by decide, by decide⟩ : inR (-1)) hm hw
  · have hw := hw.2 hc
    refine q_aload_n F 1 dX10_addWord_35 rfl rfl ?_
    refine q_iload_n F 2 dX10_addWord_36 rfl rfl ?_
    refine q_iload_n F 3 dX10_addWord_37 rfl rfl ?_
    refine q_Si F (kcX10_wordNumber hm ha2 hx3 hw) (bS wd240 wd241 wd4 wd242) rfl ⟨rfl, rfl⟩ ydX10_wordNumber (rmK_le hR (by omega) (by decide)) (av := [.ref (E.1 1), iV a2, iV x3]) rfl rfl (Nat.le_of_ble_eq_true rfl) dX10_addWord_38 (rmK_cs hR (by omega) (by omega)) (fun r2 I3 R4 h5 m6 hw => ?_)
    refine q_goto F 45 dX10_addWord_41 (by decide) ?_
    refine q_lv [0, 2, 3] rfl ?_
    exact bX10_addWord_45 F hR hN hret ha2 x3 r2 I3 R4 hx3 h5 m6 hw
set_option maxHeartbeats 4000000 in
set_option maxRecDepth 100000 in
theorem bX10_addWord_2 {X : xC} {E : cE} (F : mF X E RX10 cX10_addWord bG) (hR : X.1.2.2.2 = rmK 7 (0) (0)) (hN : X.2.2.1.2.2.2 = 5) {Q : Int → cI → cR → Prop} (hret : rI X E cX10_addWord (0) (0) Q) {a2 : Int} (ha2 : inR a2) : ∀ n2 : Nat, ∀ (x3 : Int) (I : cI) (R : cR), inR x3 → cM I R → wX10_addWord_2 Q a2 n2 x3 I R → cW X (0) (0) 2 [(0, .ref (E.1 4)), (1, .ref (E.1 1)), (2, iV a2), (3, iV x3)] [] (gw E.1 cIds (cef E (I, R)) ++ []) := by
  intro n2
  induction n2 with
  | zero => intro x3 I R hx3 hm hw; exact hw.elim
  | succ n2 ih =>
    intro x3 I R hx3 hm hw
    change wbX10_addWord_2 Q a2 (wX10_addWord_2 Q a2 n2) x3 I R at hw
    unfold wbX10_addWord_2 at hw
    refine q_iload_n F 3 dX10_addWord_2 rfl rfl ?_
    refine q_aload_n F 1 dX10_addWord_3 rfl rfl ?_
    refine t_g_Tape_length F (by decide) ib9 wd42 dX10_addWord_4 ?_
    refine q_icmp_ge F hx3 (hm.1 _ _) 27 dX10_addWord_7 (by decide) (fun hc => ?_) (fun hc => ?_)
    · have hw := hw.1 hc
      exact bX10_addWord_27 F hR hN hret ha2 x3 I R hx3 hm hw
    · have hw := hw.2 hc
      refine q_aload_n F 1 dX10_addWord_10 rfl rfl ?_
      refine q_iload_n F 3 dX10_addWord_11 rfl rfl ?_
      refine q_Vi F (kcX9_byteOrNone hm hx3 hw) (cIds_in (show ckd 1 = 7 ∧ 1 < 353 by decide).2) (ceTape (show ckd 1 = 7 ∧ 1 < 353 by decide).1) (ci := 7) rfl (bV wd218 wd219 wd220 wd2 wd221) rfl ⟨rfl, rfl⟩ ydX9_byteOrNone (rmK_le hR (by omega) (by decide)) (av := [iV x3]) rfl rfl (Nat.le_of_ble_eq_true rfl) dX10_addWord_12 (rmK_cs hR (by omega) (by omega)) (fun r1 I2 R3 h4 m5 hw => ?_)
      refine q_Si F (kcX10_isLetter m5 h4 hw) (bS wd234 wd235 wd4 wd236) rfl ⟨rfl, rfl⟩ ydX10_isLetter (rmK_le hR (by omega) (by decide)) (av := [iV r1]) rfl rfl (Nat.le_of_ble_eq_true rfl) dX10_addWord_15 (rmK_cs hR (by omega) (by omega)) (fun r6 I7 R8 h9 m10 hw => ?_)
      refine q_if_eq F h9 27 dX10_addWord_18 (by decide) (fun hc => ?_) (fun hc => ?_)
      · have hw := hw.1 hc
        exact bX10_addWord_27 F hR hN hret ha2 x3 I7 R8 hx3 m10 hw
      · have hw := hw.2 hc
        obtain ⟨k13, hw⟩ := hw
        obtain ⟨z11, e12⟩ := ex1 (x3 + 1)
        have hw := hw z11 e12
        have hz11 : inR z11 := by rw [e12]; exact k13
        refine q_iinc (lv' := [(0, .ref (E.1 4)), (1, .ref (E.1 1)), (2, iV a2), (3, iV z11)]) F 3 [1, 2, 3, 0] dX10_addWord_21 rfl (q_n hN (by decide)) e12.symm rfl ?_
        refine q_goto F 2 dX10_addWord_24 (by decide) ?_
        exact ih z11 I7 R8 hz11 m10 hw
set_option maxHeartbeats 4000000 in
set_option maxRecDepth 100000 in
theorem kcX10_addWord {l : Launch} {D : va_G} {E : cE} {a2 : Int} {I : cI} {R : cR} (hm : cM I R) (ha2 : inR a2) {Q : Int → cI → cR → Prop} (hw : wX10_addWord a2 I R Q) : gM l D E cIds yX10_addWord vX10_addWord (rmK 7 (0) (0)) [.ref (E.1 4), .ref (E.1 1), iV a2] (cef E (I, R)) (cef E) (pI Q) (0) (0) := by
  unfold wX10_addWord at hw
  refine k_ofW (own := RX10) (cc := cX10_addWord) (maxL := 5) (ret := (some .int)) (lv := [(0, .ref (E.1 4)), (1, .ref (E.1 1)), (2, iV a2)]) (by decide) rfl rfl (Nat.le_of_ble_eq_true rfl) rfl ?_
  intro X hl hR hN hD F K
  subst hl; subst hD
  have hret := mk_rI (Q := Q) F K
  refine q_iload_n F 2 dX10_addWord_0 rfl rfl ?_
  refine q_istore_n (lv' := [(0, .ref (E.1 4)), (1, .ref (E.1 1)), (2, iV a2), (3, iV a2)]) F [1, 2, 3, 0] dX10_addWord_1 rfl (q_n hN (by decide)) rfl ?_
  obtain ⟨n1, hw⟩ := hw
  exact bX10_addWord_2 F hR hN hret ha2 n1 a2 I R ha2 hm hw
theorem ydX10_split : yX10_split.cls = RX10 ∧ yX10_split.cls ≠ "java/lang/invoke/MethodHandle" ∧ yX10_split.cls ≠ "java/lang/invoke/VarHandle" ∧ (parseMethodDescriptor yX10_split.desc).map (fun d => d.parameters.length) = some 1 := by decide +kernel
def vX10_split : List Cond := Cond.code yX10_split cX10_split 7 none :: bG
set_option maxHeartbeats 4000000 in
set_option maxRecDepth 100000 in
theorem bX10_split_162 {X : xC} {E : cE} (F : mF X E RX10 cX10_split bG) (hR : X.1.2.2.2 = rmK 8 (0) (0)) (hN : X.2.2.1.2.2.2 = 7) {Q : cI → cR → Prop} (hret : rV X E cX10_split (0) (0) Q)   : ∀ (I : cI) (R : cR), cM I R → wX10_split_162 Q I R → cW X (0) (0) 162 [(0, .ref (E.1 4)), (1, .ref (E.1 1))] [] (gw E.1 cIds (cef E (I, R)) ++ []) := by
  intro I R hm hw
  unfold wX10_split_162 at hw
  refine q_aload_n F 0 dX10_split_162 rfl rfl ?_
  refine q_iconst F dX10_split_163 ?_
  refine q_aload_n F 1 dX10_split_164 rfl rfl ?_
  refine t_g_Tape_length F (by decide) ib9 wd42 dX10_split_165 ?_
  refine q_iconst F dX10_split_168 ?_
  refine q_Vv F (kcX10_add hm (⟨by decide, by decide⟩ : inR (0)) (hm.1 _ _) (⟨by decide, by decide⟩ : inR (-1)) hw) (cIds_in (show ckd 4 = 8 ∧ 4 < 353 by decide).2) (ceTokens (show ckd 4 = 8 ∧ 4 < 353 by decide).1) (ci := 8) rfl (bV wd231 wd232 wd881 wd4 wd233) rfl ⟨rfl, rfl⟩ ydX10_add (rmK_le hR (by omega) (by decide)) (av := [iV 0, iV ((I 1 0)), iV (-1)]) rfl rfl (Nat.le_of_ble_eq_true rfl) dX10_split_169 (rmK_cs hR (by omega) (by omega)) (fun I2 R3 m5 hw => ?_)
  exact hret _ _ _ _ _ dX10_split_172 m5 hw
set_option maxHeartbeats 4000000 in
set_option maxRecDepth 100000 in
theorem bX10_split_149 {X : xC} {E : cE} (F : mF X E RX10 cX10_split bG) (hR : X.1.2.2.2 = rmK 8 (0) (0)) (hN : X.2.2.1.2.2.2 = 7) {Q : cI → cR → Prop} (hret : rV X E cX10_split (0) (0) Q)   {K13 : Int → Int → cI → cR → Prop} (hK13 : ∀ (x2 : Int) (x3 : Int) (I : cI) (R : cR), inR x2 → inR x3 → cM I R → K13 x2 x3 I R → cW X (0) (0) 13 [(0, .ref (E.1 4)), (1, .ref (E.1 1)), (2, iV x2), (3, iV x3)] [] (gw E.1 cIds (cef E (I, R)) ++ [])) : ∀ (x3 : Int) (x6 : Int) (I : cI) (R : cR), inR x3 → inR x6 → cM I R → wX10_split_149 Q K13 x3 x6 I R → cW X (0) (0) 149 [(0, .ref (E.1 4)), (1, .ref (E.1 1)), (3, iV x3), (6, iV x6)] [] (gw E.1 cIds (cef E (I, R)) ++ []) := by
  intro x3 x6 I R hx3 hx6 hm hw
  unfold wX10_split_149 at hw
  refine q_aload_n F 1 dX10_split_149 rfl rfl ?_
  refine q_iload F 3 dX10_split_150 rfl ?_
  refine q_Si F (kcX10_skipBlanks hm hx6 hw) (bS wd215 wd216 wd4 wd217) rfl ⟨rfl, rfl⟩ ydX10_skipBlanks (rmK_le hR (by omega) (by decide)) (av := [.ref (E.1 1), iV x6]) rfl rfl (Nat.le_of_ble_eq_true rfl) dX10_split_152 (rmK_cs hR (by omega) (by omega)) (fun r1 I2 R3 h4 m5 hw => ?_)
  refine q_istore_n (lv' := [(0, .ref (E.1 4)), (1, .ref (E.1 1)), (2, iV r1), (3, iV x3), (6, iV x6)]) F [1, 2, 0, 3, 4] dX10_split_155 rfl (q_n hN (by decide)) rfl ?_
  obtain ⟨k8, hw⟩ := hw
  obtain ⟨z6, e7⟩ := ex1 (x3 + 1)
  have hw := hw z6 e7
  have hz6 : inR z6 := by rw [e7]; exact k8
  refine q_iinc (lv' := [(0, .ref (E.1 4)), (1, .ref (E.1 1)), (2, iV r1), (3, iV z6), (6, iV x6)]) F 3 [1, 2, 3, 0, 4] dX10_split_156 rfl (q_n hN (by decide)) e7.symm rfl ?_
  refine q_goto F 13 dX10_split_159 (by decide) ?_
  refine q_lv [0, 1, 2, 3] rfl ?_
  exact hK13 r1 z6 I2 R3 h4 hz6 m5 hw
set_option maxHeartbeats 4000000 in
set_option maxRecDepth 100000 in
theorem bX10_split_144 {X : xC} {E : cE} (F : mF X E RX10 cX10_split bG) (hR : X.1.2.2.2 = rmK 8 (0) (0)) (hN : X.2.2.1.2.2.2 = 7) {Q : cI → cR → Prop} (hret : rV X E cX10_split (0) (0) Q)   {K13 : Int → Int → cI → cR → Prop} (hK13 : ∀ (x2 : Int) (x3 : Int) (I : cI) (R : cR), inR x2 → inR x3 → cM I R → K13 x2 x3 I R → cW X (0) (0) 13 [(0, .ref (E.1 4)), (1, .ref (E.1 1)), (2, iV x2), (3, iV x3)] [] (gw E.1 cIds (cef E (I, R)) ++ [])) : ∀ (x2 : Int) (x3 : Int) (x6 : Int) (y1 : Int) (I : cI) (R : cR), inR x2 → inR x3 → inR x6 → inR y1 → cM I R → wX10_split_144 Q K13 x2 x3 x6 y1 I R → cW X (0) (0) 144 [(0, .ref (E.1 4)), (1, .ref (E.1 1)), (2, iV x2), (3, iV x3), (6, iV x6)] [iV y1, .ref (E.1 4)] (gw E.1 cIds (cef E (I, R)) ++ []) := by
  intro x2 x3 x6 y1 I R hx2 hx3 hx6 hy1 hm hw
  unfold wX10_split_144 at hw
  refine q_iload_n F 2 dX10_split_144 rfl rfl ?_
  refine q_iconst F dX10_split_145 ?_
  refine q_Vv F (kcX10_add hm hy1 hx2 (⟨by decide, by decide⟩ : inR (-1)) hw) (cIds_in (show ckd 4 = 8 ∧ 4 < 353 by decide).2) (ceTokens (show ckd 4 = 8 ∧ 4 < 353 by decide).1) (ci := 8) rfl (bV wd231 wd232 wd881 wd4 wd233) rfl ⟨rfl, rfl⟩ ydX10_add (rmK_le hR (by omega) (by decide)) (av := [iV y1, iV x2, iV (-1)]) rfl rfl (Nat.le_of_ble_eq_true rfl) dX10_split_146 (rmK_cs hR (by omega) (by omega)) (fun I2 R3 m5 hw => ?_)
  refine q_lv [0, 1, 3, 4] rfl ?_
  exact bX10_split_149 F hR hN hret hK13 x3 x6 I2 R3 hx3 hx6 m5 hw
set_option maxHeartbeats 4000000 in
set_option maxRecDepth 100000 in
theorem bX10_split_112 {X : xC} {E : cE} (F : mF X E RX10 cX10_split bG) (hR : X.1.2.2.2 = rmK 8 (0) (0)) (hN : X.2.2.1.2.2.2 = 7) {Q : cI → cR → Prop} (hret : rV X E cX10_split (0) (0) Q)   {K13 : Int → Int → cI → cR → Prop} (hK13 : ∀ (x2 : Int) (x3 : Int) (I : cI) (R : cR), inR x2 → inR x3 → cM I R → K13 x2 x3 I R → cW X (0) (0) 13 [(0, .ref (E.1 4)), (1, .ref (E.1 1)), (2, iV x2), (3, iV x3)] [] (gw E.1 cIds (cef E (I, R)) ++ [])) : ∀ (x2 : Int) (x3 : Int) (x4 : Int) (x6 : Int) (I : cI) (R : cR), inR x2 → inR x3 → inR x4 → inR x6 → cM I R → wX10_split_112 Q K13 x2 x3 x4 x6 I R → cW X (0) (0) 112 [(0, .ref (E.1 4)), (1, .ref (E.1 1)), (2, iV x2), (3, iV x3), (4, iV x4), (6, iV x6)] [] (gw E.1 cIds (cef E (I, R)) ++ []) := by
  intro x2 x3 x4 x6 I R hx2 hx3 hx4 hx6 hm hw
  unfold wX10_split_112 at hw
  refine q_iload F 4 dX10_split_112 rfl ?_
  refine q_Si F (kcX10_isLetter hm hx4 hw) (bS wd234 wd235 wd4 wd236) rfl ⟨rfl, rfl⟩ ydX10_isLetter (rmK_le hR (by omega) (by decide)) (av := [iV x4]) rfl rfl (Nat.le_of_ble_eq_true rfl) dX10_split_114 (rmK_cs hR (by omega) (by omega)) (fun r1 I2 R3 h4 m5 hw => ?_)
  refine q_if_eq F h4 131 dX10_split_117 (by decide) (fun hc => ?_) (fun hc => ?_)
  · have hw := hw.1 hc
    refine q_aload_n F 0 dX10_split_131 rfl rfl ?_
    refine q_iload F 4 dX10_split_132 rfl ?_
    refine q_bipush F dX10_split_134 (by decide) ?_
    refine q_icmp_ne F hx4 (⟨by decide, by decide⟩ : inR (59)) 143 dX10_split_136 (by decide) (fun hc => ?_) (fun hc => ?_)
    · have hw := hw.1 hc
      refine q_iconst F dX10_split_143 ?_
      refine q_lv [0, 1, 2, 3, 5] rfl ?_
      exact bX10_split_144 F hR hN hret hK13 x2 x3 x6 5 I2 R3 hx2 hx3 hx6 (⟨by decide, by decide⟩ : inR (5)) m5 hw
    · have hw := hw.2 hc
      refine q_iconst F dX10_split_139 ?_
      refine q_goto F 144 dX10_split_140 (by decide) ?_
      refine q_lv [0, 1, 2, 3, 5] rfl ?_
      exact bX10_split_144 F hR hN hret hK13 x2 x3 x6 4 I2 R3 hx2 hx3 hx6 (⟨by decide, by decide⟩ : inR (4)) m5 hw
  · have hw := hw.2 hc
    refine q_aload_n F 0 dX10_split_120 rfl rfl ?_
    refine q_aload_n F 1 dX10_split_121 rfl rfl ?_
    refine q_iload_n F 2 dX10_split_122 rfl rfl ?_
    refine q_Vi F (kcX10_addWord m5 hx2 hw) (cIds_in (show ckd 4 = 8 ∧ 4 < 353 by decide).2) (ceTokens (show ckd 4 = 8 ∧ 4 < 353 by decide).1) (ci := 8) rfl (bV wd237 wd238 wd882 wd4 wd239) rfl ⟨rfl, rfl⟩ ydX10_addWord (rmK_le hR (by omega) (by decide)) (av := [.ref (E.1 1), iV x2]) rfl rfl (Nat.le_of_ble_eq_true rfl) dX10_split_123 (rmK_cs hR (by omega) (by omega)) (fun r6 I7 R8 h9 m10 hw => ?_)
    refine q_istore (lv' := [(0, .ref (E.1 4)), (1, .ref (E.1 1)), (2, iV x2), (3, iV x3), (4, iV x4), (6, iV r6)]) F [1, 2, 3, 4, 5, 0] dX10_split_126 (q_n hN (by decide)) rfl ?_
    refine q_goto F 149 dX10_split_128 (by decide) ?_
    refine q_lv [0, 1, 3, 5] rfl ?_
    exact bX10_split_149 F hR hN hret hK13 x3 r6 I7 R8 hx3 h9 m10 hw
set_option maxHeartbeats 4000000 in
set_option maxRecDepth 100000 in
theorem bX10_split_13 {X : xC} {E : cE} (F : mF X E RX10 cX10_split bG) (hR : X.1.2.2.2 = rmK 8 (0) (0)) (hN : X.2.2.1.2.2.2 = 7) {Q : cI → cR → Prop} (hret : rV X E cX10_split (0) (0) Q)   : ∀ n13 : Nat, ∀ (x2 : Int) (x3 : Int) (I : cI) (R : cR), inR x2 → inR x3 → cM I R → wX10_split_13 Q n13 x2 x3 I R → cW X (0) (0) 13 [(0, .ref (E.1 4)), (1, .ref (E.1 1)), (2, iV x2), (3, iV x3)] [] (gw E.1 cIds (cef E (I, R)) ++ []) := by
  intro n13
  induction n13 with
  | zero => intro x2 x3 I R hx2 hx3 hm hw; exact hw.elim
  | succ n13 ih =>
    intro x2 x3 I R hx2 hx3 hm hw
    change wbX10_split_13 Q (wX10_split_13 Q n13) x2 x3 I R at hw
    unfold wbX10_split_13 at hw
    refine q_iload_n F 3 dX10_split_13 rfl rfl ?_
    refine q_sipush F dX10_split_14 (by decide) ?_
    refine q_icmp_ge F hx3 (⟨by decide, by decide⟩ : inR (1600)) 162 dX10_split_17 (by decide) (fun hc => ?_) (fun hc => ?_)
    · have hw := hw.1 hc
      refine q_lv [0, 1] rfl ?_
      exact bX10_split_162 F hR hN hret I R hm hw
    · have hw := hw.2 hc
      refine q_iload_n F 2 dX10_split_20 rfl rfl ?_
      refine q_aload_n F 1 dX10_split_21 rfl rfl ?_
      refine t_g_Tape_length F (by decide) ib9 wd42 dX10_split_22 ?_
      refine q_icmp_ge F hx2 (hm.1 _ _) 162 dX10_split_25 (by decide) (fun hc => ?_) (fun hc => ?_)
      · have hw := hw.1 hc
        refine q_lv [0, 1] rfl ?_
        exact bX10_split_162 F hR hN hret I R hm hw
      · have hw := hw.2 hc
        refine q_aload_n F 1 dX10_split_28 rfl rfl ?_
        refine q_iload_n F 2 dX10_split_29 rfl rfl ?_
        refine q_Vi F (kcX9_byteOrNone hm hx2 hw) (cIds_in (show ckd 1 = 7 ∧ 1 < 353 by decide).2) (ceTape (show ckd 1 = 7 ∧ 1 < 353 by decide).1) (ci := 7) rfl (bV wd218 wd219 wd220 wd2 wd221) rfl ⟨rfl, rfl⟩ ydX9_byteOrNone (rmK_le hR (by omega) (by decide)) (av := [iV x2]) rfl rfl (Nat.le_of_ble_eq_true rfl) dX10_split_30 (rmK_cs hR (by omega) (by omega)) (fun r1 I2 R3 h4 m5 hw => ?_)
        refine q_istore (lv' := [(0, .ref (E.1 4)), (1, .ref (E.1 1)), (2, iV x2), (3, iV x3), (4, iV r1)]) F [1, 2, 3, 4, 0] dX10_split_33 (q_n hN (by decide)) rfl ?_
        refine q_aload_n F 1 dX10_split_35 rfl rfl ?_
        refine q_iload_n F 2 dX10_split_36 rfl rfl ?_
        refine q_iconst F dX10_split_37 ?_
        refine q_iadd F dX10_split_38 ?_
        obtain ⟨k6, hw⟩ := hw
        refine q_Vi F (kcX9_byteOrNone m5 k6 hw) (cIds_in (show ckd 1 = 7 ∧ 1 < 353 by decide).2) (ceTape (show ckd 1 = 7 ∧ 1 < 353 by decide).1) (ci := 7) rfl (bV wd218 wd219 wd220 wd2 wd221) rfl ⟨rfl, rfl⟩ ydX9_byteOrNone (rmK_le hR (by omega) (by decide)) (av := [iV ((x2 + 1))]) rfl rfl (Nat.le_of_ble_eq_true rfl) dX10_split_39 (rmK_cs hR (by omega) (by omega)) (fun r7 I8 R9 h10 m11 hw => ?_)
        refine q_istore (lv' := [(0, .ref (E.1 4)), (1, .ref (E.1 1)), (2, iV x2), (3, iV x3), (4, iV r1), (5, iV r7)]) F [1, 2, 3, 4, 5, 0] dX10_split_42 (q_n hN (by decide)) rfl ?_
        refine q_iload_n F 2 dX10_split_44 rfl rfl ?_
        refine q_iconst F dX10_split_45 ?_
        refine q_iadd F dX10_split_46 ?_
        obtain ⟨k12, hw⟩ := hw
        obtain ⟨z13, e14⟩ := ex1 ((x2 + 1))
        have hw := hw z13 e14
        have hz13 : inR z13 := by rw [e14]; exact k12
        refine q_top e14 ?_
        refine q_istore (lv' := [(0, .ref (E.1 4)), (1, .ref (E.1 1)), (2, iV x2), (3, iV x3), (4, iV r1), (5, iV r7), (6, iV z13)]) F [1, 2, 3, 4, 5, 6, 0] dX10_split_47 (q_n hN (by decide)) rfl ?_
        refine q_iload F 4 dX10_split_49 rfl ?_
        refine q_Si F (kcX10_isDigit m11 h4 hw) (bS wd225 wd226 wd4 wd227) rfl ⟨rfl, rfl⟩ ydX10_isDigit (rmK_le hR (by omega) (by decide)) (av := [iV r1]) rfl rfl (Nat.le_of_ble_eq_true rfl) dX10_split_51 (rmK_cs hR (by omega) (by omega)) (fun r15 I16 R17 h18 m19 hw => ?_)
        refine q_if_eq F h18 68 dX10_split_54 (by decide) (fun hc => ?_) (fun hc => ?_)
        · have hw := hw.1 hc
          refine q_iload F 4 dX10_split_68 rfl ?_
          refine q_Si F (kcX10_isLetter m19 h4 hw) (bS wd234 wd235 wd4 wd236) rfl ⟨rfl, rfl⟩ ydX10_isLetter (rmK_le hR (by omega) (by decide)) (av := [iV r1]) rfl rfl (Nat.le_of_ble_eq_true rfl) dX10_split_70 (rmK_cs hR (by omega) (by omega)) (fun r20 I21 R22 h23 m24 hw => ?_)
          refine q_if_eq F h23 112 dX10_split_73 (by decide) (fun hc => ?_) (fun hc => ?_)
          · have hw := hw.1 hc
            refine q_lv [0, 1, 2, 3, 4, 6] rfl ?_
            exact bX10_split_112 F hR hN hret ih x2 x3 r1 z13 I21 R22 hx2 hx3 h4 hz13 m24 hw
          · have hw := hw.2 hc
            refine q_iload F 5 dX10_split_76 rfl ?_
            refine q_Si F (kcX10_isDigit m24 h10 hw) (bS wd225 wd226 wd4 wd227) rfl ⟨rfl, rfl⟩ ydX10_isDigit (rmK_le hR (by omega) (by decide)) (av := [iV r7]) rfl rfl (Nat.le_of_ble_eq_true rfl) dX10_split_78 (rmK_cs hR (by omega) (by omega)) (fun r25 I26 R27 h28 m29 hw => ?_)
            refine q_if_eq F h28 112 dX10_split_81 (by decide) (fun hc => ?_) (fun hc => ?_)
            · have hw := hw.1 hc
              refine q_lv [0, 1, 2, 3, 4, 6] rfl ?_
              exact bX10_split_112 F hR hN hret ih x2 x3 r1 z13 I26 R27 hx2 hx3 h4 hz13 m29 hw
            · have hw := hw.2 hc
              refine q_aload_n F 0 dX10_split_84 rfl rfl ?_
              refine q_iconst F dX10_split_85 ?_
              refine q_iload_n F 2 dX10_split_86 rfl rfl ?_
              refine q_bipush F dX10_split_87 (by decide) ?_
              refine q_iload F 4 dX10_split_89 rfl ?_
              refine q_bipush F dX10_split_91 (by decide) ?_
              refine q_isub F dX10_split_93 ?_
              refine q_imul F dX10_split_94 ?_
              refine q_iload F 5 dX10_split_95 rfl ?_
              refine q_iadd F dX10_split_97 ?_
              refine q_bipush F dX10_split_98 (by decide) ?_
              refine q_isub F dX10_split_100 ?_
              obtain ⟨k30, hw⟩ := hw
              refine q_Vv F (kcX10_add m29 (⟨by decide, by decide⟩ : inR (3)) hx2 k30 hw) (cIds_in (show ckd 4 = 8 ∧ 4 < 353 by decide).2) (ceTokens (show ckd 4 = 8 ∧ 4 < 353 by decide).1) (ci := 8) rfl (bV wd231 wd232 wd881 wd4 wd233) rfl ⟨rfl, rfl⟩ ydX10_add (rmK_le hR (by omega) (by decide)) (av := [iV 3, iV x2, iV ((((10 * (r1 - 97)) + r7) - 48))]) rfl rfl (Nat.le_of_ble_eq_true rfl) dX10_split_101 (rmK_cs hR (by omega) (by omega)) (fun I32 R33 m35 hw => ?_)
              refine q_iload_n F 2 dX10_split_104 rfl rfl ?_
              refine q_iconst F dX10_split_105 ?_
              refine q_iadd F dX10_split_106 ?_
              obtain ⟨k36, hw⟩ := hw
              obtain ⟨z37, e38⟩ := ex1 ((x2 + 2))
              have hw := hw z37 e38
              have hz37 : inR z37 := by rw [e38]; exact k36
              refine q_top e38 ?_
              refine q_istore (lv' := [(0, .ref (E.1 4)), (1, .ref (E.1 1)), (2, iV x2), (3, iV x3), (4, iV r1), (5, iV r7), (6, iV z37)]) F [1, 2, 3, 4, 5, 6, 0] dX10_split_107 (q_n hN (by decide)) rfl ?_
              refine q_goto F 149 dX10_split_109 (by decide) ?_
              refine q_lv [0, 1, 3, 6] rfl ?_
              exact bX10_split_149 F hR hN hret ih x3 z37 I32 R33 hx3 hz37 m35 hw
        · have hw := hw.2 hc
          refine q_aload_n F 0 dX10_split_57 rfl rfl ?_
          refine q_aload_n F 1 dX10_split_58 rfl rfl ?_
          refine q_iload_n F 2 dX10_split_59 rfl rfl ?_
          refine q_Vi F (kcX10_addNumber m19 hx2 hw) (cIds_in (show ckd 4 = 8 ∧ 4 < 353 by decide).2) (ceTokens (show ckd 4 = 8 ∧ 4 < 353 by decide).1) (ci := 8) rfl (bV wd228 wd229 wd880 wd4 wd230) rfl ⟨rfl, rfl⟩ ydX10_addNumber (rmK_le hR (by omega) (by decide)) (av := [.ref (E.1 1), iV x2]) rfl rfl (Nat.le_of_ble_eq_true rfl) dX10_split_60 (rmK_cs hR (by omega) (by omega)) (fun r39 I40 R41 h42 m43 hw => ?_)
          refine q_istore (lv' := [(0, .ref (E.1 4)), (1, .ref (E.1 1)), (2, iV x2), (3, iV x3), (4, iV r1), (5, iV r7), (6, iV r39)]) F [1, 2, 3, 4, 5, 6, 0] dX10_split_63 (q_n hN (by decide)) rfl ?_
          refine q_goto F 149 dX10_split_65 (by decide) ?_
          refine q_lv [0, 1, 3, 6] rfl ?_
          exact bX10_split_149 F hR hN hret ih x3 r39 I40 R41 hx3 h42 m43 hw
set_option maxHeartbeats 4000000 in
set_option maxRecDepth 100000 in
theorem kcX10_split {l : Launch} {D : va_G} {E : cE} {I : cI} {R : cR} (hm : cM I R)  {Q : cI → cR → Prop} (hw : wX10_split  I R Q) : gM l D E cIds yX10_split vX10_split (rmK 8 (0) (0)) [.ref (E.1 4), .ref (E.1 1)] (cef E (I, R)) (cef E) (pV Q) (0) (0) := by
  unfold wX10_split at hw
  refine k_ofW (own := RX10) (cc := cX10_split) (maxL := 7) (ret := none) (lv := [(0, .ref (E.1 4)), (1, .ref (E.1 1))]) (by decide) rfl rfl (Nat.le_of_ble_eq_true rfl) rfl ?_
  intro X hl hR hN hD F K
  subst hl; subst hD
  have hret := mk_rV (Q := Q) F K
  refine q_aload_n F 0 dX10_split_0 rfl rfl ?_
  refine q_iconst F dX10_split_1 ?_
  obtain ⟨I1, e2⟩ := ex1 (up2 I 4 0 0)
  have hw := hw I1 e2
  have m3 : cM I1 R := cM_I hm e2 (⟨by decide, by decide⟩ : inR (0))
  refine t_p_Tokens_count F (by decide) ib10 wd57 e2 dX10_split_2 ?_
  refine q_aload_n F 1 dX10_split_5 rfl rfl ?_
  refine q_iconst F dX10_split_6 ?_
  refine q_Si F (kcX10_skipBlanks m3 (⟨by decide, by decide⟩ : inR (0)) hw) (bS wd215 wd216 wd4 wd217) rfl ⟨rfl, rfl⟩ ydX10_skipBlanks (rmK_le hR (by omega) (by decide)) (av := [.ref (E.1 1), iV 0]) rfl rfl (Nat.le_of_ble_eq_true rfl) dX10_split_7 (rmK_cs hR (by omega) (by omega)) (fun r4 I5 R6 h7 m8 hw => ?_)
  refine q_istore_n (lv' := [(0, .ref (E.1 4)), (1, .ref (E.1 1)), (2, iV r4)]) F [1, 2, 0] dX10_split_10 rfl (q_n hN (by decide)) rfl ?_
  refine q_iconst F dX10_split_11 ?_
  refine q_istore_n (lv' := [(0, .ref (E.1 4)), (1, .ref (E.1 1)), (2, iV r4), (3, iV 0)]) F [1, 2, 3, 0] dX10_split_12 rfl (q_n hN (by decide)) rfl ?_
  obtain ⟨n9, hw⟩ := hw
  exact bX10_split_13 F hR hN hret n9 r4 0 I5 R6 h7 (⟨by decide, by decide⟩ : inR (0)) m8 hw
theorem ydX10_numberAt : yX10_numberAt.cls = RX10 ∧ yX10_numberAt.cls ≠ "java/lang/invoke/MethodHandle" ∧ yX10_numberAt.cls ≠ "java/lang/invoke/VarHandle" ∧ (parseMethodDescriptor yX10_numberAt.desc).map (fun d => d.parameters.length) = some 1 := by decide +kernel
def vX10_numberAt : List Cond := Cond.code yX10_numberAt cX10_numberAt 2 (some .int) :: bG
set_option maxHeartbeats 4000000 in
set_option maxRecDepth 100000 in
theorem kcX10_numberAt {l : Launch} {D : va_G} {E : cE} {a1 : Int} {I : cI} {R : cR} (hm : cM I R) (ha1 : inR a1) {Q : Int → cI → cR → Prop} (hw : wX10_numberAt a1 I R Q) : gM l D E cIds yX10_numberAt vX10_numberAt (rmK 1 (0) (0)) [.ref (E.1 4), iV a1] (cef E (I, R)) (cef E) (pI Q) (0) (0) := by
  unfold wX10_numberAt at hw
  refine k_ofW (own := RX10) (cc := cX10_numberAt) (maxL := 2) (ret := (some .int)) (lv := [(0, .ref (E.1 4)), (1, iV a1)]) (by decide) rfl rfl (Nat.le_of_ble_eq_true rfl) rfl ?_
  intro X hl hR hN hD F K
  subst hl; subst hD
  have hret := mk_rI (Q := Q) F K
  refine q_iload_n F 1 dX10_numberAt_0 rfl rfl ?_
  refine q_if_lt F ha1 21 dX10_numberAt_1 (by decide) (fun hc => ?_) (fun hc => ?_)
  · have hw := hw.1 hc
    refine q_iconst F dX10_numberAt_21 ?_
    exact hret _ _ _ _ _ _ dX10_numberAt_22 (⟨by decide, by decide⟩ : inR (-1)) hm hw
  · have hw := hw.2 hc
    refine q_iload_n F 1 dX10_numberAt_4 rfl rfl ?_
    refine q_aload_n F 0 dX10_numberAt_5 rfl rfl ?_
    refine t_g_Tokens_count F (by decide) ib10 wd57 dX10_numberAt_6 ?_
    refine q_icmp_ge F ha1 (hm.1 _ _) 21 dX10_numberAt_9 (by decide) (fun hc => ?_) (fun hc => ?_)
    · have hw := hw.1 hc
      refine q_iconst F dX10_numberAt_21 ?_
      exact hret _ _ _ _ _ _ dX10_numberAt_22 (⟨by decide, by decide⟩ : inR (-1)) hm hw
    · have hw := hw.2 hc
      refine q_aload_n F 0 dX10_numberAt_12 rfl rfl ?_
      refine t_g_Tokens_numbers F (by decide) ib10 wd61 7 rfl dX10_numberAt_13 ?_
      refine q_iload_n F 1 dX10_numberAt_16 rfl rfl ?_
      obtain ⟨k1, hw⟩ := hw
      refine t_ald F 1601 kA_7 k1 (by decide) dX10_numberAt_17 ?_
      refine q_goto F 22 dX10_numberAt_18 (by decide) ?_
      exact hret _ _ _ _ _ _ dX10_numberAt_22 (hm.1 _ _) hm hw
theorem ydX10_typeAt : yX10_typeAt.cls = RX10 ∧ yX10_typeAt.cls ≠ "java/lang/invoke/MethodHandle" ∧ yX10_typeAt.cls ≠ "java/lang/invoke/VarHandle" ∧ (parseMethodDescriptor yX10_typeAt.desc).map (fun d => d.parameters.length) = some 1 := by decide +kernel
def vX10_typeAt : List Cond := Cond.code yX10_typeAt cX10_typeAt 2 (some .int) :: bG
set_option maxHeartbeats 4000000 in
set_option maxRecDepth 100000 in
theorem kcX10_typeAt {l : Launch} {D : va_G} {E : cE} {a1 : Int} {I : cI} {R : cR} (hm : cM I R) (ha1 : inR a1) {Q : Int → cI → cR → Prop} (hw : wX10_typeAt a1 I R Q) : gM l D E cIds yX10_typeAt vX10_typeAt (rmK 1 (0) (0)) [.ref (E.1 4), iV a1] (cef E (I, R)) (cef E) (pI Q) (0) (0) := by
  unfold wX10_typeAt at hw
  refine k_ofW (own := RX10) (cc := cX10_typeAt) (maxL := 2) (ret := (some .int)) (lv := [(0, .ref (E.1 4)), (1, iV a1)]) (by decide) rfl rfl (Nat.le_of_ble_eq_true rfl) rfl ?_
  intro X hl hR hN hD F K
  subst hl; subst hD
  have hret := mk_rI (Q := Q) F K
  refine q_iload_n F 1 dX10_typeAt_0 rfl rfl ?_
  refine q_if_lt F ha1 21 dX10_typeAt_1 (by decide) (fun hc => ?_) (fun hc => ?_)
  · have hw := hw.1 hc
    refine q_iconst F dX10_typeAt_21 ?_
    exact hret _ _ _ _ _ _ dX10_typeAt_22 (⟨by decide, by decide⟩ : inR (0)) hm hw
  · have hw := hw.2 hc
    refine q_iload_n F 1 dX10_typeAt_4 rfl rfl ?_
    refine q_aload_n F 0 dX10_typeAt_5 rfl rfl ?_
    refine t_g_Tokens_count F (by decide) ib10 wd57 dX10_typeAt_6 ?_
    refine q_icmp_ge F ha1 (hm.1 _ _) 21 dX10_typeAt_9 (by decide) (fun hc => ?_) (fun hc => ?_)
    · have hw := hw.1 hc
      refine q_iconst F dX10_typeAt_21 ?_
      exact hret _ _ _ _ _ _ dX10_typeAt_22 (⟨by decide, by decide⟩ : inR (0)) hm hw
    · have hw := hw.2 hc
      refine q_aload_n F 0 dX10_typeAt_12 rfl rfl ?_
      refine t_g_Tokens_types F (by decide) ib10 wd59 5 rfl dX10_typeAt_13 ?_
      refine q_iload_n F 1 dX10_typeAt_16 rfl rfl ?_
      obtain ⟨k1, hw⟩ := hw
      refine t_ald F 1601 kA_5 k1 (by decide) dX10_typeAt_17 ?_
      refine q_goto F 22 dX10_typeAt_18 (by decide) ?_
      exact hret _ _ _ _ _ _ dX10_typeAt_22 (hm.1 _ _) hm hw
theorem ydX5_passes : yX5_passes.cls = RX5 ∧ yX5_passes.cls ≠ "java/lang/invoke/MethodHandle" ∧ yX5_passes.cls ≠ "java/lang/invoke/VarHandle" ∧ (parseMethodDescriptor yX5_passes.desc).map (fun d => d.parameters.length) = some 2 := by decide +kernel
def vX5_passes : List Cond := Cond.code yX5_passes cX5_passes 4 (some .boolean) :: bG
set_option maxHeartbeats 4000000 in
set_option maxRecDepth 100000 in
theorem bX5_passes_2 {X : xC} {E : cE} (F : mF X E RX5 cX5_passes bG) (hR : X.1.2.2.2 = rmK 2 (0) (0)) (hN : X.2.2.1.2.2.2 = 4) {Q : Int → cI → cR → Prop} (hret : rZ X E cX5_passes (0) (0) Q) {a1 : Int} {a2 : Int} (ha1 : inR a1) (ha2 : inR a2) : ∀ n2 : Nat, ∀ (x3 : Int) (I : cI) (R : cR), inR x3 → cM I R → wX5_passes_2 Q a1 a2 n2 x3 I R → cW X (0) (0) 2 [(0, .ref (E.1 3)), (1, iV a1), (2, iV a2), (3, iV x3)] [] (gw E.1 cIds (cef E (I, R)) ++ []) := by
  intro n2
  induction n2 with
  | zero => intro x3 I R hx3 hm hw; exact hw.elim
  | succ n2 ih =>
    intro x3 I R hx3 hm hw
    change wbX5_passes_2 Q a1 a2 (wX5_passes_2 Q a1 a2 n2) x3 I R at hw
    unfold wbX5_passes_2 at hw
    refine q_iload_n F 3 dX5_passes_2 rfl rfl ?_
    refine q_iload_n F 2 dX5_passes_3 rfl rfl ?_
    refine q_icmp_ge F hx3 ha2 40 dX5_passes_4 (by decide) (fun hc => ?_) (fun hc => ?_)
    · have hw := hw.1 hc
      refine q_iconst F dX5_passes_40 ?_
      exact hret _ _ _ _ _ _ dX5_passes_41 (Or.inr rfl) (⟨by decide, by decide⟩ : inR (1)) hm hw
    · have hw := hw.2 hc
      refine q_aload_n F 0 dX5_passes_7 rfl rfl ?_
      refine t_g_Reader_tokens F (by decide) ib5 wd65 4 rfl dX5_passes_8 ?_
      refine q_aload_n F 0 dX5_passes_11 rfl rfl ?_
      refine t_g_Reader_place F (by decide) ib5 wd66 dX5_passes_12 ?_
      refine q_Vi F (kcX10_typeAt hm (hm.1 _ _) hw) (cIds_in (show ckd 4 = 8 ∧ 4 < 353 by decide).2) (ceTokens (show ckd 4 = 8 ∧ 4 < 353 by decide).1) (ci := 8) rfl (bV wd309 wd310 wd311 wd4 wd312) rfl ⟨rfl, rfl⟩ ydX10_typeAt (rmK_le hR (by omega) (by decide)) (av := [iV ((I 3 3))]) rfl rfl (Nat.le_of_ble_eq_true rfl) dX5_passes_15 (rmK_cs hR (by omega) (by omega)) (fun r1 I2 R3 h4 m5 hw => ?_)
      refine q_iload_n F 1 dX5_passes_18 rfl rfl ?_
      refine q_icmp_eq F h4 ha1 24 dX5_passes_19 (by decide) (fun hc => ?_) (fun hc => ?_)
      · have hw := hw.1 hc
        refine q_aload_n F 0 dX5_passes_24 rfl rfl ?_
        refine q_dup F dX5_passes_25 rfl ?_
        refine t_g_Reader_place F (by decide) ib5 wd66 dX5_passes_26 ?_
        refine q_iconst F dX5_passes_29 ?_
        refine q_iadd F dX5_passes_30 ?_
        obtain ⟨k6, hw⟩ := hw
        obtain ⟨I7, e8⟩ := ex1 (up2 I2 3 3 (((I2 3 3) + 1)))
        have hw := hw I7 e8
        have m9 : cM I7 R3 := cM_I m5 e8 k6
        refine t_p_Reader_place F (by decide) ib5 wd66 e8 dX5_passes_31 ?_
        obtain ⟨k12, hw⟩ := hw
        obtain ⟨z10, e11⟩ := ex1 (x3 + 1)
        have hw := hw z10 e11
        have hz10 : inR z10 := by rw [e11]; exact k12
        refine q_iinc (lv' := [(0, .ref (E.1 3)), (1, iV a1), (2, iV a2), (3, iV z10)]) F 3 [1, 2, 3, 0] dX5_passes_34 rfl (q_n hN (by decide)) e11.symm rfl ?_
        refine q_goto F 2 dX5_passes_37 (by decide) ?_
        exact ih z10 I7 R3 hz10 m9 hw
      · have hw := hw.2 hc
        refine q_iconst F dX5_passes_22 ?_
        exact hret _ _ _ _ _ _ dX5_passes_23 (Or.inl rfl) (⟨by decide, by decide⟩ : inR (0)) m5 hw
set_option maxHeartbeats 4000000 in
set_option maxRecDepth 100000 in
theorem kcX5_passes {l : Launch} {D : va_G} {E : cE} {a1 : Int} {a2 : Int} {I : cI} {R : cR} (hm : cM I R) (ha1 : inR a1) (ha2 : inR a2) {Q : Int → cI → cR → Prop} (hw : wX5_passes a1 a2 I R Q) : gM l D E cIds yX5_passes vX5_passes (rmK 2 (0) (0)) [.ref (E.1 3), iV a1, iV a2] (cef E (I, R)) (cef E) (pI Q) (0) (0) := by
  unfold wX5_passes at hw
  refine k_ofW (own := RX5) (cc := cX5_passes) (maxL := 4) (ret := (some .boolean)) (lv := [(0, .ref (E.1 3)), (1, iV a1), (2, iV a2)]) (by decide) rfl rfl (Nat.le_of_ble_eq_true rfl) rfl ?_
  intro X hl hR hN hD F K
  subst hl; subst hD
  have hret := mk_rZ (Q := Q) F K
  refine q_iconst F dX5_passes_0 ?_
  refine q_istore_n (lv' := [(0, .ref (E.1 3)), (1, iV a1), (2, iV a2), (3, iV 0)]) F [1, 2, 3, 0] dX5_passes_1 rfl (q_n hN (by decide)) rfl ?_
  obtain ⟨n1, hw⟩ := hw
  exact bX5_passes_2 F hR hN hret ha1 ha2 n1 0 I R (⟨by decide, by decide⟩ : inR (0)) hm hw
theorem ydX5_passesCells : yX5_passesCells.cls = RX5 ∧ yX5_passesCells.cls ≠ "java/lang/invoke/MethodHandle" ∧ yX5_passesCells.cls ≠ "java/lang/invoke/VarHandle" ∧ (parseMethodDescriptor yX5_passesCells.desc).map (fun d => d.parameters.length) = some 1 := by decide +kernel
def vX5_passesCells : List Cond := Cond.code yX5_passesCells cX5_passesCells 3 (some .boolean) :: bG
set_option maxHeartbeats 4000000 in
set_option maxRecDepth 100000 in
theorem bX5_passesCells_24 {X : xC} {E : cE} (F : mF X E RX5 cX5_passesCells bG) (hR : X.1.2.2.2 = rmK 3 (0) (0)) (hN : X.2.2.1.2.2.2 = 3) {Q : Int → cI → cR → Prop} (hret : rZ X E cX5_passesCells (0) (0) Q) {a1 : Int} (ha1 : inR a1) : ∀ n24 : Nat, ∀ (x2 : Int) (I : cI) (R : cR), inR x2 → cM I R → wX5_passesCells_24 Q a1 n24 x2 I R → cW X (0) (0) 24 [(0, .ref (E.1 3)), (2, iV x2)] [] (gw E.1 cIds (cef E (I, R)) ++ []) := by
  intro n24
  induction n24 with
  | zero => intro x2 I R hx2 hm hw; exact hw.elim
  | succ n24 ih =>
    intro x2 I R hx2 hm hw
    change wbX5_passesCells_24 Q a1 (wX5_passesCells_24 Q a1 n24) x2 I R at hw
    unfold wbX5_passesCells_24 at hw
    refine q_iload_n F 1 dX5_passesCells_24 rfl rfl ?_
    refine q_aload_n F 0 dX5_passesCells_25 rfl rfl ?_
    refine t_g_Reader_tokens F (by decide) ib5 wd65 4 rfl dX5_passesCells_26 ?_
    refine t_g_Tokens_count F (by decide) ib10 wd58 dX5_passesCells_29 ?_
    refine q_icmp_ge F hx2 (hm.1 _ _) 66 dX5_passesCells_32 (by decide) (fun hc => ?_) (fun hc => ?_)
    · have hw := hw.1 hc
      refine q_iconst F dX5_passesCells_66 ?_
      exact hret _ _ _ _ _ _ dX5_passesCells_67 (Or.inr rfl) (⟨by decide, by decide⟩ : inR (1)) hm hw
    · have hw := hw.2 hc
      refine q_aload_n F 0 dX5_passesCells_35 rfl rfl ?_
      refine t_g_Reader_tokens F (by decide) ib5 wd65 4 rfl dX5_passesCells_36 ?_
      refine q_aload_n F 0 dX5_passesCells_39 rfl rfl ?_
      refine t_g_Reader_place F (by decide) ib5 wd66 dX5_passesCells_40 ?_
      refine q_Vi F (kcX10_typeAt hm (hm.1 _ _) hw) (cIds_in (show ckd 4 = 8 ∧ 4 < 353 by decide).2) (ceTokens (show ckd 4 = 8 ∧ 4 < 353 by decide).1) (ci := 8) rfl (bV wd309 wd310 wd311 wd4 wd312) rfl ⟨rfl, rfl⟩ ydX10_typeAt (rmK_le hR (by omega) (by decide)) (av := [iV ((I 3 3))]) rfl rfl (Nat.le_of_ble_eq_true rfl) dX5_passesCells_43 (rmK_cs hR (by omega) (by omega)) (fun r1 I2 R3 h4 m5 hw => ?_)
      refine q_iconst F dX5_passesCells_46 ?_
      refine q_icmp_ne F h4 (⟨by decide, by decide⟩ : inR (3)) 66 dX5_passesCells_47 (by decide) (fun hc => ?_) (fun hc => ?_)
      · have hw := hw.1 hc
        refine q_iconst F dX5_passesCells_66 ?_
        exact hret _ _ _ _ _ _ dX5_passesCells_67 (Or.inr rfl) (⟨by decide, by decide⟩ : inR (1)) m5 hw
      · have hw := hw.2 hc
        refine q_aload_n F 0 dX5_passesCells_50 rfl rfl ?_
        refine q_dup F dX5_passesCells_51 rfl ?_
        refine t_g_Reader_place F (by decide) ib5 wd66 dX5_passesCells_52 ?_
        refine q_iconst F dX5_passesCells_55 ?_
        refine q_iadd F dX5_passesCells_56 ?_
        obtain ⟨k6, hw⟩ := hw
        obtain ⟨I7, e8⟩ := ex1 (up2 I2 3 3 (((I2 3 3) + 1)))
        have hw := hw I7 e8
        have m9 : cM I7 R3 := cM_I m5 e8 k6
        refine t_p_Reader_place F (by decide) ib5 wd66 e8 dX5_passesCells_57 ?_
        obtain ⟨k12, hw⟩ := hw
        obtain ⟨z10, e11⟩ := ex1 (x2 + 1)
        have hw := hw z10 e11
        have hz10 : inR z10 := by rw [e11]; exact k12
        refine q_iinc (lv' := [(0, .ref (E.1 3)), (2, iV z10)]) F 1 [1, 0] dX5_passesCells_60 rfl (q_n hN (by decide)) e11.symm rfl ?_
        refine q_goto F 24 dX5_passesCells_63 (by decide) ?_
        exact ih z10 I7 R3 hz10 m9 hw
set_option maxHeartbeats 4000000 in
set_option maxRecDepth 100000 in
theorem kcX5_passesCells {l : Launch} {D : va_G} {E : cE} {a1 : Int} {I : cI} {R : cR} (hm : cM I R) (ha1 : inR a1) {Q : Int → cI → cR → Prop} (hw : wX5_passesCells a1 I R Q) : gM l D E cIds yX5_passesCells vX5_passesCells (rmK 3 (0) (0)) [.ref (E.1 3), iV a1] (cef E (I, R)) (cef E) (pI Q) (0) (0) := by
  unfold wX5_passesCells at hw
  refine k_ofW (own := RX5) (cc := cX5_passesCells) (maxL := 3) (ret := (some .boolean)) (lv := [(0, .ref (E.1 3)), (1, iV a1)]) (by decide) rfl rfl (Nat.le_of_ble_eq_true rfl) rfl ?_
  intro X hl hR hN hD F K
  subst hl; subst hD
  have hret := mk_rZ (Q := Q) F K
  refine q_iload_n F 1 dX5_passesCells_0 rfl rfl ?_
  refine q_if_le F ha1 11 dX5_passesCells_1 (by decide) (fun hc => ?_) (fun hc => ?_)
  · have hw := hw.1 hc
    refine q_aload_n F 0 dX5_passesCells_11 rfl rfl ?_
    refine q_iconst F dX5_passesCells_12 ?_
    refine q_iconst F dX5_passesCells_13 ?_
    refine q_Vi F (kcX5_passes hm (⟨by decide, by decide⟩ : inR (3)) (⟨by decide, by decide⟩ : inR (1)) hw) (cIds_in (show ckd 3 = 3 ∧ 3 < 353 by decide).2) (ceReader (show ckd 3 = 3 ∧ 3 < 353 by decide).1) (ci := 3) rfl (bV wd306 wd307 wd884 wd3 wd308) rfl ⟨rfl, rfl⟩ ydX5_passes (rmK_le hR (by omega) (by decide)) (av := [iV 3, iV 1]) rfl rfl (Nat.le_of_ble_eq_true rfl) dX5_passesCells_14 (rmK_cs hR (by omega) (by omega)) (fun r1 I2 R3 h4 m5 hw => ?_)
    refine q_if_ne F h4 22 dX5_passesCells_17 (by decide) (fun hc => ?_) (fun hc => ?_)
    · have hw := hw.1 hc
      refine q_iconst F dX5_passesCells_22 ?_
      refine q_istore_n (lv' := [(0, .ref (E.1 3)), (1, iV a1), (2, iV 0)]) F [1, 2, 0] dX5_passesCells_23 rfl (q_n hN (by decide)) rfl ?_
      refine q_lv [0, 2] rfl ?_
      obtain ⟨n6, hw⟩ := hw
      exact bX5_passesCells_24 F hR hN hret ha1 n6 0 I2 R3 (⟨by decide, by decide⟩ : inR (0)) m5 hw
    · have hw := hw.2 hc
      refine q_iconst F dX5_passesCells_20 ?_
      exact hret _ _ _ _ _ _ dX5_passesCells_21 (Or.inl rfl) (⟨by decide, by decide⟩ : inR (0)) m5 hw
  · have hw := hw.2 hc
    refine q_aload_n F 0 dX5_passesCells_4 rfl rfl ?_
    refine q_iconst F dX5_passesCells_5 ?_
    refine q_iload_n F 1 dX5_passesCells_6 rfl rfl ?_
    refine q_Vi F (kcX5_passes hm (⟨by decide, by decide⟩ : inR (3)) ha1 hw) (cIds_in (show ckd 3 = 3 ∧ 3 < 353 by decide).2) (ceReader (show ckd 3 = 3 ∧ 3 < 353 by decide).1) (ci := 3) rfl (bV wd306 wd307 wd884 wd3 wd308) rfl ⟨rfl, rfl⟩ ydX5_passes (rmK_le hR (by omega) (by decide)) (av := [iV 3, iV a1]) rfl rfl (Nat.le_of_ble_eq_true rfl) dX5_passesCells_7 (rmK_cs hR (by omega) (by omega)) (fun r7 I8 R9 h10 m11 hw => ?_)
    obtain ⟨k12, hw⟩ := hw
    exact hret _ _ _ _ _ _ dX5_passesCells_10 k12 h10 m11 hw
