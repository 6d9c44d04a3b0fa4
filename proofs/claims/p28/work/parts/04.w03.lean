/-! ===== walks: X7_breaksSight, X7_hasRemainder, X7_breaksCount, X7_breaksIs, X7_breaksApart, X7_isBroken, X4_countBroken, X11_count, X11_requireRule, X7_cellOrNone, X11_rule, X4_removeRule, X11_drop, X4_isThere, X11_requirePuzzle, X3_add, X3_addWord ===== -/
theorem ydX7_breaksSight : yX7_breaksSight.cls = RX7 ∧ yX7_breaksSight.cls ≠ "java/lang/invoke/MethodHandle" ∧ yX7_breaksSight.cls ≠ "java/lang/invoke/VarHandle" ∧ (parseMethodDescriptor yX7_breaksSight.desc).map (fun d => d.parameters.length) = some 1 := by decide +kernel
def vX7_breaksSight : List Cond := Cond.code yX7_breaksSight cX7_breaksSight 6 (some .boolean) :: bG
set_option maxHeartbeats 4000000 in
set_option maxRecDepth 100000 in
theorem bX7_breaksSight_7 {X : xC} {E : cE} (F : mF X E RX7 cX7_breaksSight bG) (hR : X.1.2.2.2 = rmK 1 (0) (0)) (hN : X.2.2.1.2.2.2 = 6) {Q : Int → cI → cR → Prop} (hret : rZ X E cX7_breaksSight (0) (0) Q) {r0 : Nat} {a1 : Nat} (hr0 : isR r0) (ha1 : isA 25 a1) : ∀ n7 : Nat, ∀ (x2 : Int) (x3 : Int) (x4 : Int) (I : cI) (R : cR), inR x2 → inR x3 → inR x4 → cM I R → wX7_breaksSight_7 Q r0 a1 n7 x2 x3 x4 I R → cW X (0) (0) 7 [(0, .ref (E.1 r0)), (1, .ref (E.1 a1)), (2, iV x2), (3, iV x3), (4, iV x4)] [] (gw E.1 cIds (cef E (I, R)) ++ []) := by
  intro n7
  induction n7 with
  | zero => intro x2 x3 x4 I R hx2 hx3 hx4 hm hw; exact hw.elim
  | succ n7 ih =>
    intro x2 x3 x4 I R hx2 hx3 hx4 hm hw
    change wbX7_breaksSight_7 Q r0 a1 (wX7_breaksSight_7 Q r0 a1 n7) x2 x3 x4 I R at hw
    unfold wbX7_breaksSight_7 at hw
    refine q_iload F 4 dX7_breaksSight_7 rfl ?_
    refine q_aload_n F 0 dX7_breaksSight_9 rfl rfl ?_
    refine t_g_Rule_size F (kR0 hr0) ib7 wd156 dX7_breaksSight_10 ?_
    refine q_icmp_ge F hx4 (hm.1 _ _) 52 dX7_breaksSight_13 (by decide) (fun hc => ?_) (fun hc => ?_)
    · have hw := hw.1 hc
      refine q_iload_n F 2 dX7_breaksSight_52 rfl rfl ?_
      refine q_aload_n F 0 dX7_breaksSight_53 rfl rfl ?_
      refine t_g_Rule_number F (kR0 hr0) ib7 wd147 dX7_breaksSight_54 ?_
      refine q_icmp_eq F hx2 (hm.1 _ _) 64 dX7_breaksSight_57 (by decide) (fun hc => ?_) (fun hc => ?_)
      · have hw := hw.1 hc
        refine q_iconst F dX7_breaksSight_64 ?_
        exact hret _ _ _ _ _ _ dX7_breaksSight_65 (Or.inl rfl) (⟨by decide, by decide⟩ : inR (0)) hm hw
      · have hw := hw.2 hc
        refine q_iconst F dX7_breaksSight_60 ?_
        refine q_goto F 65 dX7_breaksSight_61 (by decide) ?_
        exact hret _ _ _ _ _ _ dX7_breaksSight_65 (Or.inr rfl) (⟨by decide, by decide⟩ : inR (1)) hm hw
    · have hw := hw.2 hc
      refine q_aload_n F 1 dX7_breaksSight_16 rfl rfl ?_
      refine q_aload_n F 0 dX7_breaksSight_17 rfl rfl ?_
      refine t_g_Rule_cells F (kR0 hr0) ib7 wd161 (r0 + 130) rfl dX7_breaksSight_18 ?_
      refine q_iload F 4 dX7_breaksSight_21 rfl ?_
      obtain ⟨k1, hw⟩ := hw
      refine t_ald F 5 (kR4 hr0) k1 (by decide) dX7_breaksSight_23 ?_
      obtain ⟨k2, hw⟩ := hw
      refine t_ald F 25 ha1 k2 (by decide) dX7_breaksSight_24 ?_
      obtain ⟨z3, e4⟩ := ex1 ((I a1 ((I (r0 + 130) x4))))
      have hw := hw z3 e4
      have hz3 : inR z3 := by rw [e4]; exact (hm.1 _ _)
      refine q_top e4 ?_
      refine q_istore (lv' := [(0, .ref (E.1 r0)), (1, .ref (E.1 a1)), (2, iV x2), (3, iV x3), (4, iV x4), (5, iV z3)]) F [1, 2, 3, 4, 5, 0] dX7_breaksSight_25 (q_n hN (by decide)) rfl ?_
      refine q_iload F 5 dX7_breaksSight_27 rfl ?_
      refine q_if_ne F hz3 34 dX7_breaksSight_29 (by decide) (fun hc => ?_) (fun hc => ?_)
      · have hw := hw.1 hc
        refine q_iload F 5 dX7_breaksSight_34 rfl ?_
        refine q_iload_n F 3 dX7_breaksSight_36 rfl rfl ?_
        refine q_icmp_le F hz3 hx3 46 dX7_breaksSight_37 (by decide) (fun hc => ?_) (fun hc => ?_)
        · have hw := hw.1 hc
          obtain ⟨k7, hw⟩ := hw
          obtain ⟨z5, e6⟩ := ex1 (x4 + 1)
          have hw := hw z5 e6
          have hz5 : inR z5 := by rw [e6]; exact k7
          refine q_iinc (lv' := [(0, .ref (E.1 r0)), (1, .ref (E.1 a1)), (2, iV x2), (3, iV x3), (4, iV z5), (5, iV z3)]) F 4 [1, 2, 3, 4, 0, 5] dX7_breaksSight_46 rfl (q_n hN (by decide)) e6.symm rfl ?_
          refine q_goto F 7 dX7_breaksSight_49 (by decide) ?_
          refine q_lv [0, 1, 2, 3, 4] rfl ?_
          exact ih x2 x3 z5 I R hx2 hx3 hz5 hm hw
        · have hw := hw.2 hc
          refine q_iload F 5 dX7_breaksSight_40 rfl ?_
          refine q_istore_n (lv' := [(0, .ref (E.1 r0)), (1, .ref (E.1 a1)), (2, iV x2), (3, iV z3), (4, iV x4), (5, iV z3)]) F [1, 2, 3, 0, 4, 5] dX7_breaksSight_42 rfl (q_n hN (by decide)) rfl ?_
          obtain ⟨k10, hw⟩ := hw
          obtain ⟨z8, e9⟩ := ex1 (x2 + 1)
          have hw := hw z8 e9
          have hz8 : inR z8 := by rw [e9]; exact k10
          refine q_iinc (lv' := [(0, .ref (E.1 r0)), (1, .ref (E.1 a1)), (2, iV z8), (3, iV z3), (4, iV x4), (5, iV z3)]) F 2 [1, 2, 0, 3, 4, 5] dX7_breaksSight_43 rfl (q_n hN (by decide)) e9.symm rfl ?_
          obtain ⟨k13, hw⟩ := hw
          obtain ⟨z11, e12⟩ := ex1 (x4 + 1)
          have hw := hw z11 e12
          have hz11 : inR z11 := by rw [e12]; exact k13
          refine q_iinc (lv' := [(0, .ref (E.1 r0)), (1, .ref (E.1 a1)), (2, iV z8), (3, iV z3), (4, iV z11), (5, iV z3)]) F 4 [1, 2, 3, 4, 0, 5] dX7_breaksSight_46 rfl (q_n hN (by decide)) e12.symm rfl ?_
          refine q_goto F 7 dX7_breaksSight_49 (by decide) ?_
          refine q_lv [0, 1, 2, 3, 4] rfl ?_
          exact ih z8 z3 z11 I R hz8 hz3 hz11 hm hw
      · have hw := hw.2 hc
        refine q_iconst F dX7_breaksSight_32 ?_
        exact hret _ _ _ _ _ _ dX7_breaksSight_33 (Or.inl rfl) (⟨by decide, by decide⟩ : inR (0)) hm hw
set_option maxHeartbeats 4000000 in
set_option maxRecDepth 100000 in
theorem kcX7_breaksSight {l : Launch} {D : va_G} {E : cE} {r0 : Nat} {a1 : Nat} {I : cI} {R : cR} (hm : cM I R) (hr0 : isR r0) (ha1 : isA 25 a1) {Q : Int → cI → cR → Prop} (hw : wX7_breaksSight r0 a1 I R Q) : gM l D E cIds yX7_breaksSight vX7_breaksSight (rmK 1 (0) (0)) [.ref (E.1 r0), .ref (E.1 a1)] (cef E (I, R)) (cef E) (pI Q) (0) (0) := by
  unfold wX7_breaksSight at hw
  refine k_ofW (own := RX7) (cc := cX7_breaksSight) (maxL := 6) (ret := (some .boolean)) (lv := [(0, .ref (E.1 r0)), (1, .ref (E.1 a1))]) (by decide) rfl rfl (Nat.le_of_ble_eq_true rfl) rfl ?_
  intro X hl hR hN hD F K
  subst hl; subst hD
  have hret := mk_rZ (Q := Q) F K
  refine q_iconst F dX7_breaksSight_0 ?_
  refine q_istore_n (lv' := [(0, .ref (E.1 r0)), (1, .ref (E.1 a1)), (2, iV 0)]) F [1, 2, 0] dX7_breaksSight_1 rfl (q_n hN (by decide)) rfl ?_
  refine q_iconst F dX7_breaksSight_2 ?_
  refine q_istore_n (lv' := [(0, .ref (E.1 r0)), (1, .ref (E.1 a1)), (2, iV 0), (3, iV 0)]) F [1, 2, 3, 0] dX7_breaksSight_3 rfl (q_n hN (by decide)) rfl ?_
  refine q_iconst F dX7_breaksSight_4 ?_
  refine q_istore (lv' := [(0, .ref (E.1 r0)), (1, .ref (E.1 a1)), (2, iV 0), (3, iV 0), (4, iV 0)]) F [1, 2, 3, 4, 0] dX7_breaksSight_5 (q_n hN (by decide)) rfl ?_
  obtain ⟨n1, hw⟩ := hw
  exact bX7_breaksSight_7 F hR hN hret hr0 ha1 n1 0 0 0 I R (⟨by decide, by decide⟩ : inR (0)) (⟨by decide, by decide⟩ : inR (0)) (⟨by decide, by decide⟩ : inR (0)) hm hw
theorem ydX7_hasRemainder : yX7_hasRemainder.cls = RX7 ∧ yX7_hasRemainder.cls ≠ "java/lang/invoke/MethodHandle" ∧ yX7_hasRemainder.cls ≠ "java/lang/invoke/VarHandle" ∧ (parseMethodDescriptor yX7_hasRemainder.desc).map (fun d => d.parameters.length) = some 2 := by decide +kernel
def vX7_hasRemainder : List Cond := Cond.code yX7_hasRemainder cX7_hasRemainder 5 (some .boolean) :: bG
set_option maxHeartbeats 4000000 in
set_option maxRecDepth 100000 in
theorem bX7_hasRemainder_2 {X : xC} {E : cE} (F : mF X E RX7 cX7_hasRemainder bG) (hR : X.1.2.2.2 = rmK 1 (0) (0)) (hN : X.2.2.1.2.2.2 = 5) {Q : Int → cI → cR → Prop} (hret : rZ X E cX7_hasRemainder (0) (0) Q) {r0 : Nat} {a1 : Nat} {a2 : Int} (hr0 : isR r0) (ha1 : isA 25 a1) (ha2 : inR a2) : ∀ n2 : Nat, ∀ (x3 : Int) (I : cI) (R : cR), inR x3 → cM I R → wX7_hasRemainder_2 Q r0 a1 a2 n2 x3 I R → cW X (0) (0) 2 [(0, .ref (E.1 r0)), (1, .ref (E.1 a1)), (2, iV a2), (3, iV x3)] [] (gw E.1 cIds (cef E (I, R)) ++ []) := by
  intro n2
  induction n2 with
  | zero => intro x3 I R hx3 hm hw; exact hw.elim
  | succ n2 ih =>
    intro x3 I R hx3 hm hw
    change wbX7_hasRemainder_2 Q r0 a1 a2 (wX7_hasRemainder_2 Q r0 a1 a2 n2) x3 I R at hw
    unfold wbX7_hasRemainder_2 at hw
    refine q_iload_n F 3 dX7_hasRemainder_2 rfl rfl ?_
    refine q_aload_n F 0 dX7_hasRemainder_3 rfl rfl ?_
    refine t_g_Rule_size F (kR0 hr0) ib7 wd156 dX7_hasRemainder_4 ?_
    refine q_icmp_ge F hx3 (hm.1 _ _) 41 dX7_hasRemainder_7 (by decide) (fun hc => ?_) (fun hc => ?_)
    · have hw := hw.1 hc
      refine q_iconst F dX7_hasRemainder_41 ?_
      exact hret _ _ _ _ _ _ dX7_hasRemainder_42 (Or.inl rfl) (⟨by decide, by decide⟩ : inR (0)) hm hw
    · have hw := hw.2 hc
      refine q_aload_n F 1 dX7_hasRemainder_10 rfl rfl ?_
      refine q_aload_n F 0 dX7_hasRemainder_11 rfl rfl ?_
      refine t_g_Rule_cells F (kR0 hr0) ib7 wd161 (r0 + 130) rfl dX7_hasRemainder_12 ?_
      refine q_iload_n F 3 dX7_hasRemainder_15 rfl rfl ?_
      obtain ⟨k1, hw⟩ := hw
      refine t_ald F 5 (kR4 hr0) k1 (by decide) dX7_hasRemainder_16 ?_
      obtain ⟨k2, hw⟩ := hw
      refine t_ald F 25 ha1 k2 (by decide) dX7_hasRemainder_17 ?_
      obtain ⟨z3, e4⟩ := ex1 ((I a1 ((I (r0 + 130) x3))))
      have hw := hw z3 e4
      have hz3 : inR z3 := by rw [e4]; exact (hm.1 _ _)
      refine q_top e4 ?_
      refine q_istore (lv' := [(0, .ref (E.1 r0)), (1, .ref (E.1 a1)), (2, iV a2), (3, iV x3), (4, iV z3)]) F [1, 2, 3, 4, 0] dX7_hasRemainder_18 (q_n hN (by decide)) rfl ?_
      refine q_iload F 4 dX7_hasRemainder_20 rfl ?_
      refine q_if_eq F hz3 35 dX7_hasRemainder_22 (by decide) (fun hc => ?_) (fun hc => ?_)
      · have hw := hw.1 hc
        obtain ⟨k7, hw⟩ := hw
        obtain ⟨z5, e6⟩ := ex1 (x3 + 1)
        have hw := hw z5 e6
        have hz5 : inR z5 := by rw [e6]; exact k7
        refine q_iinc (lv' := [(0, .ref (E.1 r0)), (1, .ref (E.1 a1)), (2, iV a2), (3, iV z5), (4, iV z3)]) F 3 [1, 2, 3, 0, 4] dX7_hasRemainder_35 rfl (q_n hN (by decide)) e6.symm rfl ?_
        refine q_goto F 2 dX7_hasRemainder_38 (by decide) ?_
        refine q_lv [0, 1, 2, 3] rfl ?_
        exact ih z5 I R hz5 hm hw
      · have hw := hw.2 hc
        refine q_iload F 4 dX7_hasRemainder_25 rfl ?_
        refine q_iconst F dX7_hasRemainder_27 ?_
        refine q_iand F dX7_hasRemainder_28 ?_
        refine q_iload_n F 2 dX7_hasRemainder_29 rfl rfl ?_
        refine q_icmp_ne F (ti_rng _) ha2 35 dX7_hasRemainder_30 (by decide) (fun hc => ?_) (fun hc => ?_)
        · have hw := hw.1 hc
          obtain ⟨k10, hw⟩ := hw
          obtain ⟨z8, e9⟩ := ex1 (x3 + 1)
          have hw := hw z8 e9
          have hz8 : inR z8 := by rw [e9]; exact k10
          refine q_iinc (lv' := [(0, .ref (E.1 r0)), (1, .ref (E.1 a1)), (2, iV a2), (3, iV z8), (4, iV z3)]) F 3 [1, 2, 3, 0, 4] dX7_hasRemainder_35 rfl (q_n hN (by decide)) e9.symm rfl ?_
          refine q_goto F 2 dX7_hasRemainder_38 (by decide) ?_
          refine q_lv [0, 1, 2, 3] rfl ?_
          exact ih z8 I R hz8 hm hw
        · have hw := hw.2 hc
          refine q_iconst F dX7_hasRemainder_33 ?_
          exact hret _ _ _ _ _ _ dX7_hasRemainder_34 (Or.inr rfl) (⟨by decide, by decide⟩ : inR (1)) hm hw
set_option maxHeartbeats 4000000 in
set_option maxRecDepth 100000 in
theorem kcX7_hasRemainder {l : Launch} {D : va_G} {E : cE} {r0 : Nat} {a1 : Nat} {a2 : Int} {I : cI} {R : cR} (hm : cM I R) (hr0 : isR r0) (ha1 : isA 25 a1) (ha2 : inR a2) {Q : Int → cI → cR → Prop} (hw : wX7_hasRemainder r0 a1 a2 I R Q) : gM l D E cIds yX7_hasRemainder vX7_hasRemainder (rmK 1 (0) (0)) [.ref (E.1 r0), .ref (E.1 a1), iV a2] (cef E (I, R)) (cef E) (pI Q) (0) (0) := by
  unfold wX7_hasRemainder at hw
  refine k_ofW (own := RX7) (cc := cX7_hasRemainder) (maxL := 5) (ret := (some .boolean)) (lv := [(0, .ref (E.1 r0)), (1, .ref (E.1 a1)), (2, iV a2)]) (by decide) rfl rfl (Nat.le_of_ble_eq_true rfl) rfl ?_
  intro X hl hR hN hD F K
  subst hl; subst hD
  have hret := mk_rZ (Q := Q) F K
  refine q_iconst F dX7_hasRemainder_0 ?_
  refine q_istore_n (lv' := [(0, .ref (E.1 r0)), (1, .ref (E.1 a1)), (2, iV a2), (3, iV 0)]) F [1, 2, 3, 0] dX7_hasRemainder_1 rfl (q_n hN (by decide)) rfl ?_
  obtain ⟨n1, hw⟩ := hw
  exact bX7_hasRemainder_2 F hR hN hret hr0 ha1 ha2 n1 0 I R (⟨by decide, by decide⟩ : inR (0)) hm hw
theorem ydX7_breaksCount : yX7_breaksCount.cls = RX7 ∧ yX7_breaksCount.cls ≠ "java/lang/invoke/MethodHandle" ∧ yX7_breaksCount.cls ≠ "java/lang/invoke/VarHandle" ∧ (parseMethodDescriptor yX7_breaksCount.desc).map (fun d => d.parameters.length) = some 1 := by decide +kernel
def vX7_breaksCount : List Cond := Cond.code yX7_breaksCount cX7_breaksCount 6 (some .boolean) :: bG
set_option maxHeartbeats 4000000 in
set_option maxRecDepth 100000 in
theorem bX7_breaksCount_7 {X : xC} {E : cE} (F : mF X E RX7 cX7_breaksCount bG) (hR : X.1.2.2.2 = rmK 1 (0) (0)) (hN : X.2.2.1.2.2.2 = 6) {Q : Int → cI → cR → Prop} (hret : rZ X E cX7_breaksCount (0) (0) Q) {r0 : Nat} {a1 : Nat} (hr0 : isR r0) (ha1 : isA 25 a1) : ∀ n7 : Nat, ∀ (x2 : Int) (x3 : Int) (x4 : Int) (I : cI) (R : cR), inR x2 → inR x3 → inR x4 → cM I R → wX7_breaksCount_7 Q r0 a1 n7 x2 x3 x4 I R → cW X (0) (0) 7 [(0, .ref (E.1 r0)), (1, .ref (E.1 a1)), (2, iV x2), (3, iV x3), (4, iV x4)] [] (gw E.1 cIds (cef E (I, R)) ++ []) := by
  intro n7
  induction n7 with
  | zero => intro x2 x3 x4 I R hx2 hx3 hx4 hm hw; exact hw.elim
  | succ n7 ih =>
    intro x2 x3 x4 I R hx2 hx3 hx4 hm hw
    change wbX7_breaksCount_7 Q r0 a1 (wX7_breaksCount_7 Q r0 a1 n7) x2 x3 x4 I R at hw
    unfold wbX7_breaksCount_7 at hw
    refine q_iload F 4 dX7_breaksCount_7 rfl ?_
    refine q_aload_n F 0 dX7_breaksCount_9 rfl rfl ?_
    refine t_g_Rule_size F (kR0 hr0) ib7 wd156 dX7_breaksCount_10 ?_
    refine q_icmp_ge F hx4 (hm.1 _ _) 56 dX7_breaksCount_13 (by decide) (fun hc => ?_) (fun hc => ?_)
    · have hw := hw.1 hc
      refine q_iload_n F 2 dX7_breaksCount_56 rfl rfl ?_
      refine q_aload_n F 0 dX7_breaksCount_57 rfl rfl ?_
      refine t_g_Rule_times F (kR0 hr0) ib7 wd152 dX7_breaksCount_58 ?_
      refine q_icmp_gt F hx2 (hm.1 _ _) 74 dX7_breaksCount_61 (by decide) (fun hc => ?_) (fun hc => ?_)
      · have hw := hw.1 hc
        refine q_iconst F dX7_breaksCount_74 ?_
        refine q_goto F 79 dX7_breaksCount_75 (by decide) ?_
        exact hret _ _ _ _ _ _ dX7_breaksCount_79 (Or.inr rfl) (⟨by decide, by decide⟩ : inR (1)) hm hw
      · have hw := hw.2 hc
        refine q_iload_n F 2 dX7_breaksCount_64 rfl rfl ?_
        refine q_iload_n F 3 dX7_breaksCount_65 rfl rfl ?_
        refine q_iadd F dX7_breaksCount_66 ?_
        refine q_aload_n F 0 dX7_breaksCount_67 rfl rfl ?_
        refine t_g_Rule_times F (kR0 hr0) ib7 wd152 dX7_breaksCount_68 ?_
        obtain ⟨k1, hw⟩ := hw
        refine q_icmp_ge F k1 (hm.1 _ _) 78 dX7_breaksCount_71 (by decide) (fun hc => ?_) (fun hc => ?_)
        · have hw := hw.1 hc
          refine q_iconst F dX7_breaksCount_78 ?_
          exact hret _ _ _ _ _ _ dX7_breaksCount_79 (Or.inl rfl) (⟨by decide, by decide⟩ : inR (0)) hm hw
        · have hw := hw.2 hc
          refine q_iconst F dX7_breaksCount_74 ?_
          refine q_goto F 79 dX7_breaksCount_75 (by decide) ?_
          exact hret _ _ _ _ _ _ dX7_breaksCount_79 (Or.inr rfl) (⟨by decide, by decide⟩ : inR (1)) hm hw
    · have hw := hw.2 hc
      refine q_aload_n F 1 dX7_breaksCount_16 rfl rfl ?_
      refine q_aload_n F 0 dX7_breaksCount_17 rfl rfl ?_
      refine t_g_Rule_cells F (kR0 hr0) ib7 wd161 (r0 + 130) rfl dX7_breaksCount_18 ?_
      refine q_iload F 4 dX7_breaksCount_21 rfl ?_
      obtain ⟨k2, hw⟩ := hw
      refine t_ald F 5 (kR4 hr0) k2 (by decide) dX7_breaksCount_23 ?_
      obtain ⟨k3, hw⟩ := hw
      refine t_ald F 25 ha1 k3 (by decide) dX7_breaksCount_24 ?_
      obtain ⟨z4, e5⟩ := ex1 ((I a1 ((I (r0 + 130) x4))))
      have hw := hw z4 e5
      have hz4 : inR z4 := by rw [e5]; exact (hm.1 _ _)
      refine q_top e5 ?_
      refine q_istore (lv' := [(0, .ref (E.1 r0)), (1, .ref (E.1 a1)), (2, iV x2), (3, iV x3), (4, iV x4), (5, iV z4)]) F [1, 2, 3, 4, 5, 0] dX7_breaksCount_25 (q_n hN (by decide)) rfl ?_
      refine q_iload F 5 dX7_breaksCount_27 rfl ?_
      refine q_aload_n F 0 dX7_breaksCount_29 rfl rfl ?_
      refine t_g_Rule_number F (kR0 hr0) ib7 wd147 dX7_breaksCount_30 ?_
      refine q_icmp_ne F hz4 (hm.1 _ _) 42 dX7_breaksCount_33 (by decide) (fun hc => ?_) (fun hc => ?_)
      · have hw := hw.1 hc
        refine q_iload F 5 dX7_breaksCount_42 rfl ?_
        refine q_if_ne F hz4 50 dX7_breaksCount_44 (by decide) (fun hc => ?_) (fun hc => ?_)
        · have hw := hw.1 hc
          obtain ⟨k8, hw⟩ := hw
          obtain ⟨z6, e7⟩ := ex1 (x4 + 1)
          have hw := hw z6 e7
          have hz6 : inR z6 := by rw [e7]; exact k8
          refine q_iinc (lv' := [(0, .ref (E.1 r0)), (1, .ref (E.1 a1)), (2, iV x2), (3, iV x3), (4, iV z6), (5, iV z4)]) F 4 [1, 2, 3, 4, 0, 5] dX7_breaksCount_50 rfl (q_n hN (by decide)) e7.symm rfl ?_
          refine q_goto F 7 dX7_breaksCount_53 (by decide) ?_
          refine q_lv [0, 1, 2, 3, 4] rfl ?_
          exact ih x2 x3 z6 I R hx2 hx3 hz6 hm hw
        · have hw := hw.2 hc
          obtain ⟨k11, hw⟩ := hw
          obtain ⟨z9, e10⟩ := ex1 (x3 + 1)
          have hw := hw z9 e10
          have hz9 : inR z9 := by rw [e10]; exact k11
          refine q_iinc (lv' := [(0, .ref (E.1 r0)), (1, .ref (E.1 a1)), (2, iV x2), (3, iV z9), (4, iV x4), (5, iV z4)]) F 3 [1, 2, 3, 0, 4, 5] dX7_breaksCount_47 rfl (q_n hN (by decide)) e10.symm rfl ?_
          obtain ⟨k14, hw⟩ := hw
          obtain ⟨z12, e13⟩ := ex1 (x4 + 1)
          have hw := hw z12 e13
          have hz12 : inR z12 := by rw [e13]; exact k14
          refine q_iinc (lv' := [(0, .ref (E.1 r0)), (1, .ref (E.1 a1)), (2, iV x2), (3, iV z9), (4, iV z12), (5, iV z4)]) F 4 [1, 2, 3, 4, 0, 5] dX7_breaksCount_50 rfl (q_n hN (by decide)) e13.symm rfl ?_
          refine q_goto F 7 dX7_breaksCount_53 (by decide) ?_
          refine q_lv [0, 1, 2, 3, 4] rfl ?_
          exact ih x2 z9 z12 I R hx2 hz9 hz12 hm hw
      · have hw := hw.2 hc
        obtain ⟨k17, hw⟩ := hw
        obtain ⟨z15, e16⟩ := ex1 (x2 + 1)
        have hw := hw z15 e16
        have hz15 : inR z15 := by rw [e16]; exact k17
        refine q_iinc (lv' := [(0, .ref (E.1 r0)), (1, .ref (E.1 a1)), (2, iV z15), (3, iV x3), (4, iV x4), (5, iV z4)]) F 2 [1, 2, 0, 3, 4, 5] dX7_breaksCount_36 rfl (q_n hN (by decide)) e16.symm rfl ?_
        refine q_goto F 50 dX7_breaksCount_39 (by decide) ?_
        obtain ⟨k20, hw⟩ := hw
        obtain ⟨z18, e19⟩ := ex1 (x4 + 1)
        have hw := hw z18 e19
        have hz18 : inR z18 := by rw [e19]; exact k20
        refine q_iinc (lv' := [(0, .ref (E.1 r0)), (1, .ref (E.1 a1)), (2, iV z15), (3, iV x3), (4, iV z18), (5, iV z4)]) F 4 [1, 2, 3, 4, 0, 5] dX7_breaksCount_50 rfl (q_n hN (by decide)) e19.symm rfl ?_
        refine q_goto F 7 dX7_breaksCount_53 (by decide) ?_
        refine q_lv [0, 1, 2, 3, 4] rfl ?_
        exact ih z15 x3 z18 I R hz15 hx3 hz18 hm hw
set_option maxHeartbeats 4000000 in
set_option maxRecDepth 100000 in
theorem kcX7_breaksCount {l : Launch} {D : va_G} {E : cE} {r0 : Nat} {a1 : Nat} {I : cI} {R : cR} (hm : cM I R) (hr0 : isR r0) (ha1 : isA 25 a1) {Q : Int → cI → cR → Prop} (hw : wX7_breaksCount r0 a1 I R Q) : gM l D E cIds yX7_breaksCount vX7_breaksCount (rmK 1 (0) (0)) [.ref (E.1 r0), .ref (E.1 a1)] (cef E (I, R)) (cef E) (pI Q) (0) (0) := by
  unfold wX7_breaksCount at hw
  refine k_ofW (own := RX7) (cc := cX7_breaksCount) (maxL := 6) (ret := (some .boolean)) (lv := [(0, .ref (E.1 r0)), (1, .ref (E.1 a1))]) (by decide) rfl rfl (Nat.le_of_ble_eq_true rfl) rfl ?_
  intro X hl hR hN hD F K
  subst hl; subst hD
  have hret := mk_rZ (Q := Q) F K
  refine q_iconst F dX7_breaksCount_0 ?_
  refine q_istore_n (lv' := [(0, .ref (E.1 r0)), (1, .ref (E.1 a1)), (2, iV 0)]) F [1, 2, 0] dX7_breaksCount_1 rfl (q_n hN (by decide)) rfl ?_
  refine q_iconst F dX7_breaksCount_2 ?_
  refine q_istore_n (lv' := [(0, .ref (E.1 r0)), (1, .ref (E.1 a1)), (2, iV 0), (3, iV 0)]) F [1, 2, 3, 0] dX7_breaksCount_3 rfl (q_n hN (by decide)) rfl ?_
  refine q_iconst F dX7_breaksCount_4 ?_
  refine q_istore (lv' := [(0, .ref (E.1 r0)), (1, .ref (E.1 a1)), (2, iV 0), (3, iV 0), (4, iV 0)]) F [1, 2, 3, 4, 0] dX7_breaksCount_5 (q_n hN (by decide)) rfl ?_
  obtain ⟨n1, hw⟩ := hw
  exact bX7_breaksCount_7 F hR hN hret hr0 ha1 n1 0 0 0 I R (⟨by decide, by decide⟩ : inR (0)) (⟨by decide, by decide⟩ : inR (0)) (⟨by decide, by decide⟩ : inR (0)) hm hw
theorem ydX7_breaksIs : yX7_breaksIs.cls = RX7 ∧ yX7_breaksIs.cls ≠ "java/lang/invoke/MethodHandle" ∧ yX7_breaksIs.cls ≠ "java/lang/invoke/VarHandle" ∧ (parseMethodDescriptor yX7_breaksIs.desc).map (fun d => d.parameters.length) = some 1 := by decide +kernel
def vX7_breaksIs : List Cond := Cond.code yX7_breaksIs cX7_breaksIs 4 (some .boolean) :: bG
set_option maxHeartbeats 4000000 in
set_option maxRecDepth 100000 in
theorem bX7_breaksIs_2 {X : xC} {E : cE} (F : mF X E RX7 cX7_breaksIs bG) (hR : X.1.2.2.2 = rmK 1 (0) (0)) (hN : X.2.2.1.2.2.2 = 4) {Q : Int → cI → cR → Prop} (hret : rZ X E cX7_breaksIs (0) (0) Q) {r0 : Nat} {a1 : Nat} (hr0 : isR r0) (ha1 : isA 25 a1) : ∀ n2 : Nat, ∀ (x2 : Int) (I : cI) (R : cR), inR x2 → cM I R → wX7_breaksIs_2 Q r0 a1 n2 x2 I R → cW X (0) (0) 2 [(0, .ref (E.1 r0)), (1, .ref (E.1 a1)), (2, iV x2)] [] (gw E.1 cIds (cef E (I, R)) ++ []) := by
  intro n2
  induction n2 with
  | zero => intro x2 I R hx2 hm hw; exact hw.elim
  | succ n2 ih =>
    intro x2 I R hx2 hm hw
    change wbX7_breaksIs_2 Q r0 a1 (wX7_breaksIs_2 Q r0 a1 n2) x2 I R at hw
    unfold wbX7_breaksIs_2 at hw
    refine q_iload_n F 2 dX7_breaksIs_2 rfl rfl ?_
    refine q_aload_n F 0 dX7_breaksIs_3 rfl rfl ?_
    refine t_g_Rule_size F (kR0 hr0) ib7 wd156 dX7_breaksIs_4 ?_
    refine q_icmp_ge F hx2 (hm.1 _ _) 39 dX7_breaksIs_7 (by decide) (fun hc => ?_) (fun hc => ?_)
    · have hw := hw.1 hc
      refine q_iconst F dX7_breaksIs_39 ?_
      exact hret _ _ _ _ _ _ dX7_breaksIs_40 (Or.inl rfl) (⟨by decide, by decide⟩ : inR (0)) hm hw
    · have hw := hw.2 hc
      refine q_aload_n F 1 dX7_breaksIs_10 rfl rfl ?_
      refine q_aload_n F 0 dX7_breaksIs_11 rfl rfl ?_
      refine t_g_Rule_cells F (kR0 hr0) ib7 wd161 (r0 + 130) rfl dX7_breaksIs_12 ?_
      refine q_iload_n F 2 dX7_breaksIs_15 rfl rfl ?_
      obtain ⟨k1, hw⟩ := hw
      refine t_ald F 5 (kR4 hr0) k1 (by decide) dX7_breaksIs_16 ?_
      obtain ⟨k2, hw⟩ := hw
      refine t_ald F 25 ha1 k2 (by decide) dX7_breaksIs_17 ?_
      obtain ⟨z3, e4⟩ := ex1 ((I a1 ((I (r0 + 130) x2))))
      have hw := hw z3 e4
      have hz3 : inR z3 := by rw [e4]; exact (hm.1 _ _)
      refine q_top e4 ?_
      refine q_istore_n (lv' := [(0, .ref (E.1 r0)), (1, .ref (E.1 a1)), (2, iV x2), (3, iV z3)]) F [1, 2, 3, 0] dX7_breaksIs_18 rfl (q_n hN (by decide)) rfl ?_
      refine q_iload_n F 3 dX7_breaksIs_19 rfl rfl ?_
      refine q_if_eq F hz3 33 dX7_breaksIs_20 (by decide) (fun hc => ?_) (fun hc => ?_)
      · have hw := hw.1 hc
        obtain ⟨k7, hw⟩ := hw
        obtain ⟨z5, e6⟩ := ex1 (x2 + 1)
        have hw := hw z5 e6
        have hz5 : inR z5 := by rw [e6]; exact k7
        refine q_iinc (lv' := [(0, .ref (E.1 r0)), (1, .ref (E.1 a1)), (2, iV z5), (3, iV z3)]) F 2 [1, 2, 0, 3] dX7_breaksIs_33 rfl (q_n hN (by decide)) e6.symm rfl ?_
        refine q_goto F 2 dX7_breaksIs_36 (by decide) ?_
        refine q_lv [0, 1, 2] rfl ?_
        exact ih z5 I R hz5 hm hw
      · have hw := hw.2 hc
        refine q_iload_n F 3 dX7_breaksIs_23 rfl rfl ?_
        refine q_aload_n F 0 dX7_breaksIs_24 rfl rfl ?_
        refine t_g_Rule_number F (kR0 hr0) ib7 wd147 dX7_breaksIs_25 ?_
        refine q_icmp_eq F hz3 (hm.1 _ _) 33 dX7_breaksIs_28 (by decide) (fun hc => ?_) (fun hc => ?_)
        · have hw := hw.1 hc
          obtain ⟨k10, hw⟩ := hw
          obtain ⟨z8, e9⟩ := ex1 (x2 + 1)
          have hw := hw z8 e9
          have hz8 : inR z8 := by rw [e9]; exact k10
          refine q_iinc (lv' := [(0, .ref (E.1 r0)), (1, .ref (E.1 a1)), (2, iV z8), (3, iV z3)]) F 2 [1, 2, 0, 3] dX7_breaksIs_33 rfl (q_n hN (by decide)) e9.symm rfl ?_
          refine q_goto F 2 dX7_breaksIs_36 (by decide) ?_
          refine q_lv [0, 1, 2] rfl ?_
          exact ih z8 I R hz8 hm hw
        · have hw := hw.2 hc
          refine q_iconst F dX7_breaksIs_31 ?_
          exact hret _ _ _ _ _ _ dX7_breaksIs_32 (Or.inr rfl) (⟨by decide, by decide⟩ : inR (1)) hm hw
set_option maxHeartbeats 4000000 in
set_option maxRecDepth 100000 in
theorem kcX7_breaksIs {l : Launch} {D : va_G} {E : cE} {r0 : Nat} {a1 : Nat} {I : cI} {R : cR} (hm : cM I R) (hr0 : isR r0) (ha1 : isA 25 a1) {Q : Int → cI → cR → Prop} (hw : wX7_breaksIs r0 a1 I R Q) : gM l D E cIds yX7_breaksIs vX7_breaksIs (rmK 1 (0) (0)) [.ref (E.1 r0), .ref (E.1 a1)] (cef E (I, R)) (cef E) (pI Q) (0) (0) := by
  unfold wX7_breaksIs at hw
  refine k_ofW (own := RX7) (cc := cX7_breaksIs) (maxL := 4) (ret := (some .boolean)) (lv := [(0, .ref (E.1 r0)), (1, .ref (E.1 a1))]) (by decide) rfl rfl (Nat.le_of_ble_eq_true rfl) rfl ?_
  intro X hl hR hN hD F K
  subst hl; subst hD
  have hret := mk_rZ (Q := Q) F K
  refine q_iconst F dX7_breaksIs_0 ?_
  refine q_istore_n (lv' := [(0, .ref (E.1 r0)), (1, .ref (E.1 a1)), (2, iV 0)]) F [1, 2, 0] dX7_breaksIs_1 rfl (q_n hN (by decide)) rfl ?_
  obtain ⟨n1, hw⟩ := hw
  exact bX7_breaksIs_2 F hR hN hret hr0 ha1 n1 0 I R (⟨by decide, by decide⟩ : inR (0)) hm hw
theorem ydX7_breaksApart : yX7_breaksApart.cls = RX7 ∧ yX7_breaksApart.cls ≠ "java/lang/invoke/MethodHandle" ∧ yX7_breaksApart.cls ≠ "java/lang/invoke/VarHandle" ∧ (parseMethodDescriptor yX7_breaksApart.desc).map (fun d => d.parameters.length) = some 1 := by decide +kernel
def vX7_breaksApart : List Cond := Cond.code yX7_breaksApart cX7_breaksApart 6 (some .boolean) :: bG
set_option maxHeartbeats 4000000 in
set_option maxRecDepth 100000 in
theorem bX7_breaksApart_48 {X : xC} {E : cE} (F : mF X E RX7 cX7_breaksApart bG) (hR : X.1.2.2.2 = rmK 1 (0) (0)) (hN : X.2.2.1.2.2.2 = 6) {Q : Int → cI → cR → Prop} (hret : rZ X E cX7_breaksApart (0) (0) Q) {r0 : Nat} {a1 : Nat} (hr0 : isR r0) (ha1 : isA 25 a1) {K2 : Int → cI → cR → Prop} (hK2 : ∀ (x2 : Int) (I : cI) (R : cR), inR x2 → cM I R → K2 x2 I R → cW X (0) (0) 2 [(0, .ref (E.1 r0)), (1, .ref (E.1 a1)), (2, iV x2)] [] (gw E.1 cIds (cef E (I, R)) ++ [])) : ∀ (x2 : Int) (x3 : Int) (x4 : Int) (y0 : Int) (I : cI) (R : cR), inR x2 → inR x3 → inR x4 → inR y0 → cM I R → wX7_breaksApart_48 Q r0 a1 K2 x2 x3 x4 y0 I R → cW X (0) (0) 48 [(0, .ref (E.1 r0)), (1, .ref (E.1 a1)), (2, iV x2), (3, iV x3), (4, iV x4)] [iV y0] (gw E.1 cIds (cef E (I, R)) ++ []) := by
  intro x2 x3 x4 y0 I R hx2 hx3 hx4 hy0 hm hw
  unfold wX7_breaksApart_48 at hw
  refine q_istore (lv' := [(0, .ref (E.1 r0)), (1, .ref (E.1 a1)), (2, iV x2), (3, iV x3), (4, iV x4), (5, iV y0)]) F [1, 2, 3, 4, 5, 0] dX7_breaksApart_48 (q_n hN (by decide)) rfl ?_
  refine q_iload_n F 3 dX7_breaksApart_50 rfl rfl ?_
  refine q_if_eq F hx3 70 dX7_breaksApart_51 (by decide) (fun hc => ?_) (fun hc => ?_)
  · have hw := hw.1 hc
    obtain ⟨k3, hw⟩ := hw
    obtain ⟨z1, e2⟩ := ex1 (x2 + 1)
    have hw := hw z1 e2
    have hz1 : inR z1 := by rw [e2]; exact k3
    refine q_iinc (lv' := [(0, .ref (E.1 r0)), (1, .ref (E.1 a1)), (2, iV z1), (3, iV x3), (4, iV x4), (5, iV y0)]) F 2 [1, 2, 0, 3, 4, 5] dX7_breaksApart_70 rfl (q_n hN (by decide)) e2.symm rfl ?_
    refine q_goto F 2 dX7_breaksApart_73 (by decide) ?_
    refine q_lv [0, 1, 2] rfl ?_
    exact hK2 z1 I R hz1 hm hw
  · have hw := hw.2 hc
    refine q_iload F 4 dX7_breaksApart_54 rfl ?_
    refine q_if_eq F hx4 70 dX7_breaksApart_56 (by decide) (fun hc => ?_) (fun hc => ?_)
    · have hw := hw.1 hc
      obtain ⟨k6, hw⟩ := hw
      obtain ⟨z4, e5⟩ := ex1 (x2 + 1)
      have hw := hw z4 e5
      have hz4 : inR z4 := by rw [e5]; exact k6
      refine q_iinc (lv' := [(0, .ref (E.1 r0)), (1, .ref (E.1 a1)), (2, iV z4), (3, iV x3), (4, iV x4), (5, iV y0)]) F 2 [1, 2, 0, 3, 4, 5] dX7_breaksApart_70 rfl (q_n hN (by decide)) e5.symm rfl ?_
      refine q_goto F 2 dX7_breaksApart_73 (by decide) ?_
      refine q_lv [0, 1, 2] rfl ?_
      exact hK2 z4 I R hz4 hm hw
    · have hw := hw.2 hc
      refine q_iload F 5 dX7_breaksApart_59 rfl ?_
      refine q_aload_n F 0 dX7_breaksApart_61 rfl rfl ?_
      refine t_g_Rule_number F (kR0 hr0) ib7 wd147 dX7_breaksApart_62 ?_
      refine q_icmp_ge F hy0 (hm.1 _ _) 70 dX7_breaksApart_65 (by decide) (fun hc => ?_) (fun hc => ?_)
      · have hw := hw.1 hc
        obtain ⟨k9, hw⟩ := hw
        obtain ⟨z7, e8⟩ := ex1 (x2 + 1)
        have hw := hw z7 e8
        have hz7 : inR z7 := by rw [e8]; exact k9
        refine q_iinc (lv' := [(0, .ref (E.1 r0)), (1, .ref (E.1 a1)), (2, iV z7), (3, iV x3), (4, iV x4), (5, iV y0)]) F 2 [1, 2, 0, 3, 4, 5] dX7_breaksApart_70 rfl (q_n hN (by decide)) e8.symm rfl ?_
        refine q_goto F 2 dX7_breaksApart_73 (by decide) ?_
        refine q_lv [0, 1, 2] rfl ?_
        exact hK2 z7 I R hz7 hm hw
      · have hw := hw.2 hc
        refine q_iconst F dX7_breaksApart_68 ?_
        exact hret _ _ _ _ _ _ dX7_breaksApart_69 (Or.inr rfl) (⟨by decide, by decide⟩ : inR (1)) hm hw
set_option maxHeartbeats 4000000 in
set_option maxRecDepth 100000 in
theorem bX7_breaksApart_2 {X : xC} {E : cE} (F : mF X E RX7 cX7_breaksApart bG) (hR : X.1.2.2.2 = rmK 1 (0) (0)) (hN : X.2.2.1.2.2.2 = 6) {Q : Int → cI → cR → Prop} (hret : rZ X E cX7_breaksApart (0) (0) Q) {r0 : Nat} {a1 : Nat} (hr0 : isR r0) (ha1 : isA 25 a1) : ∀ n2 : Nat, ∀ (x2 : Int) (I : cI) (R : cR), inR x2 → cM I R → wX7_breaksApart_2 Q r0 a1 n2 x2 I R → cW X (0) (0) 2 [(0, .ref (E.1 r0)), (1, .ref (E.1 a1)), (2, iV x2)] [] (gw E.1 cIds (cef E (I, R)) ++ []) := by
  intro n2
  induction n2 with
  | zero => intro x2 I R hx2 hm hw; exact hw.elim
  | succ n2 ih =>
    intro x2 I R hx2 hm hw
    change wbX7_breaksApart_2 Q r0 a1 (wX7_breaksApart_2 Q r0 a1 n2) x2 I R at hw
    unfold wbX7_breaksApart_2 at hw
    refine q_iload_n F 2 dX7_breaksApart_2 rfl rfl ?_
    refine q_aload_n F 0 dX7_breaksApart_3 rfl rfl ?_
    refine t_g_Rule_size F (kR0 hr0) ib7 wd156 dX7_breaksApart_4 ?_
    refine q_icmp_ge F hx2 (hm.1 _ _) 76 dX7_breaksApart_7 (by decide) (fun hc => ?_) (fun hc => ?_)
    · have hw := hw.1 hc
      refine q_iconst F dX7_breaksApart_76 ?_
      exact hret _ _ _ _ _ _ dX7_breaksApart_77 (Or.inl rfl) (⟨by decide, by decide⟩ : inR (0)) hm hw
    · have hw := hw.2 hc
      refine q_aload_n F 1 dX7_breaksApart_10 rfl rfl ?_
      refine q_aload_n F 0 dX7_breaksApart_11 rfl rfl ?_
      refine t_g_Rule_cells F (kR0 hr0) ib7 wd161 (r0 + 130) rfl dX7_breaksApart_12 ?_
      refine q_iload_n F 2 dX7_breaksApart_15 rfl rfl ?_
      refine q_iconst F dX7_breaksApart_16 ?_
      refine q_isub F dX7_breaksApart_17 ?_
      obtain ⟨k1, hw⟩ := hw
      refine t_ald F 5 (kR4 hr0) k1 (by decide) dX7_breaksApart_18 ?_
      obtain ⟨k2, hw⟩ := hw
      refine t_ald F 25 ha1 k2 (by decide) dX7_breaksApart_19 ?_
      obtain ⟨z3, e4⟩ := ex1 ((I a1 ((I (r0 + 130) ((x2 - 1))))))
      have hw := hw z3 e4
      have hz3 : inR z3 := by rw [e4]; exact (hm.1 _ _)
      refine q_top e4 ?_
      refine q_istore_n (lv' := [(0, .ref (E.1 r0)), (1, .ref (E.1 a1)), (2, iV x2), (3, iV z3)]) F [1, 2, 3, 0] dX7_breaksApart_20 rfl (q_n hN (by decide)) rfl ?_
      refine q_aload_n F 1 dX7_breaksApart_21 rfl rfl ?_
      refine q_aload_n F 0 dX7_breaksApart_22 rfl rfl ?_
      refine t_g_Rule_cells F (kR0 hr0) ib7 wd161 (r0 + 130) rfl dX7_breaksApart_23 ?_
      refine q_iload_n F 2 dX7_breaksApart_26 rfl rfl ?_
      obtain ⟨k5, hw⟩ := hw
      refine t_ald F 5 (kR4 hr0) k5 (by decide) dX7_breaksApart_27 ?_
      obtain ⟨k6, hw⟩ := hw
      refine t_ald F 25 ha1 k6 (by decide) dX7_breaksApart_28 ?_
      obtain ⟨z7, e8⟩ := ex1 ((I a1 ((I (r0 + 130) x2))))
      have hw := hw z7 e8
      have hz7 : inR z7 := by rw [e8]; exact (hm.1 _ _)
      refine q_top e8 ?_
      refine q_istore (lv' := [(0, .ref (E.1 r0)), (1, .ref (E.1 a1)), (2, iV x2), (3, iV z3), (4, iV z7)]) F [1, 2, 3, 4, 0] dX7_breaksApart_29 (q_n hN (by decide)) rfl ?_
      refine q_iload_n F 3 dX7_breaksApart_31 rfl rfl ?_
      refine q_iload F 4 dX7_breaksApart_32 rfl ?_
      refine q_icmp_ge F hz3 hz7 44 dX7_breaksApart_34 (by decide) (fun hc => ?_) (fun hc => ?_)
      · have hw := hw.1 hc
        refine q_iload_n F 3 dX7_breaksApart_44 rfl rfl ?_
        refine q_iload F 4 dX7_breaksApart_45 rfl ?_
        refine q_isub F dX7_breaksApart_47 ?_
        obtain ⟨k9, hw⟩ := hw
        exact bX7_breaksApart_48 F hR hN hret hr0 ha1 ih x2 z3 z7 ((z3 - z7)) I R hx2 hz3 hz7 k9 hm hw
      · have hw := hw.2 hc
        refine q_iload F 4 dX7_breaksApart_37 rfl ?_
        refine q_iload_n F 3 dX7_breaksApart_39 rfl rfl ?_
        refine q_isub F dX7_breaksApart_40 ?_
        refine q_goto F 48 dX7_breaksApart_41 (by decide) ?_
        obtain ⟨k10, hw⟩ := hw
        exact bX7_breaksApart_48 F hR hN hret hr0 ha1 ih x2 z3 z7 ((z7 - z3)) I R hx2 hz3 hz7 k10 hm hw
set_option maxHeartbeats 4000000 in
set_option maxRecDepth 100000 in
theorem kcX7_breaksApart {l : Launch} {D : va_G} {E : cE} {r0 : Nat} {a1 : Nat} {I : cI} {R : cR} (hm : cM I R) (hr0 : isR r0) (ha1 : isA 25 a1) {Q : Int → cI → cR → Prop} (hw : wX7_breaksApart r0 a1 I R Q) : gM l D E cIds yX7_breaksApart vX7_breaksApart (rmK 1 (0) (0)) [.ref (E.1 r0), .ref (E.1 a1)] (cef E (I, R)) (cef E) (pI Q) (0) (0) := by
  unfold wX7_breaksApart at hw
  refine k_ofW (own := RX7) (cc := cX7_breaksApart) (maxL := 6) (ret := (some .boolean)) (lv := [(0, .ref (E.1 r0)), (1, .ref (E.1 a1))]) (by decide) rfl rfl (Nat.le_of_ble_eq_true rfl) rfl ?_
  intro X hl hR hN hD F K
  subst hl; subst hD
  have hret := mk_rZ (Q := Q) F K
  refine q_iconst F dX7_breaksApart_0 ?_
  refine q_istore_n (lv' := [(0, .ref (E.1 r0)), (1, .ref (E.1 a1)), (2, iV 1)]) F [1, 2, 0] dX7_breaksApart_1 rfl (q_n hN (by decide)) rfl ?_
  obtain ⟨n1, hw⟩ := hw
  exact bX7_breaksApart_2 F hR hN hret hr0 ha1 n1 1 I R (⟨by decide, by decide⟩ : inR (1)) hm hw
theorem ydX7_isBroken : yX7_isBroken.cls = RX7 ∧ yX7_isBroken.cls ≠ "java/lang/invoke/MethodHandle" ∧ yX7_isBroken.cls ≠ "java/lang/invoke/VarHandle" ∧ (parseMethodDescriptor yX7_isBroken.desc).map (fun d => d.parameters.length) = some 2 := by decide +kernel
def vX7_isBroken : List Cond := Cond.code yX7_isBroken cX7_isBroken 3 (some .boolean) :: bG
set_option maxHeartbeats 4000000 in
set_option maxRecDepth 100000 in
theorem kcX7_isBroken {l : Launch} {D : va_G} {E : cE} {r0 : Nat} {a1 : Nat} {a2 : Int} {I : cI} {R : cR} (hm : cM I R) (hr0 : isR r0) (ha1 : isA 25 a1) (ha2 : inR a2) {Q : Int → cI → cR → Prop} (hw : wX7_isBroken r0 a1 a2 I R Q) : gM l D E cIds yX7_isBroken vX7_isBroken (rmK 2 (0) (0)) [.ref (E.1 r0), .ref (E.1 a1), iV a2] (cef E (I, R)) (cef E) (pI Q) (0) (0) := by
  unfold wX7_isBroken at hw
  refine k_ofW (own := RX7) (cc := cX7_isBroken) (maxL := 3) (ret := (some .boolean)) (lv := [(0, .ref (E.1 r0)), (1, .ref (E.1 a1)), (2, iV a2)]) (by decide) rfl rfl (Nat.le_of_ble_eq_true rfl) rfl ?_
  intro X hl hR hN hD F K
  subst hl; subst hD
  have hret := mk_rZ (Q := Q) F K
  refine q_gs F (sZ_SW F) wd430 rfl dX7_isBroken_0 ?_
  refine q_aload_n F 0 dX7_isBroken_3 rfl rfl ?_
  refine t_g_Rule_kind F (kR0 hr0) ib7 wd142 dX7_isBroken_4 ?_
  refine q_ord F hR (by omega) (hm.2.2.2.2 _ hr0) wd431 dX7_isBroken_7 (Nat.le_of_ble_eq_true rfl) ?_
  obtain ⟨k1, hw⟩ := hw
  refine q_ldSW F k1 dX7_isBroken_10 ?_
  by_cases c1 : (swT ((kN ((R r0 0))))) = 1
  · have hw := hw.1 c1
    refine q_swIn F 0 (swT_in _) 68 dX7_isBroken_11 (c1.trans (by decide)) (by decide) rfl (by decide) ?_
    refine q_aload_n F 0 dX7_isBroken_68 rfl rfl ?_
    refine q_aload_n F 1 dX7_isBroken_69 rfl rfl ?_
    refine q_iconst F dX7_isBroken_70 ?_
    refine q_Vi F (kcX7_hasPair hm hr0 ha1 (⟨by decide, by decide⟩ : inR (1)) hw) (cIds_in (kR0 hr0).2) (ceRule (kR0 hr0).1) (ci := 5) rfl (bV wd432 wd433 wd895 wd10 wd434) rfl ⟨rfl, rfl⟩ ydX7_hasPair (rmK_le hR (by omega) (by decide)) (av := [.ref (E.1 a1), iV 1]) rfl rfl (Nat.le_of_ble_eq_true rfl) dX7_isBroken_71 (rmK_cs hR (by omega) (by omega)) (fun r2 I3 R4 h5 m6 hw => ?_)
    obtain ⟨k7, hw⟩ := hw
    exact hret _ _ _ _ _ _ dX7_isBroken_74 k7 h5 m6 hw
  by_cases c2 : (swT ((kN ((R r0 0))))) = 2
  · have hw := hw.2.1 c2
    refine q_swIn F 1 (swT_in _) 75 dX7_isBroken_11 (c2.trans (by decide)) (by decide) rfl (by decide) ?_
    refine q_aload_n F 0 dX7_isBroken_75 rfl rfl ?_
    refine q_aload_n F 1 dX7_isBroken_76 rfl rfl ?_
    refine q_iload_n F 2 dX7_isBroken_77 rfl rfl ?_
    refine q_Vi F (kcX7_breaksSum hm hr0 ha1 ha2 hw) (cIds_in (kR0 hr0).2) (ceRule (kR0 hr0).1) (ci := 5) rfl (bV wd435 wd436 wd896 wd10 wd437) rfl ⟨rfl, rfl⟩ ydX7_breaksSum (rmK_le hR (by omega) (by decide)) (av := [.ref (E.1 a1), iV a2]) rfl rfl (Nat.le_of_ble_eq_true rfl) dX7_isBroken_78 (rmK_cs hR (by omega) (by omega)) (fun r8 I9 R10 h11 m12 hw => ?_)
    obtain ⟨k13, hw⟩ := hw
    exact hret _ _ _ _ _ _ dX7_isBroken_81 k13 h11 m12 hw
  by_cases c3 : (swT ((kN ((R r0 0))))) = 3
  · have hw := hw.2.2.1 c3
    refine q_swIn F 2 (swT_in _) 82 dX7_isBroken_11 (c3.trans (by decide)) (by decide) rfl (by decide) ?_
    refine q_aload_n F 0 dX7_isBroken_82 rfl rfl ?_
    refine q_aload_n F 1 dX7_isBroken_83 rfl rfl ?_
    refine q_Vi F (kcX7_breaksProduct hm hr0 ha1 hw) (cIds_in (kR0 hr0).2) (ceRule (kR0 hr0).1) (ci := 5) rfl (bV wd438 wd439 wd897 wd10 wd440) rfl ⟨rfl, rfl⟩ ydX7_breaksProduct (rmK_le hR (by omega) (by decide)) (av := [.ref (E.1 a1)]) rfl rfl (Nat.le_of_ble_eq_true rfl) dX7_isBroken_84 (rmK_cs hR (by omega) (by omega)) (fun r14 I15 R16 h17 m18 hw => ?_)
    obtain ⟨k19, hw⟩ := hw
    exact hret _ _ _ _ _ _ dX7_isBroken_87 k19 h17 m18 hw
  by_cases c4 : (swT ((kN ((R r0 0))))) = 4
  · have hw := hw.2.2.2.1 c4
    refine q_swIn F 3 (swT_in _) 88 dX7_isBroken_11 (c4.trans (by decide)) (by decide) rfl (by decide) ?_
    refine q_aload_n F 0 dX7_isBroken_88 rfl rfl ?_
    refine q_aload_n F 1 dX7_isBroken_89 rfl rfl ?_
    refine q_Vi F (kcX7_breaksOrder hm hr0 ha1 hw) (cIds_in (kR0 hr0).2) (ceRule (kR0 hr0).1) (ci := 5) rfl (bV wd441 wd442 wd898 wd10 wd443) rfl ⟨rfl, rfl⟩ ydX7_breaksOrder (rmK_le hR (by omega) (by decide)) (av := [.ref (E.1 a1)]) rfl rfl (Nat.le_of_ble_eq_true rfl) dX7_isBroken_90 (rmK_cs hR (by omega) (by omega)) (fun r20 I21 R22 h23 m24 hw => ?_)
    obtain ⟨k25, hw⟩ := hw
    exact hret _ _ _ _ _ _ dX7_isBroken_93 k25 h23 m24 hw
  by_cases c5 : (swT ((kN ((R r0 0))))) = 5
  · have hw := hw.2.2.2.2.1 c5
    refine q_swIn F 4 (swT_in _) 88 dX7_isBroken_11 (c5.trans (by decide)) (by decide) rfl (by decide) ?_
    refine q_aload_n F 0 dX7_isBroken_88 rfl rfl ?_
    refine q_aload_n F 1 dX7_isBroken_89 rfl rfl ?_
    refine q_Vi F (kcX7_breaksOrder hm hr0 ha1 hw) (cIds_in (kR0 hr0).2) (ceRule (kR0 hr0).1) (ci := 5) rfl (bV wd441 wd442 wd898 wd10 wd443) rfl ⟨rfl, rfl⟩ ydX7_breaksOrder (rmK_le hR (by omega) (by decide)) (av := [.ref (E.1 a1)]) rfl rfl (Nat.le_of_ble_eq_true rfl) dX7_isBroken_90 (rmK_cs hR (by omega) (by omega)) (fun r26 I27 R28 h29 m30 hw => ?_)
    obtain ⟨k31, hw⟩ := hw
    exact hret _ _ _ _ _ _ dX7_isBroken_93 k31 h29 m30 hw
  by_cases c6 : (swT ((kN ((R r0 0))))) = 6
  · have hw := hw.2.2.2.2.2.1 c6
    refine q_swIn F 5 (swT_in _) 94 dX7_isBroken_11 (c6.trans (by decide)) (by decide) rfl (by decide) ?_
    refine q_aload_n F 0 dX7_isBroken_94 rfl rfl ?_
    refine q_aload_n F 1 dX7_isBroken_95 rfl rfl ?_
    refine q_Vi F (kcX7_breaksSight hm hr0 ha1 hw) (cIds_in (kR0 hr0).2) (ceRule (kR0 hr0).1) (ci := 5) rfl (bV wd444 wd445 wd899 wd10 wd446) rfl ⟨rfl, rfl⟩ ydX7_breaksSight (rmK_le hR (by omega) (by decide)) (av := [.ref (E.1 a1)]) rfl rfl (Nat.le_of_ble_eq_true rfl) dX7_isBroken_96 (rmK_cs hR (by omega) (by omega)) (fun r32 I33 R34 h35 m36 hw => ?_)
    obtain ⟨k37, hw⟩ := hw
    exact hret _ _ _ _ _ _ dX7_isBroken_99 k37 h35 m36 hw
  by_cases c7 : (swT ((kN ((R r0 0))))) = 7
  · have hw := hw.2.2.2.2.2.2.1 c7
    refine q_swIn F 6 (swT_in _) 100 dX7_isBroken_11 (c7.trans (by decide)) (by decide) rfl (by decide) ?_
    refine q_aload_n F 0 dX7_isBroken_100 rfl rfl ?_
    refine q_aload_n F 1 dX7_isBroken_101 rfl rfl ?_
    refine q_iconst F dX7_isBroken_102 ?_
    refine q_Vi F (kcX7_hasRemainder hm hr0 ha1 (⟨by decide, by decide⟩ : inR (0)) hw) (cIds_in (kR0 hr0).2) (ceRule (kR0 hr0).1) (ci := 5) rfl (bV wd447 wd448 wd900 wd10 wd449) rfl ⟨rfl, rfl⟩ ydX7_hasRemainder (rmK_le hR (by omega) (by decide)) (av := [.ref (E.1 a1), iV 0]) rfl rfl (Nat.le_of_ble_eq_true rfl) dX7_isBroken_103 (rmK_cs hR (by omega) (by omega)) (fun r38 I39 R40 h41 m42 hw => ?_)
    obtain ⟨k43, hw⟩ := hw
    exact hret _ _ _ _ _ _ dX7_isBroken_106 k43 h41 m42 hw
  by_cases c8 : (swT ((kN ((R r0 0))))) = 8
  · have hw := hw.2.2.2.2.2.2.2.1 c8
    refine q_swIn F 7 (swT_in _) 107 dX7_isBroken_11 (c8.trans (by decide)) (by decide) rfl (by decide) ?_
    refine q_aload_n F 0 dX7_isBroken_107 rfl rfl ?_
    refine q_aload_n F 1 dX7_isBroken_108 rfl rfl ?_
    refine q_iconst F dX7_isBroken_109 ?_
    refine q_Vi F (kcX7_hasRemainder hm hr0 ha1 (⟨by decide, by decide⟩ : inR (1)) hw) (cIds_in (kR0 hr0).2) (ceRule (kR0 hr0).1) (ci := 5) rfl (bV wd447 wd448 wd900 wd10 wd449) rfl ⟨rfl, rfl⟩ ydX7_hasRemainder (rmK_le hR (by omega) (by decide)) (av := [.ref (E.1 a1), iV 1]) rfl rfl (Nat.le_of_ble_eq_true rfl) dX7_isBroken_110 (rmK_cs hR (by omega) (by omega)) (fun r44 I45 R46 h47 m48 hw => ?_)
    obtain ⟨k49, hw⟩ := hw
    exact hret _ _ _ _ _ _ dX7_isBroken_113 k49 h47 m48 hw
  by_cases c9 : (swT ((kN ((R r0 0))))) = 9
  · have hw := hw.2.2.2.2.2.2.2.2.1 c9
    refine q_swIn F 8 (swT_in _) 114 dX7_isBroken_11 (c9.trans (by decide)) (by decide) rfl (by decide) ?_
    refine q_aload_n F 0 dX7_isBroken_114 rfl rfl ?_
    refine q_aload_n F 1 dX7_isBroken_115 rfl rfl ?_
    refine q_Vi F (kcX7_breaksCount hm hr0 ha1 hw) (cIds_in (kR0 hr0).2) (ceRule (kR0 hr0).1) (ci := 5) rfl (bV wd450 wd451 wd901 wd10 wd452) rfl ⟨rfl, rfl⟩ ydX7_breaksCount (rmK_le hR (by omega) (by decide)) (av := [.ref (E.1 a1)]) rfl rfl (Nat.le_of_ble_eq_true rfl) dX7_isBroken_116 (rmK_cs hR (by omega) (by omega)) (fun r50 I51 R52 h53 m54 hw => ?_)
    obtain ⟨k55, hw⟩ := hw
    exact hret _ _ _ _ _ _ dX7_isBroken_119 k55 h53 m54 hw
  by_cases c10 : (swT ((kN ((R r0 0))))) = 10
  · have hw := hw.2.2.2.2.2.2.2.2.2.1 c10
    refine q_swIn F 9 (swT_in _) 120 dX7_isBroken_11 (c10.trans (by decide)) (by decide) rfl (by decide) ?_
    refine q_aload_n F 0 dX7_isBroken_120 rfl rfl ?_
    refine q_aload_n F 1 dX7_isBroken_121 rfl rfl ?_
    refine q_Vi F (kcX7_breaksIs hm hr0 ha1 hw) (cIds_in (kR0 hr0).2) (ceRule (kR0 hr0).1) (ci := 5) rfl (bV wd453 wd454 wd902 wd10 wd455) rfl ⟨rfl, rfl⟩ ydX7_breaksIs (rmK_le hR (by omega) (by decide)) (av := [.ref (E.1 a1)]) rfl rfl (Nat.le_of_ble_eq_true rfl) dX7_isBroken_122 (rmK_cs hR (by omega) (by omega)) (fun r56 I57 R58 h59 m60 hw => ?_)
    obtain ⟨k61, hw⟩ := hw
    exact hret _ _ _ _ _ _ dX7_isBroken_125 k61 h59 m60 hw
  by_cases c11 : (swT ((kN ((R r0 0))))) = 11
  · have hw := hw.2.2.2.2.2.2.2.2.2.2.1 c11
    refine q_swIn F 10 (swT_in _) 126 dX7_isBroken_11 (c11.trans (by decide)) (by decide) rfl (by decide) ?_
    refine q_aload_n F 0 dX7_isBroken_126 rfl rfl ?_
    refine q_aload_n F 1 dX7_isBroken_127 rfl rfl ?_
    refine q_Vi F (kcX7_breaksApart hm hr0 ha1 hw) (cIds_in (kR0 hr0).2) (ceRule (kR0 hr0).1) (ci := 5) rfl (bV wd456 wd457 wd903 wd10 wd458) rfl ⟨rfl, rfl⟩ ydX7_breaksApart (rmK_le hR (by omega) (by decide)) (av := [.ref (E.1 a1)]) rfl rfl (Nat.le_of_ble_eq_true rfl) dX7_isBroken_128 (rmK_cs hR (by omega) (by omega)) (fun r62 I63 R64 h65 m66 hw => ?_)
    obtain ⟨k67, hw⟩ := hw
    exact hret _ _ _ _ _ _ dX7_isBroken_131 k67 h65 m66 hw
  have hw := hw.2.2.2.2.2.2.2.2.2.2.2 c1 c2 c3 c4 c5 c6 c7 c8 c9 c10 c11
  refine q_swOut F (swT_in _) 132 dX7_isBroken_11 (by omega) (by decide) ?_
  refine q_aload_n F 0 dX7_isBroken_132 rfl rfl ?_
  refine q_aload_n F 1 dX7_isBroken_133 rfl rfl ?_
  refine q_iconst F dX7_isBroken_134 ?_
  refine q_Vi F (kcX7_hasPair hm hr0 ha1 (⟨by decide, by decide⟩ : inR (0)) hw) (cIds_in (kR0 hr0).2) (ceRule (kR0 hr0).1) (ci := 5) rfl (bV wd432 wd433 wd895 wd10 wd434) rfl ⟨rfl, rfl⟩ ydX7_hasPair (rmK_le hR (by omega) (by decide)) (av := [.ref (E.1 a1), iV 0]) rfl rfl (Nat.le_of_ble_eq_true rfl) dX7_isBroken_135 (rmK_cs hR (by omega) (by omega)) (fun r68 I69 R70 h71 m72 hw => ?_)
  obtain ⟨k73, hw⟩ := hw
  exact hret _ _ _ _ _ _ dX7_isBroken_138 k73 h71 m72 hw
theorem ydX4_countBroken : yX4_countBroken.cls = RX4 ∧ yX4_countBroken.cls ≠ "java/lang/invoke/MethodHandle" ∧ yX4_countBroken.cls ≠ "java/lang/invoke/VarHandle" ∧ (parseMethodDescriptor yX4_countBroken.desc).map (fun d => d.parameters.length) = some 0 := by decide +kernel
def vX4_countBroken : List Cond := Cond.code yX4_countBroken cX4_countBroken 3 (some .int) :: bG
set_option maxHeartbeats 4000000 in
set_option maxRecDepth 100000 in
theorem bX4_countBroken_4 {X : xC} {E : cE} (F : mF X E RX4 cX4_countBroken bG) (hR : X.1.2.2.2 = rmK 3 (0) (0)) (hN : X.2.2.1.2.2.2 = 3) {Q : Int → cI → cR → Prop} (hret : rI X E cX4_countBroken (0) (0) Q) {p : Nat} (hp : isP p) : ∀ n4 : Nat, ∀ (x1 : Int) (x2 : Int) (I : cI) (R : cR), inR x1 → inR x2 → cM I R → wX4_countBroken_4 Q p n4 x1 x2 I R → cW X (0) (0) 4 [(0, .ref (E.1 p)), (1, iV x1), (2, iV x2)] [] (gw E.1 cIds (cef E (I, R)) ++ []) := by
  intro n4
  induction n4 with
  | zero => intro x1 x2 I R hx1 hx2 hm hw; exact hw.elim
  | succ n4 ih =>
    intro x1 x2 I R hx1 hx2 hm hw
    change wbX4_countBroken_4 Q p (wX4_countBroken_4 Q p n4) x1 x2 I R at hw
    unfold wbX4_countBroken_4 at hw
    refine q_iload_n F 2 dX4_countBroken_4 rfl rfl ?_
    refine q_aload_n F 0 dX4_countBroken_5 rfl rfl ?_
    refine t_g_Puzzle_ruleCount F (kP0 hp) ib4 wd188 dX4_countBroken_6 ?_
    refine q_icmp_ge F hx2 (hm.1 _ _) 41 dX4_countBroken_9 (by decide) (fun hc => ?_) (fun hc => ?_)
    · have hw := hw.1 hc
      refine q_iload_n F 1 dX4_countBroken_41 rfl rfl ?_
      exact hret _ _ _ _ _ _ dX4_countBroken_42 hx1 hm hw
    · have hw := hw.2 hc
      refine q_aload_n F 0 dX4_countBroken_12 rfl rfl ?_
      refine t_g_Puzzle_rules F (kP0 hp) ib4 wd184 (p + 2) rfl dX4_countBroken_13 ?_
      refine q_iload_n F 2 dX4_countBroken_16 rfl rfl ?_
      obtain ⟨k1, hw⟩ := hw
      refine t_rld F (kP2 hp) k1 dX4_countBroken_17 ?_
      refine q_aload_n F 0 dX4_countBroken_18 rfl rfl ?_
      refine t_g_Puzzle_grid F (kP0 hp) ib4 wd180 (p + 1) rfl dX4_countBroken_19 ?_
      refine q_aload_n F 0 dX4_countBroken_22 rfl rfl ?_
      refine t_g_Puzzle_highest F (kP0 hp) ib4 wd173 dX4_countBroken_23 ?_
      refine q_Vi F (kcX7_isBroken hm (hm.2.2.2.1 _ hp _ k1) (kP1 hp) (hm.1 _ _) hw) (cIds_in (kR0 (hm.2.2.2.1 _ hp _ k1)).2) (ceRule (kR0 (hm.2.2.2.1 _ hp _ k1)).1) (ci := 5) rfl (bV wd426 wd427 wd428 wd10 wd429) rfl ⟨rfl, rfl⟩ ydX7_isBroken (rmK_le hR (by omega) (by decide)) (av := [.ref (E.1 (p + 1)), iV ((I p 2))]) rfl rfl (Nat.le_of_ble_eq_true rfl) dX4_countBroken_26 (rmK_cs hR (by omega) (by omega)) (fun r2 I3 R4 h5 m6 hw => ?_)
      refine q_if_eq F h5 35 dX4_countBroken_29 (by decide) (fun hc => ?_) (fun hc => ?_)
      · have hw := hw.1 hc
        obtain ⟨k9, hw⟩ := hw
        obtain ⟨z7, e8⟩ := ex1 (x2 + 1)
        have hw := hw z7 e8
        have hz7 : inR z7 := by rw [e8]; exact k9
        refine q_iinc (lv' := [(0, .ref (E.1 p)), (1, iV x1), (2, iV z7)]) F 2 [1, 2, 0] dX4_countBroken_35 rfl (q_n hN (by decide)) e8.symm rfl ?_
        refine q_goto F 4 dX4_countBroken_38 (by decide) ?_
        exact ih x1 z7 I3 R4 hx1 hz7 m6 hw
      · have hw := hw.2 hc
        obtain ⟨k12, hw⟩ := hw
        obtain ⟨z10, e11⟩ := ex1 (x1 + 1)
        have hw := hw z10 e11
        have hz10 : inR z10 := by rw [e11]; exact k12
        refine q_iinc (lv' := [(0, .ref (E.1 p)), (1, iV z10), (2, iV x2)]) F 1 [1, 0, 2] dX4_countBroken_32 rfl (q_n hN (by decide)) e11.symm rfl ?_
        obtain ⟨k15, hw⟩ := hw
        obtain ⟨z13, e14⟩ := ex1 (x2 + 1)
        have hw := hw z13 e14
        have hz13 : inR z13 := by rw [e14]; exact k15
        refine q_iinc (lv' := [(0, .ref (E.1 p)), (1, iV z10), (2, iV z13)]) F 2 [1, 2, 0] dX4_countBroken_35 rfl (q_n hN (by decide)) e14.symm rfl ?_
        refine q_goto F 4 dX4_countBroken_38 (by decide) ?_
        exact ih z10 z13 I3 R4 hz10 hz13 m6 hw
set_option maxHeartbeats 4000000 in
set_option maxRecDepth 100000 in
theorem kcX4_countBroken {l : Launch} {D : va_G} {E : cE} {p : Nat} {I : cI} {R : cR} (hm : cM I R) (hp : isP p) {Q : Int → cI → cR → Prop} (hw : wX4_countBroken p I R Q) : gM l D E cIds yX4_countBroken vX4_countBroken (rmK 3 (0) (0)) [.ref (E.1 p)] (cef E (I, R)) (cef E) (pI Q) (0) (0) := by
  unfold wX4_countBroken at hw
  refine k_ofW (own := RX4) (cc := cX4_countBroken) (maxL := 3) (ret := (some .int)) (lv := [(0, .ref (E.1 p))]) (by decide) rfl rfl (Nat.le_of_ble_eq_true rfl) rfl ?_
  intro X hl hR hN hD F K
  subst hl; subst hD
  have hret := mk_rI (Q := Q) F K
  refine q_iconst F dX4_countBroken_0 ?_
  refine q_istore_n (lv' := [(0, .ref (E.1 p)), (1, iV 0)]) F [1, 0] dX4_countBroken_1 rfl (q_n hN (by decide)) rfl ?_
  refine q_iconst F dX4_countBroken_2 ?_
  refine q_istore_n (lv' := [(0, .ref (E.1 p)), (1, iV 0), (2, iV 0)]) F [1, 2, 0] dX4_countBroken_3 rfl (q_n hN (by decide)) rfl ?_
  obtain ⟨n1, hw⟩ := hw
  exact bX4_countBroken_4 F hR hN hret hp n1 0 0 I R (⟨by decide, by decide⟩ : inR (0)) (⟨by decide, by decide⟩ : inR (0)) hm hw
theorem ydX11_count : yX11_count.cls = RX11 ∧ yX11_count.cls ≠ "java/lang/invoke/MethodHandle" ∧ yX11_count.cls ≠ "java/lang/invoke/VarHandle" ∧ (parseMethodDescriptor yX11_count.desc).map (fun d => d.parameters.length) = some 1 := by decide +kernel
def vX11_count : List Cond := Cond.code yX11_count cX11_count 2 (some .int) :: bG
set_option maxHeartbeats 4000000 in
set_option maxRecDepth 100000 in
theorem kcX11_count {l : Launch} {D : va_G} {E : cE} (hfl : l.stackTraces = false) (z : Nat) {Qx : Nat → cI → cR → Prop} (hz : z = 1 ∨ ∀ k I R, ¬ Qx k I R) {a1 : Int} {I : cI} {R : cR} (hm : cM I R) (ha1 : inR a1) {Q : Int → cI → cR → Prop} (hw : wX11_count a1 I R Q Qx) : gMx l D E cIds yX11_count vX11_count (rmK 7 (1 * z) (6 * z)) [.ref (E.1 0), iV a1] (cef E (I, R)) (cef E) (pI Q) (pX Qx) (1 * z) (6 * z) := by
  unfold wX11_count at hw
  refine k_ofWx hfl (own := RX11) (cc := cX11_count) (maxL := 2) (ret := (some .int)) (lv := [(0, .ref (E.1 0)), (1, iV a1)]) (by decide) rfl rfl (Nat.le_of_ble_eq_true rfl) rfl ?_
  intro X hl hR hN hD F hX
  subst hl; subst hD
  have hret := mk_rIx (Q := Q) F hX
  refine q_iload_n F 1 dX11_count_0 rfl rfl ?_
  by_cases c0 : a1 = 0
  · have hw := hw.1 c0
    refine q_swIn F 0 ha1 60 dX11_count_1 (c0.trans (by decide)) (by decide) rfl (by decide) ?_
    refine q_aload_n F 0 dX11_count_60 rfl rfl ?_
    refine t_g_Mill_puzzle F (by decide) ib11 wd201 dX11_count_61 ?_
    refine t_g_Puzzle_columns F (kP0 (hm.2.1)) ib4 wd167 dX11_count_64 ?_
    refine q_wide (nc' := 1 * z) (ns' := 6 * z) (by omega) (by omega) ?_
    exact hret _ _ _ _ _ _ dX11_count_67 (hm.1 _ _) hm hw
  by_cases c1 : a1 = 1
  · have hw := hw.2.1 c1
    refine q_swIn F 1 ha1 68 dX11_count_1 (c1.trans (by decide)) (by decide) rfl (by decide) ?_
    refine q_aload_n F 0 dX11_count_68 rfl rfl ?_
    refine t_g_Mill_puzzle F (by decide) ib11 wd201 dX11_count_69 ?_
    refine t_g_Puzzle_rows F (kP0 (hm.2.1)) ib4 wd171 dX11_count_72 ?_
    refine q_wide (nc' := 1 * z) (ns' := 6 * z) (by omega) (by omega) ?_
    exact hret _ _ _ _ _ _ dX11_count_75 (hm.1 _ _) hm hw
  by_cases c2 : a1 = 2
  · have hw := hw.2.2.1 c2
    refine q_swIn F 2 ha1 76 dX11_count_1 (c2.trans (by decide)) (by decide) rfl (by decide) ?_
    refine q_aload_n F 0 dX11_count_76 rfl rfl ?_
    refine t_g_Mill_puzzle F (by decide) ib11 wd201 dX11_count_77 ?_
    refine t_g_Puzzle_highest F (kP0 (hm.2.1)) ib4 wd178 dX11_count_80 ?_
    refine q_wide (nc' := 1 * z) (ns' := 6 * z) (by omega) (by omega) ?_
    exact hret _ _ _ _ _ _ dX11_count_83 (hm.1 _ _) hm hw
  by_cases c3 : a1 = 3
  · have hw := hw.2.2.2.1 c3
    refine q_swIn F 3 ha1 84 dX11_count_1 (c3.trans (by decide)) (by decide) rfl (by decide) ?_
    refine q_aload_n F 0 dX11_count_84 rfl rfl ?_
    refine t_g_Mill_puzzle F (by decide) ib11 wd201 dX11_count_85 ?_
    refine t_g_Puzzle_ruleCount F (kP0 (hm.2.1)) ib4 wd191 dX11_count_88 ?_
    refine q_wide (nc' := 1 * z) (ns' := 6 * z) (by omega) (by omega) ?_
    exact hret _ _ _ _ _ _ dX11_count_91 (hm.1 _ _) hm hw
  by_cases c4 : a1 = 4
  · have hw := hw.2.2.2.2.1 c4
    refine q_swIn F 4 ha1 92 dX11_count_1 (c4.trans (by decide)) (by decide) rfl (by decide) ?_
    refine q_aload_n F 0 dX11_count_92 rfl rfl ?_
    refine t_g_Mill_puzzle F (by decide) ib11 wd201 dX11_count_93 ?_
    refine q_Vi F (kcX4_countGivens hm (hm.2.1) hw) (cIds_in (kP0 (hm.2.1)).2) (cePuzzle (kP0 (hm.2.1)).1) (ci := 2) rfl (bV wd412 wd413 wd414 wd9 wd415) rfl ⟨rfl, rfl⟩ ydX4_countGivens (rmK_le hR (by omega) (by decide)) (av := []) rfl rfl (Nat.le_of_ble_eq_true rfl) dX11_count_96 (rmK_cs hR (by omega) (by omega)) (fun r1 I2 R3 h4 m5 hw => ?_)
    refine q_wide (nc' := 1 * z) (ns' := 6 * z) (by omega) (by omega) ?_
    exact hret _ _ _ _ _ _ dX11_count_99 h4 m5 hw
  by_cases c5 : a1 = 5
  · have hw := hw.2.2.2.2.2.1 c5
    refine q_swIn F 5 ha1 100 dX11_count_1 (c5.trans (by decide)) (by decide) rfl (by decide) ?_
    refine q_aload_n F 0 dX11_count_100 rfl rfl ?_
    refine t_g_Mill_puzzle F (by decide) ib11 wd201 dX11_count_101 ?_
    refine q_Vi F (kcX4_countFilled hm (hm.2.1) hw) (cIds_in (kP0 (hm.2.1)).2) (cePuzzle (kP0 (hm.2.1)).1) (ci := 2) rfl (bV wd417 wd418 wd419 wd9 wd420) rfl ⟨rfl, rfl⟩ ydX4_countFilled (rmK_le hR (by omega) (by decide)) (av := []) rfl rfl (Nat.le_of_ble_eq_true rfl) dX11_count_104 (rmK_cs hR (by omega) (by omega)) (fun r6 I7 R8 h9 m10 hw => ?_)
    refine q_wide (nc' := 1 * z) (ns' := 6 * z) (by omega) (by omega) ?_
    exact hret _ _ _ _ _ _ dX11_count_107 h9 m10 hw
  by_cases c6 : a1 = 6
  · have hw := hw.2.2.2.2.2.2.1 c6
    refine q_swIn F 6 ha1 108 dX11_count_1 (c6.trans (by decide)) (by decide) rfl (by decide) ?_
    refine q_aload_n F 0 dX11_count_108 rfl rfl ?_
    refine t_g_Mill_puzzle F (by decide) ib11 wd201 dX11_count_109 ?_
    refine q_Vi F (kcX4_countBroken hm (hm.2.1) hw) (cIds_in (kP0 (hm.2.1)).2) (cePuzzle (kP0 (hm.2.1)).1) (ci := 2) rfl (bV wd422 wd423 wd424 wd9 wd425) rfl ⟨rfl, rfl⟩ ydX4_countBroken (rmK_le hR (by omega) (by decide)) (av := []) rfl rfl (Nat.le_of_ble_eq_true rfl) dX11_count_112 (rmK_cs hR (by omega) (by omega)) (fun r11 I12 R13 h14 m15 hw => ?_)
    refine q_wide (nc' := 1 * z) (ns' := 6 * z) (by omega) (by omega) ?_
    exact hret _ _ _ _ _ _ dX11_count_115 h14 m15 hw
  by_cases c7 : a1 = 7
  · have hw := hw.2.2.2.2.2.2.2.1 c7
    refine q_swIn F 7 ha1 116 dX11_count_1 (c7.trans (by decide)) (by decide) rfl (by decide) ?_
    refine q_aload_n F 0 dX11_count_116 rfl rfl ?_
    refine t_g_Mill_kept F (by decide) ib11 wd197 dX11_count_117 ?_
    refine t_g_Search_found F (kS0 (Or.inl rfl)) ib8 wd89 dX11_count_120 ?_
    refine q_wide (nc' := 1 * z) (ns' := 6 * z) (by omega) (by omega) ?_
    exact hret _ _ _ _ _ _ dX11_count_123 (hm.1 _ _) hm hw
  by_cases c8 : a1 = 8
  · have hw := hw.2.2.2.2.2.2.2.2.1 c8
    refine q_swIn F 8 ha1 124 dX11_count_1 (c8.trans (by decide)) (by decide) rfl (by decide) ?_
    refine q_aload_n F 0 dX11_count_124 rfl rfl ?_
    refine t_g_Mill_kept F (by decide) ib11 wd197 dX11_count_125 ?_
    refine t_g_Search_tries F (kS0 (Or.inl rfl)) ib8 wd91 dX11_count_128 ?_
    refine q_wide (nc' := 1 * z) (ns' := 6 * z) (by omega) (by omega) ?_
    exact hret _ _ _ _ _ _ dX11_count_131 (hm.1 _ _) hm hw
  by_cases c9 : a1 = 9
  · have hw := hw.2.2.2.2.2.2.2.2.2.1 c9
    refine q_swIn F 9 ha1 132 dX11_count_1 (c9.trans (by decide)) (by decide) rfl (by decide) ?_
    refine q_aload_n F 0 dX11_count_132 rfl rfl ?_
    refine t_g_Mill_tape F (by decide) ib11 wd194 dX11_count_133 ?_
    refine t_g_Tape_length F (by decide) ib9 wd40 dX11_count_136 ?_
    refine q_wide (nc' := 1 * z) (ns' := 6 * z) (by omega) (by omega) ?_
    exact hret _ _ _ _ _ _ dX11_count_139 (hm.1 _ _) hm hw
  by_cases c10 : a1 = 10
  · have hw := hw.2.2.2.2.2.2.2.2.2.2.1 c10
    refine q_swIn F 10 ha1 140 dX11_count_1 (c10.trans (by decide)) (by decide) rfl (by decide) ?_
    refine q_aload_n F 0 dX11_count_140 rfl rfl ?_
    refine t_g_Mill_paper F (by decide) ib11 wd196 dX11_count_141 ?_
    refine t_g_Paper_length F (by decide) ib3 wd76 dX11_count_144 ?_
    refine q_wide (nc' := 1 * z) (ns' := 6 * z) (by omega) (by omega) ?_
    exact hret _ _ _ _ _ _ dX11_count_147 (hm.1 _ _) hm hw
  have hw := hw.2.2.2.2.2.2.2.2.2.2.2 c0 c1 c2 c3 c4 c5 c6 c7 c8 c9 c10
  refine q_swOut F ha1 148 dX11_count_1 (by omega) (by decide) ?_
  exact q_thr2 F hX hR (by decide) hz 2 (by decide) wd459 rfl dX11_count_148 dX11_count_151 dX11_count_152 dX11_count_154 dX11_count_157 (fun hz1 => by omega) (fun hz1 => by omega) hm hw
theorem ydX11_requireRule : yX11_requireRule.cls = RX11 ∧ yX11_requireRule.cls ≠ "java/lang/invoke/MethodHandle" ∧ yX11_requireRule.cls ≠ "java/lang/invoke/VarHandle" ∧ (parseMethodDescriptor yX11_requireRule.desc).map (fun d => d.parameters.length) = some 1 := by decide +kernel
def vX11_requireRule : List Cond := Cond.code yX11_requireRule cX11_requireRule 2 none :: bG
set_option maxHeartbeats 4000000 in
set_option maxRecDepth 100000 in
theorem bX11_requireRule_15 {z : Nat} {X : xC} {E : cE} (F : mF X E RX11 cX11_requireRule bG) (hR : X.1.2.2.2 = rmK 7 (1 * z) (6 * z)) (hN : X.2.2.1.2.2.2 = 2) {Q : cI → cR → Prop} {Qx : Nat → cI → cR → Prop} (hret : rV X E cX11_requireRule (1 * z) (6 * z) Q) (hX : kXx X E cIds none (cef E) (pV Q) (pX Qx) (1 * z) (6 * z)) (hz : z = 1 ∨ ∀ k I R, ¬ Qx k I R) {a1 : Int} (ha1 : inR a1) : ∀ (I : cI) (R : cR), cM I R → wX11_requireRule_15 Q Qx a1 I R → cW X (0) (0) 15 [] [] (gw E.1 cIds (cef E (I, R)) ++ []) := by
  intro I R hm hw
  unfold wX11_requireRule_15 at hw
  exact q_thrW2 F hX hR (by decide) hz 13 (by decide) wd459 rfl dX11_requireRule_15 dX11_requireRule_18 dX11_requireRule_19 dX11_requireRule_22 dX11_requireRule_25 (fun hz1 => by omega) (fun hz1 => by omega) hm hw
set_option maxHeartbeats 4000000 in
set_option maxRecDepth 100000 in
theorem kcX11_requireRule {l : Launch} {D : va_G} {E : cE} (hfl : l.stackTraces = false) (z : Nat) {Qx : Nat → cI → cR → Prop} (hz : z = 1 ∨ ∀ k I R, ¬ Qx k I R) {a1 : Int} {I : cI} {R : cR} (hm : cM I R) (ha1 : inR a1) {Q : cI → cR → Prop} (hw : wX11_requireRule a1 I R Q Qx) : gMx l D E cIds yX11_requireRule vX11_requireRule (rmK 7 (1 * z) (6 * z)) [.ref (E.1 0), iV a1] (cef E (I, R)) (cef E) (pV Q) (pX Qx) (1 * z) (6 * z) := by
  unfold wX11_requireRule at hw
  refine k_ofWx hfl (own := RX11) (cc := cX11_requireRule) (maxL := 2) (ret := none) (lv := [(0, .ref (E.1 0)), (1, iV a1)]) (by decide) rfl rfl (Nat.le_of_ble_eq_true rfl) rfl ?_
  intro X hl hR hN hD F hX
  subst hl; subst hD
  have hret := mk_rVx (Q := Q) F hX
  refine q_iload_n F 1 dX11_requireRule_0 rfl rfl ?_
  refine q_if_lt F ha1 15 dX11_requireRule_1 (by decide) (fun hc => ?_) (fun hc => ?_)
  · have hw := hw.1 hc
    refine q_lv [] rfl ?_
    exact bX11_requireRule_15 F hR hN hret hX hz ha1 I R hm hw
  · have hw := hw.2 hc
    refine q_iload_n F 1 dX11_requireRule_4 rfl rfl ?_
    refine q_aload_n F 0 dX11_requireRule_5 rfl rfl ?_
    refine t_g_Mill_puzzle F (by decide) ib11 wd201 dX11_requireRule_6 ?_
    refine t_g_Puzzle_ruleCount F (kP0 (hm.2.1)) ib4 wd191 dX11_requireRule_9 ?_
    refine q_icmp_lt F ha1 (hm.1 _ _) 26 dX11_requireRule_12 (by decide) (fun hc => ?_) (fun hc => ?_)
    · have hw := hw.1 hc
      refine q_wide (nc' := 1 * z) (ns' := 6 * z) (by omega) (by omega) ?_
      exact hret _ _ _ _ _ dX11_requireRule_26 hm hw
    · have hw := hw.2 hc
      refine q_lv [] rfl ?_
      exact bX11_requireRule_15 F hR hN hret hX hz ha1 I R hm hw
theorem ydX7_cellOrNone : yX7_cellOrNone.cls = RX7 ∧ yX7_cellOrNone.cls ≠ "java/lang/invoke/MethodHandle" ∧ yX7_cellOrNone.cls ≠ "java/lang/invoke/VarHandle" ∧ (parseMethodDescriptor yX7_cellOrNone.desc).map (fun d => d.parameters.length) = some 1 := by decide +kernel
def vX7_cellOrNone : List Cond := Cond.code yX7_cellOrNone cX7_cellOrNone 2 (some .int) :: bG
set_option maxHeartbeats 4000000 in
set_option maxRecDepth 100000 in
theorem kcX7_cellOrNone {l : Launch} {D : va_G} {E : cE} {r0 : Nat} {a1 : Int} {I : cI} {R : cR} (hm : cM I R) (hr0 : isR r0) (ha1 : inR a1) {Q : Int → cI → cR → Prop} (hw : wX7_cellOrNone r0 a1 I R Q) : gM l D E cIds yX7_cellOrNone vX7_cellOrNone (rmK 1 (0) (0)) [.ref (E.1 r0), iV a1] (cef E (I, R)) (cef E) (pI Q) (0) (0) := by
  unfold wX7_cellOrNone at hw
  refine k_ofW (own := RX7) (cc := cX7_cellOrNone) (maxL := 2) (ret := (some .int)) (lv := [(0, .ref (E.1 r0)), (1, iV a1)]) (by decide) rfl rfl (Nat.le_of_ble_eq_true rfl) rfl ?_
  intro X hl hR hN hD F K
  subst hl; subst hD
  have hret := mk_rI (Q := Q) F K
  refine q_iload_n F 1 dX7_cellOrNone_0 rfl rfl ?_
  refine q_if_lt F ha1 21 dX7_cellOrNone_1 (by decide) (fun hc => ?_) (fun hc => ?_)
  · have hw := hw.1 hc
    refine q_iconst F dX7_cellOrNone_21 ?_
    exact hret _ _ _ _ _ _ dX7_cellOrNone_22 (⟨by decide, by decide⟩ : inR (-1)) hm hw
  · have hw := hw.2 hc
    refine q_iload_n F 1 dX7_cellOrNone_4 rfl rfl ?_
    refine q_aload_n F 0 dX7_cellOrNone_5 rfl rfl ?_
    refine t_g_Rule_size F (kR0 hr0) ib7 wd156 dX7_cellOrNone_6 ?_
    refine q_icmp_ge F ha1 (hm.1 _ _) 21 dX7_cellOrNone_9 (by decide) (fun hc => ?_) (fun hc => ?_)
    · have hw := hw.1 hc
      refine q_iconst F dX7_cellOrNone_21 ?_
      exact hret _ _ _ _ _ _ dX7_cellOrNone_22 (⟨by decide, by decide⟩ : inR (-1)) hm hw
    · have hw := hw.2 hc
      refine q_aload_n F 0 dX7_cellOrNone_12 rfl rfl ?_
      refine t_g_Rule_cells F (kR0 hr0) ib7 wd161 (r0 + 130) rfl dX7_cellOrNone_13 ?_
      refine q_iload_n F 1 dX7_cellOrNone_16 rfl rfl ?_
      obtain ⟨k1, hw⟩ := hw
      refine t_ald F 5 (kR4 hr0) k1 (by decide) dX7_cellOrNone_17 ?_
      refine q_goto F 22 dX7_cellOrNone_18 (by decide) ?_
      exact hret _ _ _ _ _ _ dX7_cellOrNone_22 (hm.1 _ _) hm hw
theorem ydX11_rule : yX11_rule.cls = RX11 ∧ yX11_rule.cls ≠ "java/lang/invoke/MethodHandle" ∧ yX11_rule.cls ≠ "java/lang/invoke/VarHandle" ∧ (parseMethodDescriptor yX11_rule.desc).map (fun d => d.parameters.length) = some 2 := by decide +kernel
def vX11_rule : List Cond := Cond.code yX11_rule cX11_rule 4 (some .int) :: bG
set_option maxHeartbeats 4000000 in
set_option maxRecDepth 100000 in
theorem kcX11_rule {l : Launch} {D : va_G} {E : cE} (hfl : l.stackTraces = false) (z : Nat) {Qx : Nat → cI → cR → Prop} (hz : z = 1 ∨ ∀ k I R, ¬ Qx k I R) {a1 : Int} {a2 : Int} {I : cI} {R : cR} (hm : cM I R) (ha1 : inR a1) (ha2 : inR a2) {Q : Int → cI → cR → Prop} (hw : wX11_rule a1 a2 I R Q Qx) : gMx l D E cIds yX11_rule vX11_rule (rmK 8 (2 * z) (12 * z)) [.ref (E.1 0), iV a1, iV a2] (cef E (I, R)) (cef E) (pI Q) (pX Qx) (2 * z) (12 * z) := by
  unfold wX11_rule at hw
  refine k_ofWx hfl (own := RX11) (cc := cX11_rule) (maxL := 4) (ret := (some .int)) (lv := [(0, .ref (E.1 0)), (1, iV a1), (2, iV a2)]) (by decide) rfl rfl (Nat.le_of_ble_eq_true rfl) rfl ?_
  intro X hl hR hN hD F hX
  subst hl; subst hD
  have hret := mk_rIx (Q := Q) F hX
  refine q_aload_n F 0 dX11_rule_0 rfl rfl ?_
  refine q_iload_n F 1 dX11_rule_1 rfl rfl ?_
  refine q_Vvx F hX (by omega) (by omega) (kcX11_requireRule hX.2.2.2.2 z hz hm ha1 hw) (cIds_in (show ckd 0 = 9 ∧ 0 < 353 by decide).2) (ceMill (show ckd 0 = 9 ∧ 0 < 353 by decide).1) (ci := 9) rfl (bV wd507 wd508 wd905 wd1 wd509) rfl ⟨rfl, rfl⟩ ydX11_requireRule (rmK_le hR (by omega) (by decide)) (av := [iV a1]) rfl rfl (Nat.le_of_ble_eq_true rfl) dX11_rule_2 (rmK_cs hR (by omega) (by omega)) (fun I2 R3 m5 hw => ?_)
  refine q_aload_n F 0 dX11_rule_5 rfl rfl ?_
  refine t_g_Mill_puzzle F (by decide) ib11 wd201 dX11_rule_6 ?_
  refine t_g_Puzzle_rules F (kP0 (m5.2.1)) ib4 wd187 ((R3 0 7) + 2) rfl dX11_rule_9 ?_
  refine q_iload_n F 1 dX11_rule_12 rfl rfl ?_
  obtain ⟨k6, hw⟩ := hw
  refine t_rld F (kP2 (m5.2.1)) k6 dX11_rule_13 ?_
  refine q_astore_n (lv' := [(0, .ref (E.1 0)), (1, iV a1), (2, iV a2), (3, .ref (E.1 ((R3 ((R3 0 7) + 2) a1))))]) F [1, 2, 3, 0] dX11_rule_14 rfl (q_n hN (by decide)) rfl ?_
  refine q_iload_n F 2 dX11_rule_15 rfl rfl ?_
  by_cases c0 : a2 = 0
  · have hw := hw.1 c0
    refine q_swIn F 0 ha2 72 dX11_rule_16 (c0.trans (by decide)) (by decide) rfl (by decide) ?_
    refine q_aload_n F 3 dX11_rule_72 rfl rfl ?_
    refine t_g_Rule_kind F (kR0 (m5.2.2.2.1 _ (m5.2.1) _ k6)) ib7 wd144 dX11_rule_73 ?_
    refine q_kNum F (m5.2.2.2.2 _ (m5.2.2.2.1 _ (m5.2.1) _ k6)) wd838 dX11_rule_76 ?_
    refine q_wide (nc' := 2 * z) (ns' := 12 * z) (by omega) (by omega) ?_
    exact hret _ _ _ _ _ _ dX11_rule_79 (kN_in (m5.2.2.2.2 _ (m5.2.2.2.1 _ (m5.2.1) _ k6))) m5 hw
  by_cases c1 : a2 = 1
  · have hw := hw.2.1 c1
    refine q_swIn F 1 ha2 80 dX11_rule_16 (c1.trans (by decide)) (by decide) rfl (by decide) ?_
    refine q_aload_n F 3 dX11_rule_80 rfl rfl ?_
    refine t_g_Rule_number F (kR0 (m5.2.2.2.1 _ (m5.2.1) _ k6)) ib7 wd149 dX11_rule_81 ?_
    refine q_wide (nc' := 2 * z) (ns' := 12 * z) (by omega) (by omega) ?_
    exact hret _ _ _ _ _ _ dX11_rule_84 (m5.1 _ _) m5 hw
  by_cases c2 : a2 = 2
  · have hw := hw.2.2.1 c2
    refine q_swIn F 2 ha2 85 dX11_rule_16 (c2.trans (by decide)) (by decide) rfl (by decide) ?_
    refine q_aload_n F 3 dX11_rule_85 rfl rfl ?_
    refine t_g_Rule_times F (kR0 (m5.2.2.2.1 _ (m5.2.1) _ k6)) ib7 wd154 dX11_rule_86 ?_
    refine q_wide (nc' := 2 * z) (ns' := 12 * z) (by omega) (by omega) ?_
    exact hret _ _ _ _ _ _ dX11_rule_89 (m5.1 _ _) m5 hw
  by_cases c3 : a2 = 3
  · have hw := hw.2.2.2.1 c3
    refine q_swIn F 3 ha2 90 dX11_rule_16 (c3.trans (by decide)) (by decide) rfl (by decide) ?_
    refine q_aload_n F 3 dX11_rule_90 rfl rfl ?_
    refine t_g_Rule_size F (kR0 (m5.2.2.2.1 _ (m5.2.1) _ k6)) ib7 wd159 dX11_rule_91 ?_
    refine q_wide (nc' := 2 * z) (ns' := 12 * z) (by omega) (by omega) ?_
    exact hret _ _ _ _ _ _ dX11_rule_94 (m5.1 _ _) m5 hw
  by_cases c4 : a2 = 4
  · have hw := hw.2.2.2.2.1 c4
    refine q_swIn F 4 ha2 95 dX11_rule_16 (c4.trans (by decide)) (by decide) rfl (by decide) ?_
    refine q_aload_n F 3 dX11_rule_95 rfl rfl ?_
    refine q_iload_n F 2 dX11_rule_96 rfl rfl ?_
    refine q_iconst F dX11_rule_97 ?_
    refine q_isub F dX11_rule_98 ?_
    obtain ⟨k7, hw⟩ := hw
    refine q_Vi F (kcX7_cellOrNone m5 (m5.2.2.2.1 _ (m5.2.1) _ k6) k7 hw) (cIds_in (kR0 (m5.2.2.2.1 _ (m5.2.1) _ k6)).2) (ceRule (kR0 (m5.2.2.2.1 _ (m5.2.1) _ k6)).1) (ci := 5) rfl (bV wd511 wd512 wd513 wd10 wd514) rfl ⟨rfl, rfl⟩ ydX7_cellOrNone (rmK_le hR (by omega) (by decide)) (av := [iV ((a2 - 4))]) rfl rfl (Nat.le_of_ble_eq_true rfl) dX11_rule_99 (rmK_cs hR (by omega) (by omega)) (fun r8 I9 R10 h11 m12 hw => ?_)
    refine q_wide (nc' := 2 * z) (ns' := 12 * z) (by omega) (by omega) ?_
    exact hret _ _ _ _ _ _ dX11_rule_102 h11 m12 hw
  by_cases c5 : a2 = 5
  · have hw := hw.2.2.2.2.2.1 c5
    refine q_swIn F 5 ha2 95 dX11_rule_16 (c5.trans (by decide)) (by decide) rfl (by decide) ?_
    refine q_aload_n F 3 dX11_rule_95 rfl rfl ?_
    refine q_iload_n F 2 dX11_rule_96 rfl rfl ?_
    refine q_iconst F dX11_rule_97 ?_
    refine q_isub F dX11_rule_98 ?_
    obtain ⟨k13, hw⟩ := hw
    refine q_Vi F (kcX7_cellOrNone m5 (m5.2.2.2.1 _ (m5.2.1) _ k6) k13 hw) (cIds_in (kR0 (m5.2.2.2.1 _ (m5.2.1) _ k6)).2) (ceRule (kR0 (m5.2.2.2.1 _ (m5.2.1) _ k6)).1) (ci := 5) rfl (bV wd511 wd512 wd513 wd10 wd514) rfl ⟨rfl, rfl⟩ ydX7_cellOrNone (rmK_le hR (by omega) (by decide)) (av := [iV ((a2 - 4))]) rfl rfl (Nat.le_of_ble_eq_true rfl) dX11_rule_99 (rmK_cs hR (by omega) (by omega)) (fun r14 I15 R16 h17 m18 hw => ?_)
    refine q_wide (nc' := 2 * z) (ns' := 12 * z) (by omega) (by omega) ?_
    exact hret _ _ _ _ _ _ dX11_rule_102 h17 m18 hw
  by_cases c6 : a2 = 6
  · have hw := hw.2.2.2.2.2.2.1 c6
    refine q_swIn F 6 ha2 95 dX11_rule_16 (c6.trans (by decide)) (by decide) rfl (by decide) ?_
    refine q_aload_n F 3 dX11_rule_95 rfl rfl ?_
    refine q_iload_n F 2 dX11_rule_96 rfl rfl ?_
    refine q_iconst F dX11_rule_97 ?_
    refine q_isub F dX11_rule_98 ?_
    obtain ⟨k19, hw⟩ := hw
    refine q_Vi F (kcX7_cellOrNone m5 (m5.2.2.2.1 _ (m5.2.1) _ k6) k19 hw) (cIds_in (kR0 (m5.2.2.2.1 _ (m5.2.1) _ k6)).2) (ceRule (kR0 (m5.2.2.2.1 _ (m5.2.1) _ k6)).1) (ci := 5) rfl (bV wd511 wd512 wd513 wd10 wd514) rfl ⟨rfl, rfl⟩ ydX7_cellOrNone (rmK_le hR (by omega) (by decide)) (av := [iV ((a2 - 4))]) rfl rfl (Nat.le_of_ble_eq_true rfl) dX11_rule_99 (rmK_cs hR (by omega) (by omega)) (fun r20 I21 R22 h23 m24 hw => ?_)
    refine q_wide (nc' := 2 * z) (ns' := 12 * z) (by omega) (by omega) ?_
    exact hret _ _ _ _ _ _ dX11_rule_102 h23 m24 hw
  by_cases c7 : a2 = 7
  · have hw := hw.2.2.2.2.2.2.2.1 c7
    refine q_swIn F 7 ha2 95 dX11_rule_16 (c7.trans (by decide)) (by decide) rfl (by decide) ?_
    refine q_aload_n F 3 dX11_rule_95 rfl rfl ?_
    refine q_iload_n F 2 dX11_rule_96 rfl rfl ?_
    refine q_iconst F dX11_rule_97 ?_
    refine q_isub F dX11_rule_98 ?_
    obtain ⟨k25, hw⟩ := hw
    refine q_Vi F (kcX7_cellOrNone m5 (m5.2.2.2.1 _ (m5.2.1) _ k6) k25 hw) (cIds_in (kR0 (m5.2.2.2.1 _ (m5.2.1) _ k6)).2) (ceRule (kR0 (m5.2.2.2.1 _ (m5.2.1) _ k6)).1) (ci := 5) rfl (bV wd511 wd512 wd513 wd10 wd514) rfl ⟨rfl, rfl⟩ ydX7_cellOrNone (rmK_le hR (by omega) (by decide)) (av := [iV ((a2 - 4))]) rfl rfl (Nat.le_of_ble_eq_true rfl) dX11_rule_99 (rmK_cs hR (by omega) (by omega)) (fun r26 I27 R28 h29 m30 hw => ?_)
    refine q_wide (nc' := 2 * z) (ns' := 12 * z) (by omega) (by omega) ?_
    exact hret _ _ _ _ _ _ dX11_rule_102 h29 m30 hw
  by_cases c8 : a2 = 8
  · have hw := hw.2.2.2.2.2.2.2.2.1 c8
    refine q_swIn F 8 ha2 95 dX11_rule_16 (c8.trans (by decide)) (by decide) rfl (by decide) ?_
    refine q_aload_n F 3 dX11_rule_95 rfl rfl ?_
    refine q_iload_n F 2 dX11_rule_96 rfl rfl ?_
    refine q_iconst F dX11_rule_97 ?_
    refine q_isub F dX11_rule_98 ?_
    obtain ⟨k31, hw⟩ := hw
    refine q_Vi F (kcX7_cellOrNone m5 (m5.2.2.2.1 _ (m5.2.1) _ k6) k31 hw) (cIds_in (kR0 (m5.2.2.2.1 _ (m5.2.1) _ k6)).2) (ceRule (kR0 (m5.2.2.2.1 _ (m5.2.1) _ k6)).1) (ci := 5) rfl (bV wd511 wd512 wd513 wd10 wd514) rfl ⟨rfl, rfl⟩ ydX7_cellOrNone (rmK_le hR (by omega) (by decide)) (av := [iV ((a2 - 4))]) rfl rfl (Nat.le_of_ble_eq_true rfl) dX11_rule_99 (rmK_cs hR (by omega) (by omega)) (fun r32 I33 R34 h35 m36 hw => ?_)
    refine q_wide (nc' := 2 * z) (ns' := 12 * z) (by omega) (by omega) ?_
    exact hret _ _ _ _ _ _ dX11_rule_102 h35 m36 hw
  by_cases c9 : a2 = 9
  · have hw := hw.2.2.2.2.2.2.2.2.2.1 c9
    refine q_swIn F 9 ha2 103 dX11_rule_16 (c9.trans (by decide)) (by decide) rfl (by decide) ?_
    refine q_aload_n F 3 dX11_rule_103 rfl rfl ?_
    refine q_aload_n F 0 dX11_rule_104 rfl rfl ?_
    refine t_g_Mill_puzzle F (by decide) ib11 wd201 dX11_rule_105 ?_
    refine t_g_Puzzle_grid F (kP0 (m5.2.1)) ib4 wd183 ((R3 0 7) + 1) rfl dX11_rule_108 ?_
    refine q_aload_n F 0 dX11_rule_111 rfl rfl ?_
    refine t_g_Mill_puzzle F (by decide) ib11 wd201 dX11_rule_112 ?_
    refine t_g_Puzzle_highest F (kP0 (m5.2.1)) ib4 wd178 dX11_rule_115 ?_
    refine q_Vi F (kcX7_isBroken m5 (m5.2.2.2.1 _ (m5.2.1) _ k6) (kP1 (m5.2.1)) (m5.1 _ _) hw) (cIds_in (kR0 (m5.2.2.2.1 _ (m5.2.1) _ k6)).2) (ceRule (kR0 (m5.2.2.2.1 _ (m5.2.1) _ k6)).1) (ci := 5) rfl (bV wd515 wd427 wd428 wd10 wd429) rfl ⟨rfl, rfl⟩ ydX7_isBroken (rmK_le hR (by omega) (by decide)) (av := [.ref (E.1 ((R3 0 7) + 1)), iV ((I2 ((R3 0 7)) 2))]) rfl rfl (Nat.le_of_ble_eq_true rfl) dX11_rule_118 (rmK_cs hR (by omega) (by omega)) (fun r37 I38 R39 h40 m41 hw => ?_)
    refine q_if_eq F h40 128 dX11_rule_121 (by decide) (fun hc => ?_) (fun hc => ?_)
    · have hw := hw.1 hc
      refine q_iconst F dX11_rule_128 ?_
      refine q_wide (nc' := 2 * z) (ns' := 12 * z) (by omega) (by omega) ?_
      exact hret _ _ _ _ _ _ dX11_rule_129 (⟨by decide, by decide⟩ : inR (0)) m41 hw
    · have hw := hw.2 hc
      refine q_iconst F dX11_rule_124 ?_
      refine q_goto F 129 dX11_rule_125 (by decide) ?_
      refine q_wide (nc' := 2 * z) (ns' := 12 * z) (by omega) (by omega) ?_
      exact hret _ _ _ _ _ _ dX11_rule_129 (⟨by decide, by decide⟩ : inR (1)) m41 hw
  have hw := hw.2.2.2.2.2.2.2.2.2.2 c0 c1 c2 c3 c4 c5 c6 c7 c8 c9
  refine q_swOut F ha2 130 dX11_rule_16 (by omega) (by decide) ?_
  exact q_thr2 F hX hR (by decide) hz 3 (by decide) wd459 rfl dX11_rule_130 dX11_rule_133 dX11_rule_134 dX11_rule_136 dX11_rule_139 (fun hz1 => by omega) (fun hz1 => by omega) m5 hw
theorem ydX4_removeRule : yX4_removeRule.cls = RX4 ∧ yX4_removeRule.cls ≠ "java/lang/invoke/MethodHandle" ∧ yX4_removeRule.cls ≠ "java/lang/invoke/VarHandle" ∧ (parseMethodDescriptor yX4_removeRule.desc).map (fun d => d.parameters.length) = some 1 := by decide +kernel
def vX4_removeRule : List Cond := Cond.code yX4_removeRule cX4_removeRule 4 none :: bG
set_option maxHeartbeats 4000000 in
set_option maxRecDepth 100000 in
theorem bX4_removeRule_19 {X : xC} {E : cE} (F : mF X E RX4 cX4_removeRule bG) (hR : X.1.2.2.2 = rmK 1 (0) (0)) (hN : X.2.2.1.2.2.2 = 4) {Q : cI → cR → Prop} (hret : rV X E cX4_removeRule (0) (0) Q) {p : Nat} {a1 : Int} (hp : isP p) (ha1 : inR a1) : ∀ n19 : Nat, ∀ (x2 : Nat) (x3 : Int) (I : cI) (R : cR), isR x2 → inR x3 → cM I R → wX4_removeRule_19 Q p a1 n19 x2 x3 I R → cW X (0) (0) 19 [(0, .ref (E.1 p)), (2, .ref (E.1 x2)), (3, iV x3)] [] (gw E.1 cIds (cef E (I, R)) ++ []) := by
  intro n19
  induction n19 with
  | zero => intro x2 x3 I R hx2 hx3 hm hw; exact hw.elim
  | succ n19 ih =>
    intro x2 x3 I R hx2 hx3 hm hw
    change wbX4_removeRule_19 Q p a1 (wX4_removeRule_19 Q p a1 n19) x2 x3 I R at hw
    unfold wbX4_removeRule_19 at hw
    refine q_iload_n F 2 dX4_removeRule_19 rfl rfl ?_
    refine q_aload_n F 0 dX4_removeRule_20 rfl rfl ?_
    refine t_g_Puzzle_ruleCount F (kP0 hp) ib4 wd188 dX4_removeRule_21 ?_
    refine q_icmp_ge F hx3 (hm.1 _ _) 47 dX4_removeRule_24 (by decide) (fun hc => ?_) (fun hc => ?_)
    · have hw := hw.1 hc
      refine q_aload_n F 0 dX4_removeRule_47 rfl rfl ?_
      refine t_g_Puzzle_rules F (kP0 hp) ib4 wd184 (p + 2) rfl dX4_removeRule_48 ?_
      refine q_aload_n F 0 dX4_removeRule_51 rfl rfl ?_
      refine t_g_Puzzle_ruleCount F (kP0 hp) ib4 wd188 dX4_removeRule_52 ?_
      refine q_aload_n F 1 dX4_removeRule_55 rfl rfl ?_
      obtain ⟨k1, hw⟩ := hw
      obtain ⟨R2, e3⟩ := ex1 (up2 R (p + 2) ((I p 5)) x2)
      have hw := hw R2 e3
      have m4 : cM I R2 := cM_rules hm hp hx2 e3
      refine t_rst F (kP2 hp) k1 hx2 e3 dX4_removeRule_56 ?_
      exact hret _ _ _ _ _ dX4_removeRule_57 m4 hw
    · have hw := hw.2 hc
      refine q_aload_n F 0 dX4_removeRule_27 rfl rfl ?_
      refine t_g_Puzzle_rules F (kP0 hp) ib4 wd184 (p + 2) rfl dX4_removeRule_28 ?_
      refine q_iload_n F 2 dX4_removeRule_31 rfl rfl ?_
      refine q_aload_n F 0 dX4_removeRule_32 rfl rfl ?_
      refine t_g_Puzzle_rules F (kP0 hp) ib4 wd184 (p + 2) rfl dX4_removeRule_33 ?_
      refine q_iload_n F 2 dX4_removeRule_36 rfl rfl ?_
      refine q_iconst F dX4_removeRule_37 ?_
      refine q_iadd F dX4_removeRule_38 ?_
      obtain ⟨k5, hw⟩ := hw
      refine t_rld F (kP2 hp) k5 dX4_removeRule_39 ?_
      obtain ⟨k6, hw⟩ := hw
      obtain ⟨R7, e8⟩ := ex1 (up2 R (p + 2) x3 ((R (p + 2) ((x3 + 1)))))
      have hw := hw R7 e8
      have m9 : cM I R7 := cM_rules hm hp (hm.2.2.2.1 _ hp _ k5) e8
      refine t_rst F (kP2 hp) k6 (hm.2.2.2.1 _ hp _ k5) e8 dX4_removeRule_40 ?_
      obtain ⟨k12, hw⟩ := hw
      obtain ⟨z10, e11⟩ := ex1 (x3 + 1)
      have hw := hw z10 e11
      have hz10 : inR z10 := by rw [e11]; exact k12
      refine q_iinc (lv' := [(0, .ref (E.1 p)), (2, .ref (E.1 x2)), (3, iV z10)]) F 2 [1, 2, 0] dX4_removeRule_41 rfl (q_n hN (by decide)) e11.symm rfl ?_
      refine q_goto F 19 dX4_removeRule_44 (by decide) ?_
      exact ih x2 z10 I R7 hx2 hz10 m9 hw
set_option maxHeartbeats 4000000 in
set_option maxRecDepth 100000 in
theorem kcX4_removeRule {l : Launch} {D : va_G} {E : cE} {p : Nat} {a1 : Int} {I : cI} {R : cR} (hm : cM I R) (hp : isP p) (ha1 : inR a1) {Q : cI → cR → Prop} (hw : wX4_removeRule p a1 I R Q) : gM l D E cIds yX4_removeRule vX4_removeRule (rmK 1 (0) (0)) [.ref (E.1 p), iV a1] (cef E (I, R)) (cef E) (pV Q) (0) (0) := by
  unfold wX4_removeRule at hw
  refine k_ofW (own := RX4) (cc := cX4_removeRule) (maxL := 4) (ret := none) (lv := [(0, .ref (E.1 p)), (1, iV a1)]) (by decide) rfl rfl (Nat.le_of_ble_eq_true rfl) rfl ?_
  intro X hl hR hN hD F K
  subst hl; subst hD
  have hret := mk_rV (Q := Q) F K
  refine q_aload_n F 0 dX4_removeRule_0 rfl rfl ?_
  refine t_g_Puzzle_rules F (kP0 hp) ib4 wd184 (p + 2) rfl dX4_removeRule_1 ?_
  refine q_iload_n F 1 dX4_removeRule_4 rfl rfl ?_
  obtain ⟨k1, hw⟩ := hw
  refine t_rld F (kP2 hp) k1 dX4_removeRule_5 ?_
  refine q_astore_n (lv' := [(0, .ref (E.1 p)), (1, iV a1), (2, .ref (E.1 ((R (p + 2) a1))))]) F [1, 2, 0] dX4_removeRule_6 rfl (q_n hN (by decide)) rfl ?_
  refine q_aload_n F 0 dX4_removeRule_7 rfl rfl ?_
  refine q_dup F dX4_removeRule_8 rfl ?_
  refine t_g_Puzzle_ruleCount F (kP0 hp) ib4 wd188 dX4_removeRule_9 ?_
  refine q_iconst F dX4_removeRule_12 ?_
  refine q_isub F dX4_removeRule_13 ?_
  obtain ⟨k2, hw⟩ := hw
  obtain ⟨I3, e4⟩ := ex1 (up2 I p 5 (((I p 5) - 1)))
  have hw := hw I3 e4
  have m5 : cM I3 R := cM_I hm e4 k2
  refine t_p_Puzzle_ruleCount F (kP0 hp) ib4 wd188 e4 dX4_removeRule_14 ?_
  refine q_iload_n F 1 dX4_removeRule_17 rfl rfl ?_
  refine q_istore_n (lv' := [(0, .ref (E.1 p)), (1, iV a1), (2, .ref (E.1 ((R (p + 2) a1)))), (3, iV a1)]) F [1, 2, 3, 0] dX4_removeRule_18 rfl (q_n hN (by decide)) rfl ?_
  refine q_lv [0, 2, 3] rfl ?_
  obtain ⟨n6, hw⟩ := hw
  exact bX4_removeRule_19 F hR hN hret hp ha1 n6 ((R (p + 2) a1)) a1 I3 R (hm.2.2.2.1 _ hp _ k1) ha1 m5 hw
theorem ydX11_drop : yX11_drop.cls = RX11 ∧ yX11_drop.cls ≠ "java/lang/invoke/MethodHandle" ∧ yX11_drop.cls ≠ "java/lang/invoke/VarHandle" ∧ (parseMethodDescriptor yX11_drop.desc).map (fun d => d.parameters.length) = some 1 := by decide +kernel
def vX11_drop : List Cond := Cond.code yX11_drop cX11_drop 2 (some .int) :: bG
set_option maxHeartbeats 4000000 in
set_option maxRecDepth 100000 in
theorem kcX11_drop {l : Launch} {D : va_G} {E : cE} (hfl : l.stackTraces = false) (z : Nat) {Qx : Nat → cI → cR → Prop} (hz : z = 1 ∨ ∀ k I R, ¬ Qx k I R) {a1 : Int} {I : cI} {R : cR} (hm : cM I R) (ha1 : inR a1) {Q : Int → cI → cR → Prop} (hw : wX11_drop a1 I R Q Qx) : gMx l D E cIds yX11_drop vX11_drop (rmK 8 (1 * z) (6 * z)) [.ref (E.1 0), iV a1] (cef E (I, R)) (cef E) (pI Q) (pX Qx) (1 * z) (6 * z) := by
  unfold wX11_drop at hw
  refine k_ofWx hfl (own := RX11) (cc := cX11_drop) (maxL := 2) (ret := (some .int)) (lv := [(0, .ref (E.1 0)), (1, iV a1)]) (by decide) rfl rfl (Nat.le_of_ble_eq_true rfl) rfl ?_
  intro X hl hR hN hD F hX
  subst hl; subst hD
  have hret := mk_rIx (Q := Q) F hX
  refine q_aload_n F 0 dX11_drop_0 rfl rfl ?_
  refine q_iload_n F 1 dX11_drop_1 rfl rfl ?_
  refine q_Vvx F hX (by omega) (by omega) (kcX11_requireRule hX.2.2.2.2 z hz hm ha1 hw) (cIds_in (show ckd 0 = 9 ∧ 0 < 353 by decide).2) (ceMill (show ckd 0 = 9 ∧ 0 < 353 by decide).1) (ci := 9) rfl (bV wd507 wd508 wd905 wd1 wd509) rfl ⟨rfl, rfl⟩ ydX11_requireRule (rmK_le hR (by omega) (by decide)) (av := [iV a1]) rfl rfl (Nat.le_of_ble_eq_true rfl) dX11_drop_2 (rmK_cs hR (by omega) (by omega)) (fun I2 R3 m5 hw => ?_)
  refine q_aload_n F 0 dX11_drop_5 rfl rfl ?_
  refine t_g_Mill_puzzle F (by decide) ib11 wd201 dX11_drop_6 ?_
  refine q_iload_n F 1 dX11_drop_9 rfl rfl ?_
  refine q_Vv F (kcX4_removeRule m5 (m5.2.1) ha1 hw) (cIds_in (kP0 (m5.2.1)).2) (cePuzzle (kP0 (m5.2.1)).1) (ci := 2) rfl (bV wd521 wd522 wd523 wd9 wd524) rfl ⟨rfl, rfl⟩ ydX4_removeRule (rmK_le hR (by omega) (by decide)) (av := [iV a1]) rfl rfl (Nat.le_of_ble_eq_true rfl) dX11_drop_10 (rmK_cs hR (by omega) (by omega)) (fun I7 R8 m10 hw => ?_)
  refine q_aload_n F 0 dX11_drop_13 rfl rfl ?_
  refine t_g_Mill_puzzle F (by decide) ib11 wd201 dX11_drop_14 ?_
  refine t_g_Puzzle_ruleCount F (kP0 (m10.2.1)) ib4 wd191 dX11_drop_17 ?_
  refine q_wide (nc' := 1 * z) (ns' := 6 * z) (by omega) (by omega) ?_
  exact hret _ _ _ _ _ _ dX11_drop_20 (m10.1 _ _) m10 hw
theorem ydX4_isThere : yX4_isThere.cls = RX4 ∧ yX4_isThere.cls ≠ "java/lang/invoke/MethodHandle" ∧ yX4_isThere.cls ≠ "java/lang/invoke/VarHandle" ∧ (parseMethodDescriptor yX4_isThere.desc).map (fun d => d.parameters.length) = some 0 := by decide +kernel
def vX4_isThere : List Cond := Cond.code yX4_isThere cX4_isThere 1 (some .boolean) :: bG
set_option maxHeartbeats 4000000 in
set_option maxRecDepth 100000 in
theorem kcX4_isThere {l : Launch} {D : va_G} {E : cE} {p : Nat} {I : cI} {R : cR} (hm : cM I R) (hp : isP p) {Q : Int → cI → cR → Prop} (hw : wX4_isThere p I R Q) : gM l D E cIds yX4_isThere vX4_isThere (rmK 1 (0) (0)) [.ref (E.1 p)] (cef E (I, R)) (cef E) (pI Q) (0) (0) := by
  unfold wX4_isThere at hw
  refine k_ofW (own := RX4) (cc := cX4_isThere) (maxL := 1) (ret := (some .boolean)) (lv := [(0, .ref (E.1 p))]) (by decide) rfl rfl (Nat.le_of_ble_eq_true rfl) rfl ?_
  intro X hl hR hN hD F K
  subst hl; subst hD
  have hret := mk_rZ (Q := Q) F K
  refine q_aload_n F 0 dX4_isThere_0 rfl rfl ?_
  refine t_g_Puzzle_columns F (kP0 hp) ib4 wd165 dX4_isThere_1 ?_
  refine q_if_le F (hm.1 _ _) 11 dX4_isThere_4 (by decide) (fun hc => ?_) (fun hc => ?_)
  · have hw := hw.1 hc
    refine q_iconst F dX4_isThere_11 ?_
    exact hret _ _ _ _ _ _ dX4_isThere_12 (Or.inl rfl) (⟨by decide, by decide⟩ : inR (0)) hm hw
  · have hw := hw.2 hc
    refine q_iconst F dX4_isThere_7 ?_
    refine q_goto F 12 dX4_isThere_8 (by decide) ?_
    exact hret _ _ _ _ _ _ dX4_isThere_12 (Or.inr rfl) (⟨by decide, by decide⟩ : inR (1)) hm hw
theorem ydX11_requirePuzzle : yX11_requirePuzzle.cls = RX11 ∧ yX11_requirePuzzle.cls ≠ "java/lang/invoke/MethodHandle" ∧ yX11_requirePuzzle.cls ≠ "java/lang/invoke/VarHandle" ∧ (parseMethodDescriptor yX11_requirePuzzle.desc).map (fun d => d.parameters.length) = some 0 := by decide +kernel
def vX11_requirePuzzle : List Cond := Cond.code yX11_requirePuzzle cX11_requirePuzzle 1 none :: bG
set_option maxHeartbeats 4000000 in
set_option maxRecDepth 100000 in
theorem kcX11_requirePuzzle {l : Launch} {D : va_G} {E : cE} (hfl : l.stackTraces = false) (z : Nat) {Qx : Nat → cI → cR → Prop} (hz : z = 1 ∨ ∀ k I R, ¬ Qx k I R) {I : cI} {R : cR} (hm : cM I R)  {Q : cI → cR → Prop} (hw : wX11_requirePuzzle  I R Q Qx) : gMx l D E cIds yX11_requirePuzzle vX11_requirePuzzle (rmK 7 (1 * z) (6 * z)) [.ref (E.1 0)] (cef E (I, R)) (cef E) (pV Q) (pX Qx) (1 * z) (6 * z) := by
  unfold wX11_requirePuzzle at hw
  refine k_ofWx hfl (own := RX11) (cc := cX11_requirePuzzle) (maxL := 1) (ret := none) (lv := [(0, .ref (E.1 0))]) (by decide) rfl rfl (Nat.le_of_ble_eq_true rfl) rfl ?_
  intro X hl hR hN hD F hX
  subst hl; subst hD
  have hret := mk_rVx (Q := Q) F hX
  refine q_aload_n F 0 dX11_requirePuzzle_0 rfl rfl ?_
  refine t_g_Mill_puzzle F (by decide) ib11 wd201 dX11_requirePuzzle_1 ?_
  refine q_Vi F (kcX4_isThere hm (hm.2.1) hw) (cIds_in (kP0 (hm.2.1)).2) (cePuzzle (kP0 (hm.2.1)).1) (ci := 2) rfl (bV wd532 wd533 wd534 wd9 wd535) rfl ⟨rfl, rfl⟩ ydX4_isThere (rmK_le hR (by omega) (by decide)) (av := []) rfl rfl (Nat.le_of_ble_eq_true rfl) dX11_requirePuzzle_4 (rmK_cs hR (by omega) (by omega)) (fun r1 I2 R3 h4 m5 hw => ?_)
  refine q_if_ne F h4 21 dX11_requirePuzzle_7 (by decide) (fun hc => ?_) (fun hc => ?_)
  · have hw := hw.1 hc
    refine q_wide (nc' := 1 * z) (ns' := 6 * z) (by omega) (by omega) ?_
    exact hret _ _ _ _ _ dX11_requirePuzzle_21 m5 hw
  · have hw := hw.2 hc
    exact q_thrW0 F hX hR (by decide) hz 12 (by decide) wd536 rfl dX11_requirePuzzle_10 dX11_requirePuzzle_13 dX11_requirePuzzle_14 dX11_requirePuzzle_17 dX11_requirePuzzle_20 (fun hz1 => by omega) (fun hz1 => by omega) m5 hw
theorem ydX3_add : yX3_add.cls = RX3 ∧ yX3_add.cls ≠ "java/lang/invoke/MethodHandle" ∧ yX3_add.cls ≠ "java/lang/invoke/VarHandle" ∧ (parseMethodDescriptor yX3_add.desc).map (fun d => d.parameters.length) = some 1 := by decide +kernel
def vX3_add : List Cond := Cond.code yX3_add cX3_add 2 none :: bG
set_option maxHeartbeats 4000000 in
set_option maxRecDepth 100000 in
theorem kcX3_add {l : Launch} {D : va_G} {E : cE} {a1 : Int} {I : cI} {R : cR} (hm : cM I R) (ha1 : inR a1) {Q : cI → cR → Prop} (hw : wX3_add a1 I R Q) : gM l D E cIds yX3_add vX3_add (rmK 1 (0) (0)) [.ref (E.1 8), iV a1] (cef E (I, R)) (cef E) (pV Q) (0) (0) := by
  unfold wX3_add at hw
  refine k_ofW (own := RX3) (cc := cX3_add) (maxL := 2) (ret := none) (lv := [(0, .ref (E.1 8)), (1, iV a1)]) (by decide) rfl rfl (Nat.le_of_ble_eq_true rfl) rfl ?_
  intro X hl hR hN hD F K
  subst hl; subst hD
  have hret := mk_rV (Q := Q) F K
  refine q_aload_n F 0 dX3_add_0 rfl rfl ?_
  refine t_g_Paper_length F (by decide) ib3 wd75 dX3_add_1 ?_
  refine q_aload_n F 0 dX3_add_4 rfl rfl ?_
  refine t_g_Paper_bytes F (by decide) ib3 wd73 9 rfl dX3_add_5 ?_
  refine t_alen F 1980 kA_9 dX3_add_8 ?_
  refine q_icmp_ge F (hm.1 _ _) (⟨by decide, by decide⟩ : inR (1980)) 32 dX3_add_9 (by decide) (fun hc => ?_) (fun hc => ?_)
  · have hw := hw.1 hc
    exact hret _ _ _ _ _ dX3_add_32 hm hw
  · have hw := hw.2 hc
    refine q_aload_n F 0 dX3_add_12 rfl rfl ?_
    refine t_g_Paper_bytes F (by decide) ib3 wd73 9 rfl dX3_add_13 ?_
    refine q_aload_n F 0 dX3_add_16 rfl rfl ?_
    refine t_g_Paper_length F (by decide) ib3 wd75 dX3_add_17 ?_
    refine q_iload_n F 1 dX3_add_20 rfl rfl ?_
    obtain ⟨k1, hw⟩ := hw
    obtain ⟨I2, e3⟩ := ex1 (up2 I 9 ((I 8 1)) a1)
    have hw := hw I2 e3
    have m4 : cM I2 R := cM_I hm e3 ha1
    refine t_ast F 1980 kA_9 k1 (by decide) e3 dX3_add_21 ?_
    refine q_aload_n F 0 dX3_add_22 rfl rfl ?_
    refine q_dup F dX3_add_23 rfl ?_
    refine t_g_Paper_length F (by decide) ib3 wd75 dX3_add_24 ?_
    refine q_iconst F dX3_add_27 ?_
    refine q_iadd F dX3_add_28 ?_
    obtain ⟨k5, hw⟩ := hw
    obtain ⟨I6, e7⟩ := ex1 (up2 I2 8 1 (((I2 8 1) + 1)))
    have hw := hw I6 e7
    have m8 : cM I6 R := cM_I m4 e7 k5
    refine t_p_Paper_length F (by decide) ib3 wd75 e7 dX3_add_29 ?_
    exact hret _ _ _ _ _ dX3_add_32 m8 hw
theorem ydX3_addWord : yX3_addWord.cls = RX3 ∧ yX3_addWord.cls ≠ "java/lang/invoke/MethodHandle" ∧ yX3_addWord.cls ≠ "java/lang/invoke/VarHandle" ∧ (parseMethodDescriptor yX3_addWord.desc).map (fun d => d.parameters.length) = some 1 := by decide +kernel
def vX3_addWord : List Cond := Cond.code yX3_addWord cX3_addWord 3 none :: bG
set_option maxHeartbeats 4000000 in
set_option maxRecDepth 100000 in
theorem bX3_addWord_2 {X : xC} {E : cE} (F : mF X E RX3 cX3_addWord bG) (hR : X.1.2.2.2 = rmK 5 (0) (0)) (hN : X.2.2.1.2.2.2 = 3) {Q : cI → cR → Prop} (hret : rV X E cX3_addWord (0) (0) Q) {a1 : Nat} (ha1 : a1 < 33) : ∀ n2 : Nat, ∀ (x2 : Int) (I : cI) (R : cR), inR x2 → cM I R → wX3_addWord_2 Q a1 n2 x2 I R → cW X (0) (0) 2 [(0, .ref (E.1 8)), (1, .ref (E.2.1 1 a1)), (2, iV x2)] [] (gw E.1 cIds (cef E (I, R)) ++ []) := by
  intro n2
  induction n2 with
  | zero => intro x2 I R hx2 hm hw; exact hw.elim
  | succ n2 ih =>
    intro x2 I R hx2 hm hw
    change wbX3_addWord_2 Q a1 (wX3_addWord_2 Q a1 n2) x2 I R at hw
    unfold wbX3_addWord_2 at hw
    refine q_iload_n F 2 dX3_addWord_2 rfl rfl ?_
    refine q_aload_n F 1 dX3_addWord_3 rfl rfl ?_
    refine q_slen F hR (by omega) ha1 wd553 dX3_addWord_4 (Nat.le_of_ble_eq_true rfl) ?_
    refine q_icmp_ge F hx2 (txN_in ha1) 25 dX3_addWord_7 (by decide) (fun hc => ?_) (fun hc => ?_)
    · have hw := hw.1 hc
      exact hret _ _ _ _ _ dX3_addWord_25 hm hw
    · have hw := hw.2 hc
      refine q_aload_n F 0 dX3_addWord_10 rfl rfl ?_
      refine q_aload_n F 1 dX3_addWord_11 rfl rfl ?_
      refine q_iload_n F 2 dX3_addWord_12 rfl rfl ?_
      obtain ⟨k1, hw⟩ := hw
      refine q_sch F hR (by omega) ha1 k1 wd554 dX3_addWord_13 (Nat.le_of_ble_eq_true rfl) ?_
      refine q_Vv F (kcX3_add hm (txC_in _ _) hw) (cIds_in (show ckd 8 = 1 ∧ 8 < 353 by decide).2) (cePaper (show ckd 8 = 1 ∧ 8 < 353 by decide).1) (ci := 1) rfl (bV wd555 wd556 wd908 wd5 wd557) rfl ⟨rfl, rfl⟩ ydX3_add (rmK_le hR (by omega) (by decide)) (av := [iV ((txC a1 x2))]) rfl rfl (Nat.le_of_ble_eq_true rfl) dX3_addWord_16 (rmK_cs hR (by omega) (by omega)) (fun I3 R4 m6 hw => ?_)
      obtain ⟨k9, hw⟩ := hw
      obtain ⟨z7, e8⟩ := ex1 (x2 + 1)
      have hw := hw z7 e8
      have hz7 : inR z7 := by rw [e8]; exact k9
      refine q_iinc (lv' := [(0, .ref (E.1 8)), (1, .ref (E.2.1 1 a1)), (2, iV z7)]) F 2 [1, 2, 0] dX3_addWord_19 rfl (q_n hN (by decide)) e8.symm rfl ?_
      refine q_goto F 2 dX3_addWord_22 (by decide) ?_
      exact ih z7 I3 R4 hz7 m6 hw
set_option maxHeartbeats 4000000 in
set_option maxRecDepth 100000 in
theorem kcX3_addWord {l : Launch} {D : va_G} {E : cE} {a1 : Nat} {I : cI} {R : cR} (hm : cM I R) (ha1 : a1 < 33) {Q : cI → cR → Prop} (hw : wX3_addWord a1 I R Q) : gM l D E cIds yX3_addWord vX3_addWord (rmK 5 (0) (0)) [.ref (E.1 8), .ref (E.2.1 1 a1)] (cef E (I, R)) (cef E) (pV Q) (0) (0) := by
  unfold wX3_addWord at hw
  refine k_ofW (own := RX3) (cc := cX3_addWord) (maxL := 3) (ret := none) (lv := [(0, .ref (E.1 8)), (1, .ref (E.2.1 1 a1))]) (by decide) rfl rfl (Nat.le_of_ble_eq_true rfl) rfl ?_
  intro X hl hR hN hD F K
  subst hl; subst hD
  have hret := mk_rV (Q := Q) F K
  refine q_iconst F dX3_addWord_0 ?_
  refine q_istore_n (lv' := [(0, .ref (E.1 8)), (1, .ref (E.2.1 1 a1)), (2, iV 0)]) F [1, 2, 0] dX3_addWord_1 rfl (q_n hN (by decide)) rfl ?_
  obtain ⟨n1, hw⟩ := hw
  exact bX3_addWord_2 F hR hN hret ha1 n1 0 I R (⟨by decide, by decide⟩ : inR (0)) hm hw
