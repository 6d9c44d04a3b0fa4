/-! ===== walks: X2_draw, X8_findsOneFrom, X4_addGiven, X2_giveAll, X7_isGivenOf, X4_findGiven, X2_dropGivens, X11_make, X7_moveCells, X4_becomeMoved, X11_change, X11_digest ===== -/
theorem ydX2_draw : yX2_draw.cls = RX2 ∧ yX2_draw.cls ≠ "java/lang/invoke/MethodHandle" ∧ yX2_draw.cls ≠ "java/lang/invoke/VarHandle" ∧ (parseMethodDescriptor yX2_draw.desc).map (fun d => d.parameters.length) = some 0 := by decide +kernel
def vX2_draw : List Cond := Cond.code yX2_draw cX2_draw 1 (some .int) :: bG
set_option maxHeartbeats 4000000 in
set_option maxRecDepth 100000 in
theorem kcX2_draw {l : Launch} {D : va_G} {E : cE} {I : cI} {R : cR} (hm : cM I R)  {Q : Int → cI → cR → Prop} (hw : wX2_draw  I R Q) : gM l D E cIds yX2_draw vX2_draw (rmK 1 (0) (0)) [.ref (E.1 83)] (cef E (I, R)) (cef E) (pI Q) (0) (0) := by
  unfold wX2_draw at hw
  refine k_ofW (own := RX2) (cc := cX2_draw) (maxL := 1) (ret := (some .int)) (lv := [(0, .ref (E.1 83))]) (by decide) rfl rfl (Nat.le_of_ble_eq_true rfl) rfl ?_
  intro X hl hR hN hD F K
  subst hl; subst hD
  have hret := mk_rI (Q := Q) F K
  refine q_aload_n F 0 dX2_draw_0 rfl rfl ?_
  refine q_aload_n F 0 dX2_draw_1 rfl rfl ?_
  refine t_g_Maker_seed F (by decide) ib2 wd126 dX2_draw_2 ?_
  refine q_sipush F dX2_draw_5 (by decide) ?_
  refine q_imul F dX2_draw_8 ?_
  refine q_sipush F dX2_draw_9 (by decide) ?_
  refine q_iadd F dX2_draw_12 ?_
  refine q_ldc F (n := 65536) (show Cond.constant RX2 61 (Int32.ofInt 65536) ∈ bG by rw [show Int32.ofInt 65536 = 65536 by decide]; exact wd732) dX2_draw_13 ?_
  obtain ⟨k1, hw⟩ := hw
  obtain ⟨k2, hw⟩ := hw
  refine q_irem F ⟨⟨k2, (k1).2⟩, by decide, by decide⟩ dX2_draw_15 ?_
  obtain ⟨k3, hw⟩ := hw
  obtain ⟨I4, e5⟩ := ex1 (up2 I 83 1 (((((I 83 1) * 1103) + 12345) % 65536)))
  have hw := hw I4 e5
  have m6 : cM I4 R := cM_I hm e5 k3
  refine t_p_Maker_seed F (by decide) ib2 wd126 e5 dX2_draw_16 ?_
  refine q_aload_n F 0 dX2_draw_19 rfl rfl ?_
  refine t_g_Maker_seed F (by decide) ib2 wd126 dX2_draw_20 ?_
  refine q_bipush F dX2_draw_23 (by decide) ?_
  obtain ⟨k7, hw⟩ := hw
  refine q_idiv F ⟨⟨k7, ((m6.1 _ _)).2⟩, by decide, by decide⟩ dX2_draw_25 ?_
  obtain ⟨k8, hw⟩ := hw
  exact hret _ _ _ _ _ _ dX2_draw_26 k8 m6 hw
theorem ydX8_findsOneFrom : yX8_findsOneFrom.cls = RX8 ∧ yX8_findsOneFrom.cls ≠ "java/lang/invoke/MethodHandle" ∧ yX8_findsOneFrom.cls ≠ "java/lang/invoke/VarHandle" ∧ (parseMethodDescriptor yX8_findsOneFrom.desc).map (fun d => d.parameters.length) = some 2 := by decide +kernel
def vX8_findsOneFrom : List Cond := Cond.code yX8_findsOneFrom cX8_findsOneFrom 4 (some .boolean) :: bG
set_option maxHeartbeats 4000000 in
set_option maxRecDepth 100000 in
theorem bX8_findsOneFrom_8 {X : xC} {E : cE} (F : mF X E RX8 cX8_findsOneFrom bG) (hR : X.1.2.2.2 = rmK 31 (0) (0)) (hN : X.2.2.1.2.2.2 = 4) {Q : Int → cI → cR → Prop} (hret : rZ X E cX8_findsOneFrom (0) (0) Q) {s0 : Nat} {a1 : Nat} {a2 : Nat} (hs0 : isS s0) (ha1 : isP a1) (ha2 : isA 25 a2) : ∀ n8 : Nat, ∀ (x3 : Int) (I : cI) (R : cR), inR x3 → cM I R → wX8_findsOneFrom_8 Q s0 a1 a2 n8 x3 I R → cW X (0) (0) 8 [(0, .ref (E.1 s0)), (1, .ref (E.1 a1)), (2, .ref (E.1 a2)), (3, iV x3)] [] (gw E.1 cIds (cef E (I, R)) ++ []) := by
  intro n8
  induction n8 with
  | zero => intro x3 I R hx3 hm hw; exact hw.elim
  | succ n8 ih =>
    intro x3 I R hx3 hm hw
    change wbX8_findsOneFrom_8 Q s0 a1 a2 (wX8_findsOneFrom_8 Q s0 a1 a2 n8) x3 I R at hw
    unfold wbX8_findsOneFrom_8 at hw
    refine q_iload_n F 3 dX8_findsOneFrom_8 rfl rfl ?_
    refine q_aload_n F 1 dX8_findsOneFrom_9 rfl rfl ?_
    refine q_Vi F (kcX4_cellCount hm ha1 hw) (cIds_in (kP0 ha1).2) (cePuzzle (kP0 ha1).1) (ci := 2) rfl (bV wd607 wd404 wd405 wd9 wd406) rfl ⟨rfl, rfl⟩ ydX4_cellCount (rmK_le hR (by omega) (by decide)) (av := []) rfl rfl (Nat.le_of_ble_eq_true rfl) dX8_findsOneFrom_10 (rmK_cs hR (by omega) (by omega)) (fun r1 I2 R3 h4 m5 hw => ?_)
    refine q_icmp_ge F hx3 h4 31 dX8_findsOneFrom_13 (by decide) (fun hc => ?_) (fun hc => ?_)
    · have hw := hw.1 hc
      refine q_aload_n F 0 dX8_findsOneFrom_31 rfl rfl ?_
      refine q_aload_n F 1 dX8_findsOneFrom_32 rfl rfl ?_
      refine q_iconst F dX8_findsOneFrom_33 ?_
      refine q_Si F (kcX8_endsFrom 27 m5 hs0 ha1 (⟨by decide, by decide⟩ : inR (0)) hw) (bS wd608 wd609 wd6 wd610) rfl ⟨rfl, rfl⟩ ydX8_endsFrom (rmK_le hR (by omega) (by decide)) (av := [.ref (E.1 s0), .ref (E.1 a1), iV 0]) rfl rfl (Nat.le_of_ble_eq_true rfl) dX8_findsOneFrom_34 (rmK_cs hR (by omega) (by omega)) (fun r6 I7 R8 h9 m10 hw => ?_)
      refine q_pop F dX8_findsOneFrom_37 rfl ?_
      refine q_aload_n F 0 dX8_findsOneFrom_38 rfl rfl ?_
      refine t_g_Search_found F (kS0 hs0) ib8 wd88 dX8_findsOneFrom_39 ?_
      refine q_iconst F dX8_findsOneFrom_42 ?_
      refine q_icmp_ne F (m10.1 _ _) (⟨by decide, by decide⟩ : inR (1)) 50 dX8_findsOneFrom_43 (by decide) (fun hc => ?_) (fun hc => ?_)
      · have hw := hw.1 hc
        refine q_iconst F dX8_findsOneFrom_50 ?_
        exact hret _ _ _ _ _ _ dX8_findsOneFrom_51 (Or.inl rfl) (⟨by decide, by decide⟩ : inR (0)) m10 hw
      · have hw := hw.2 hc
        refine q_iconst F dX8_findsOneFrom_46 ?_
        refine q_goto F 51 dX8_findsOneFrom_47 (by decide) ?_
        exact hret _ _ _ _ _ _ dX8_findsOneFrom_51 (Or.inr rfl) (⟨by decide, by decide⟩ : inR (1)) m10 hw
    · have hw := hw.2 hc
      refine q_aload_n F 0 dX8_findsOneFrom_16 rfl rfl ?_
      refine t_g_Search_first F (kS0 hs0) ib8 wd94 (s0 + 4) rfl dX8_findsOneFrom_17 ?_
      refine q_iload_n F 3 dX8_findsOneFrom_20 rfl rfl ?_
      refine q_aload_n F 2 dX8_findsOneFrom_21 rfl rfl ?_
      refine q_iload_n F 3 dX8_findsOneFrom_22 rfl rfl ?_
      obtain ⟨k11, hw⟩ := hw
      refine t_ald F 25 ha2 k11 (by decide) dX8_findsOneFrom_23 ?_
      obtain ⟨k12, hw⟩ := hw
      obtain ⟨I13, e14⟩ := ex1 (up2 I2 (s0 + 4) x3 ((I2 a2 x3)))
      have hw := hw I13 e14
      have m15 : cM I13 R3 := cM_I m5 e14 (m5.1 _ _)
      refine t_ast F 25 (kS4 hs0) k12 (by decide) e14 dX8_findsOneFrom_24 ?_
      obtain ⟨k18, hw⟩ := hw
      obtain ⟨z16, e17⟩ := ex1 (x3 + 1)
      have hw := hw z16 e17
      have hz16 : inR z16 := by rw [e17]; exact k18
      refine q_iinc (lv' := [(0, .ref (E.1 s0)), (1, .ref (E.1 a1)), (2, .ref (E.1 a2)), (3, iV z16)]) F 3 [1, 2, 3, 0] dX8_findsOneFrom_25 rfl (q_n hN (by decide)) e17.symm rfl ?_
      refine q_goto F 8 dX8_findsOneFrom_28 (by decide) ?_
      exact ih z16 I13 R3 hz16 m15 hw
set_option maxHeartbeats 4000000 in
set_option maxRecDepth 100000 in
theorem kcX8_findsOneFrom {l : Launch} {D : va_G} {E : cE} {s0 : Nat} {a1 : Nat} {a2 : Nat} {I : cI} {R : cR} (hm : cM I R) (hs0 : isS s0) (ha1 : isP a1) (ha2 : isA 25 a2) {Q : Int → cI → cR → Prop} (hw : wX8_findsOneFrom s0 a1 a2 I R Q) : gM l D E cIds yX8_findsOneFrom vX8_findsOneFrom (rmK 31 (0) (0)) [.ref (E.1 s0), .ref (E.1 a1), .ref (E.1 a2)] (cef E (I, R)) (cef E) (pI Q) (0) (0) := by
  unfold wX8_findsOneFrom at hw
  refine k_ofW (own := RX8) (cc := cX8_findsOneFrom) (maxL := 4) (ret := (some .boolean)) (lv := [(0, .ref (E.1 s0)), (1, .ref (E.1 a1)), (2, .ref (E.1 a2))]) (by decide) rfl rfl (Nat.le_of_ble_eq_true rfl) rfl ?_
  intro X hl hR hN hD F K
  subst hl; subst hD
  have hret := mk_rZ (Q := Q) F K
  refine q_aload_n F 0 dX8_findsOneFrom_0 rfl rfl ?_
  refine q_iconst F dX8_findsOneFrom_1 ?_
  refine q_iconst F dX8_findsOneFrom_2 ?_
  refine q_Vv F (kcX8_begin hm hs0 (⟨by decide, by decide⟩ : inR (1)) (⟨by decide, by decide⟩ : inR (-1)) hw) (cIds_in (kS0 hs0).2) (ceSearch (kS0 hs0).1) (ci := 6) rfl (bV wd604 wd605 wd913 wd6 wd606) rfl ⟨rfl, rfl⟩ ydX8_begin (rmK_le hR (by omega) (by decide)) (av := [iV 1, iV (-1)]) rfl rfl (Nat.le_of_ble_eq_true rfl) dX8_findsOneFrom_3 (rmK_cs hR (by omega) (by omega)) (fun I2 R3 m5 hw => ?_)
  refine q_iconst F dX8_findsOneFrom_6 ?_
  refine q_istore_n (lv' := [(0, .ref (E.1 s0)), (1, .ref (E.1 a1)), (2, .ref (E.1 a2)), (3, iV 0)]) F [1, 2, 3, 0] dX8_findsOneFrom_7 rfl (q_n hN (by decide)) rfl ?_
  obtain ⟨n6, hw⟩ := hw
  exact bX8_findsOneFrom_8 F hR hN hret hs0 ha1 ha2 n6 0 I2 R3 (⟨by decide, by decide⟩ : inR (0)) m5 hw
theorem ydX4_addGiven : yX4_addGiven.cls = RX4 ∧ yX4_addGiven.cls ≠ "java/lang/invoke/MethodHandle" ∧ yX4_addGiven.cls ≠ "java/lang/invoke/VarHandle" ∧ (parseMethodDescriptor yX4_addGiven.desc).map (fun d => d.parameters.length) = some 2 := by decide +kernel
def vX4_addGiven : List Cond := Cond.code yX4_addGiven cX4_addGiven 4 none :: bG
set_option maxHeartbeats 4000000 in
set_option maxRecDepth 100000 in
theorem kcX4_addGiven {l : Launch} {D : va_G} {E : cE} {p : Nat} {a1 : Int} {a2 : Int} {I : cI} {R : cR} (hm : cM I R) (hp : isP p) (ha1 : inR a1) (ha2 : inR a2) {Q : cI → cR → Prop} (hw : wX4_addGiven p a1 a2 I R Q) : gM l D E cIds yX4_addGiven vX4_addGiven (rmK 3 (0) (0)) [.ref (E.1 p), iV a1, iV a2] (cef E (I, R)) (cef E) (pV Q) (0) (0) := by
  unfold wX4_addGiven at hw
  refine k_ofW (own := RX4) (cc := cX4_addGiven) (maxL := 4) (ret := none) (lv := [(0, .ref (E.1 p)), (1, iV a1), (2, iV a2)]) (by decide) rfl rfl (Nat.le_of_ble_eq_true rfl) rfl ?_
  intro X hl hR hN hD F K
  subst hl; subst hD
  have hret := mk_rV (Q := Q) F K
  refine q_aload_n F 0 dX4_addGiven_0 rfl rfl ?_
  refine q_gs F (sZ_IS F) wd416 rfl dX4_addGiven_1 ?_
  refine q_Vr F (kcX4_addRule hm hp (by decide) hw) (cIds_in (kP0 hp).2) (cePuzzle (kP0 hp).1) (ci := 2) rfl (bV wd354 wd355 wd356 wd9 wd357) rfl ⟨rfl, rfl⟩ ydX4_addRule (rmK_le hR (by omega) (by decide)) (av := [.ref (E.2.1 0 9)]) rfl rfl (Nat.le_of_ble_eq_true rfl) dX4_addGiven_4 (rmK_cs hR (by omega) (by omega)) (fun r1 I2 R3 h4 m5 hw => ?_)
  refine q_astore_n (lv' := [(0, .ref (E.1 p)), (1, iV a1), (2, iV a2), (3, .ref (E.1 r1))]) F [1, 2, 3, 0] dX4_addGiven_7 rfl (q_n hN (by decide)) rfl ?_
  refine q_aload_n F 3 dX4_addGiven_8 rfl rfl ?_
  refine q_iload_n F 2 dX4_addGiven_9 rfl rfl ?_
  obtain ⟨I6, e7⟩ := ex1 (up2 I2 r1 1 a2)
  have hw := hw I6 e7
  have m8 : cM I6 R3 := cM_I m5 e7 ha2
  refine t_p_Rule_number F (kR0 h4) ib7 wd150 e7 dX4_addGiven_10 ?_
  refine q_aload_n F 3 dX4_addGiven_13 rfl rfl ?_
  refine q_iload_n F 1 dX4_addGiven_14 rfl rfl ?_
  refine q_Vv F (kcX7_addCell m8 h4 ha1 hw) (cIds_in (kR0 h4).2) (ceRule (kR0 h4).1) (ci := 5) rfl (bV wd362 wd363 wd364 wd10 wd365) rfl ⟨rfl, rfl⟩ ydX7_addCell (rmK_le hR (by omega) (by decide)) (av := [iV a1]) rfl rfl (Nat.le_of_ble_eq_true rfl) dX4_addGiven_15 (rmK_cs hR (by omega) (by omega)) (fun I10 R11 m13 hw => ?_)
  exact hret _ _ _ _ _ dX4_addGiven_18 m13 hw
theorem ydX2_giveAll : yX2_giveAll.cls = RX2 ∧ yX2_giveAll.cls ≠ "java/lang/invoke/MethodHandle" ∧ yX2_giveAll.cls ≠ "java/lang/invoke/VarHandle" ∧ (parseMethodDescriptor yX2_giveAll.desc).map (fun d => d.parameters.length) = some 4 := by decide +kernel
def vX2_giveAll : List Cond := Cond.code yX2_giveAll cX2_giveAll 6 (some .boolean) :: bG
set_option maxHeartbeats 4000000 in
set_option maxRecDepth 100000 in
theorem bX2_giveAll_74 {X : xC} {E : cE} (F : mF X E RX2 cX2_giveAll bG) (hR : X.1.2.2.2 = rmK 32 (0) (0)) (hN : X.2.2.1.2.2.2 = 6) {Q : Int → cI → cR → Prop} (hret : rZ X E cX2_giveAll (0) (0) Q) {a1 : Nat} {a2 : Nat} {a3 : Nat} {a4 : Int} (ha1 : isP a1) (ha2 : isP a2) (ha3 : isS a3) (ha4 : inR a4) : ∀ n74 : Nat, ∀ (x5 : Int) (I : cI) (R : cR), inR x5 → cM I R → wX2_giveAll_74 Q a1 a2 a3 a4 n74 x5 I R → cW X (0) (0) 74 [(1, .ref (E.1 a1)), (3, .ref (E.1 a3)), (5, iV x5)] [] (gw E.1 cIds (cef E (I, R)) ++ []) := by
  intro n74
  induction n74 with
  | zero => intro x5 I R hx5 hm hw; exact hw.elim
  | succ n74 ih =>
    intro x5 I R hx5 hm hw
    change wbX2_giveAll_74 Q a1 a2 a3 a4 (wX2_giveAll_74 Q a1 a2 a3 a4 n74) x5 I R at hw
    unfold wbX2_giveAll_74 at hw
    refine q_iload F 2 dX2_giveAll_74 rfl ?_
    refine q_aload_n F 0 dX2_giveAll_76 rfl rfl ?_
    refine q_Vi F (kcX4_cellCount hm ha1 hw) (cIds_in (kP0 ha1).2) (cePuzzle (kP0 ha1).1) (ci := 2) rfl (bV wd728 wd404 wd405 wd9 wd406) rfl ⟨rfl, rfl⟩ ydX4_cellCount (rmK_le hR (by omega) (by decide)) (av := []) rfl rfl (Nat.le_of_ble_eq_true rfl) dX2_giveAll_77 (rmK_cs hR (by omega) (by omega)) (fun r1 I2 R3 h4 m5 hw => ?_)
    refine q_icmp_ge F hx5 h4 104 dX2_giveAll_80 (by decide) (fun hc => ?_) (fun hc => ?_)
    · have hw := hw.1 hc
      refine q_iconst F dX2_giveAll_104 ?_
      exact hret _ _ _ _ _ _ dX2_giveAll_105 (Or.inr rfl) (⟨by decide, by decide⟩ : inR (1)) m5 hw
    · have hw := hw.2 hc
      refine q_aload_n F 0 dX2_giveAll_83 rfl rfl ?_
      refine q_iload F 2 dX2_giveAll_84 rfl ?_
      refine q_aload_n F 1 dX2_giveAll_86 rfl rfl ?_
      refine t_g_Search_solutions F (kS0 ha3) ib8 wd86 (a3 + 1) rfl dX2_giveAll_87 ?_
      refine q_iconst F dX2_giveAll_90 ?_
      refine t_qld F (kS1 ha3) (⟨by decide, by decide⟩ : 0 ≤ (0 : Int) ∧ (0 : Int) < 30) (a3 + 5 + Int.toNat (0)) (by omega) dX2_giveAll_91 ?_
      refine q_iload F 2 dX2_giveAll_92 rfl ?_
      obtain ⟨k6, hw⟩ := hw
      refine t_ald F 25 (kS5 ha3 (⟨by decide, by decide⟩ : 0 ≤ (0 : Int) ∧ (0 : Int) < 30)) k6 (by decide) dX2_giveAll_94 ?_
      refine q_Vv F (kcX4_addGiven m5 ha1 hx5 (m5.1 _ _) hw) (cIds_in (kP0 ha1).2) (cePuzzle (kP0 ha1).1) (ci := 2) rfl (bV wd737 wd738 wd739 wd9 wd740) rfl ⟨rfl, rfl⟩ ydX4_addGiven (rmK_le hR (by omega) (by decide)) (av := [iV x5, iV ((I2 ((a3 + 5 + Int.toNat (0))) x5))]) rfl rfl (Nat.le_of_ble_eq_true rfl) dX2_giveAll_95 (rmK_cs hR (by omega) (by omega)) (fun I8 R9 m11 hw => ?_)
      obtain ⟨k14, hw⟩ := hw
      obtain ⟨z12, e13⟩ := ex1 (x5 + 1)
      have hw := hw z12 e13
      have hz12 : inR z12 := by rw [e13]; exact k14
      refine q_iinc (lv' := [(1, .ref (E.1 a1)), (3, .ref (E.1 a3)), (5, iV z12)]) F 2 [1, 2, 0] dX2_giveAll_98 rfl (q_n hN (by decide)) e13.symm rfl ?_
      refine q_goto F 74 dX2_giveAll_101 (by decide) ?_
      exact ih z12 I8 R9 hz12 m11 hw
set_option maxHeartbeats 4000000 in
set_option maxRecDepth 100000 in
theorem bX2_giveAll_24 {X : xC} {E : cE} (F : mF X E RX2 cX2_giveAll bG) (hR : X.1.2.2.2 = rmK 32 (0) (0)) (hN : X.2.2.1.2.2.2 = 6) {Q : Int → cI → cR → Prop} (hret : rZ X E cX2_giveAll (0) (0) Q) {a1 : Nat} {a2 : Nat} {a3 : Nat} {a4 : Int} (ha1 : isP a1) (ha2 : isP a2) (ha3 : isS a3) (ha4 : inR a4) : ∀ n24 : Nat, ∀ (x5 : Int) (I : cI) (R : cR), inR x5 → cM I R → wX2_giveAll_24 Q a1 a2 a3 a4 n24 x5 I R → cW X (0) (0) 24 [(0, .ref (E.1 83)), (1, .ref (E.1 a1)), (3, .ref (E.1 a3)), (5, iV x5)] [] (gw E.1 cIds (cef E (I, R)) ++ []) := by
  intro n24
  induction n24 with
  | zero => intro x5 I R hx5 hm hw; exact hw.elim
  | succ n24 ih =>
    intro x5 I R hx5 hm hw
    change wbX2_giveAll_24 Q a1 a2 a3 a4 (wX2_giveAll_24 Q a1 a2 a3 a4 n24) x5 I R at hw
    unfold wbX2_giveAll_24 at hw
    refine q_iload F 3 dX2_giveAll_24 rfl ?_
    refine q_aload_n F 1 dX2_giveAll_26 rfl rfl ?_
    refine q_Vi F (kcX4_cellCount hm ha1 hw) (cIds_in (kP0 ha1).2) (cePuzzle (kP0 ha1).1) (ci := 2) rfl (bV wd728 wd404 wd405 wd9 wd406) rfl ⟨rfl, rfl⟩ ydX4_cellCount (rmK_le hR (by omega) (by decide)) (av := []) rfl rfl (Nat.le_of_ble_eq_true rfl) dX2_giveAll_27 (rmK_cs hR (by omega) (by omega)) (fun r1 I2 R3 h4 m5 hw => ?_)
    refine q_icmp_ge F hx5 h4 57 dX2_giveAll_30 (by decide) (fun hc => ?_) (fun hc => ?_)
    · have hw := hw.1 hc
      refine q_aload_n F 2 dX2_giveAll_57 rfl rfl ?_
      refine q_aload_n F 1 dX2_giveAll_58 rfl rfl ?_
      refine q_aload_n F 0 dX2_giveAll_59 rfl rfl ?_
      refine t_g_Maker_firstValues F (by decide) ib2 wd125 84 rfl dX2_giveAll_60 ?_
      refine q_Vi F (kcX8_findsOneFrom m5 ha3 ha1 kA_84 hw) (cIds_in (kS0 ha3).2) (ceSearch (kS0 ha3).1) (ci := 6) rfl (bV wd733 wd734 wd735 wd6 wd736) rfl ⟨rfl, rfl⟩ ydX8_findsOneFrom (rmK_le hR (by omega) (by decide)) (av := [.ref (E.1 a1), .ref (E.1 84)]) rfl rfl (Nat.le_of_ble_eq_true rfl) dX2_giveAll_63 (rmK_cs hR (by omega) (by omega)) (fun r6 I7 R8 h9 m10 hw => ?_)
      refine q_if_ne F h9 71 dX2_giveAll_66 (by decide) (fun hc => ?_) (fun hc => ?_)
      · have hw := hw.1 hc
        refine q_iconst F dX2_giveAll_71 ?_
        refine q_istore (lv' := [(0, .ref (E.1 83)), (1, .ref (E.1 a1)), (3, .ref (E.1 a3)), (5, iV 0)]) F [1, 2, 3, 0] dX2_giveAll_72 (q_n hN (by decide)) rfl ?_
        refine q_lv [1, 2, 3] rfl ?_
        obtain ⟨n11, hw⟩ := hw
        exact bX2_giveAll_74 F hR hN hret ha1 ha2 ha3 ha4 n11 0 I7 R8 (⟨by decide, by decide⟩ : inR (0)) m10 hw
      · have hw := hw.2 hc
        refine q_iconst F dX2_giveAll_69 ?_
        exact hret _ _ _ _ _ _ dX2_giveAll_70 (Or.inl rfl) (⟨by decide, by decide⟩ : inR (0)) m10 hw
    · have hw := hw.2 hc
      refine q_aload_n F 0 dX2_giveAll_33 rfl rfl ?_
      refine t_g_Maker_firstValues F (by decide) ib2 wd125 84 rfl dX2_giveAll_34 ?_
      refine q_iload F 3 dX2_giveAll_37 rfl ?_
      refine q_iconst F dX2_giveAll_39 ?_
      refine q_aload_n F 0 dX2_giveAll_40 rfl rfl ?_
      refine q_Vi F (kcX2_draw m5 hw) (cIds_in (show ckd 83 = 0 ∧ 83 < 353 by decide).2) (ceMaker (show ckd 83 = 0 ∧ 83 < 353 by decide).1) (ci := 0) rfl (bV wd729 wd730 wd922 wd8 wd731) rfl ⟨rfl, rfl⟩ ydX2_draw (rmK_le hR (by omega) (by decide)) (av := []) rfl rfl (Nat.le_of_ble_eq_true rfl) dX2_giveAll_41 (rmK_cs hR (by omega) (by omega)) (fun r12 I13 R14 h15 m16 hw => ?_)
      refine q_aload_n F 1 dX2_giveAll_44 rfl rfl ?_
      refine t_g_Puzzle_highest F (kP0 ha1) ib4 wd174 dX2_giveAll_45 ?_
      obtain ⟨k17, hw⟩ := hw
      refine q_irem F ⟨⟨k17.1, (h15).2⟩, k17.2, ((m16.1 _ _)).2⟩ dX2_giveAll_48 ?_
      refine q_iadd F dX2_giveAll_49 ?_
      obtain ⟨k18, hw⟩ := hw
      obtain ⟨k19, hw⟩ := hw
      obtain ⟨I20, e21⟩ := ex1 (up2 I13 84 x5 ((1 + (r12 % (I13 a1 2)))))
      have hw := hw I20 e21
      have m22 : cM I20 R14 := cM_I m16 e21 k18
      refine t_ast F 25 kA_84 k19 (by decide) e21 dX2_giveAll_50 ?_
      obtain ⟨k25, hw⟩ := hw
      obtain ⟨z23, e24⟩ := ex1 (x5 + 1)
      have hw := hw z23 e24
      have hz23 : inR z23 := by rw [e24]; exact k25
      refine q_iinc (lv' := [(0, .ref (E.1 83)), (1, .ref (E.1 a1)), (3, .ref (E.1 a3)), (5, iV z23)]) F 3 [1, 2, 3, 0] dX2_giveAll_51 rfl (q_n hN (by decide)) e24.symm rfl ?_
      refine q_goto F 24 dX2_giveAll_54 (by decide) ?_
      exact ih z23 I20 R14 hz23 m22 hw
set_option maxHeartbeats 4000000 in
set_option maxRecDepth 100000 in
theorem kcX2_giveAll {l : Launch} {D : va_G} {E : cE} {a1 : Nat} {a2 : Nat} {a3 : Nat} {a4 : Int} {I : cI} {R : cR} (hm : cM I R) (ha1 : isP a1) (ha2 : isP a2) (ha3 : isS a3) (ha4 : inR a4) {Q : Int → cI → cR → Prop} (hw : wX2_giveAll a1 a2 a3 a4 I R Q) : gM l D E cIds yX2_giveAll vX2_giveAll (rmK 32 (0) (0)) [.ref (E.1 83), .ref (E.1 a1), .ref (E.1 a2), .ref (E.1 a3), iV a4] (cef E (I, R)) (cef E) (pI Q) (0) (0) := by
  unfold wX2_giveAll at hw
  refine k_ofW (own := RX2) (cc := cX2_giveAll) (maxL := 6) (ret := (some .boolean)) (lv := [(0, .ref (E.1 83)), (1, .ref (E.1 a1)), (2, .ref (E.1 a2)), (3, .ref (E.1 a3)), (4, iV a4)]) (by decide) rfl rfl (Nat.le_of_ble_eq_true rfl) rfl ?_
  intro X hl hR hN hD F K
  subst hl; subst hD
  have hret := mk_rZ (Q := Q) F K
  refine q_aload_n F 0 dX2_giveAll_0 rfl rfl ?_
  refine q_iload F 4 dX2_giveAll_1 rfl ?_
  obtain ⟨I1, e2⟩ := ex1 (up2 I 83 1 a4)
  have hw := hw I1 e2
  have m3 : cM I1 R := cM_I hm e2 ha4
  refine t_p_Maker_seed F (by decide) ib2 wd126 e2 dX2_giveAll_3 ?_
  refine q_aload_n F 1 dX2_giveAll_6 rfl rfl ?_
  refine q_aload_n F 2 dX2_giveAll_7 rfl rfl ?_
  refine q_Vv F (kcX4_becomeCopyWithoutGivens m3 ha1 ha2 hw) (cIds_in (kP0 ha1).2) (cePuzzle (kP0 ha1).1) (ci := 2) rfl (bV wd718 wd719 wd720 wd9 wd721) rfl ⟨rfl, rfl⟩ ydX4_becomeCopyWithoutGivens (rmK_le hR (by omega) (by decide)) (av := [.ref (E.1 a2)]) rfl rfl (Nat.le_of_ble_eq_true rfl) dX2_giveAll_8 (rmK_cs hR (by omega) (by omega)) (fun I5 R6 m8 hw => ?_)
  refine q_aload_n F 1 dX2_giveAll_11 rfl rfl ?_
  refine t_g_Puzzle_highest F (kP0 ha1) ib4 wd174 dX2_giveAll_12 ?_
  refine q_iconst F dX2_giveAll_15 ?_
  refine q_icmp_ge F (m8.1 _ _) (⟨by decide, by decide⟩ : inR (1)) 21 dX2_giveAll_16 (by decide) (fun hc => ?_) (fun hc => ?_)
  · have hw := hw.1 hc
    refine q_iconst F dX2_giveAll_21 ?_
    refine q_istore (lv' := [(0, .ref (E.1 83)), (1, .ref (E.1 a1)), (2, .ref (E.1 a2)), (3, .ref (E.1 a3)), (4, iV a4), (5, iV 0)]) F [1, 2, 3, 4, 5, 0] dX2_giveAll_22 (q_n hN (by decide)) rfl ?_
    refine q_lv [0, 1, 3, 5] rfl ?_
    obtain ⟨n9, hw⟩ := hw
    exact bX2_giveAll_24 F hR hN hret ha1 ha2 ha3 ha4 n9 0 I5 R6 (⟨by decide, by decide⟩ : inR (0)) m8 hw
  · have hw := hw.2 hc
    refine q_iconst F dX2_giveAll_19 ?_
    exact hret _ _ _ _ _ _ dX2_giveAll_20 (Or.inl rfl) (⟨by decide, by decide⟩ : inR (0)) m8 hw
theorem ydX7_isGivenOf : yX7_isGivenOf.cls = RX7 ∧ yX7_isGivenOf.cls ≠ "java/lang/invoke/MethodHandle" ∧ yX7_isGivenOf.cls ≠ "java/lang/invoke/VarHandle" ∧ (parseMethodDescriptor yX7_isGivenOf.desc).map (fun d => d.parameters.length) = some 1 := by decide +kernel
def vX7_isGivenOf : List Cond := Cond.code yX7_isGivenOf cX7_isGivenOf 2 (some .boolean) :: bG
set_option maxHeartbeats 4000000 in
set_option maxRecDepth 100000 in
theorem kcX7_isGivenOf {l : Launch} {D : va_G} {E : cE} {r0 : Nat} {a1 : Int} {I : cI} {R : cR} (hm : cM I R) (hr0 : isR r0) (ha1 : inR a1) {Q : Int → cI → cR → Prop} (hw : wX7_isGivenOf r0 a1 I R Q) : gM l D E cIds yX7_isGivenOf vX7_isGivenOf (rmK 2 (0) (0)) [.ref (E.1 r0), iV a1] (cef E (I, R)) (cef E) (pI Q) (0) (0) := by
  unfold wX7_isGivenOf at hw
  refine k_ofW (own := RX7) (cc := cX7_isGivenOf) (maxL := 2) (ret := (some .boolean)) (lv := [(0, .ref (E.1 r0)), (1, iV a1)]) (by decide) rfl rfl (Nat.le_of_ble_eq_true rfl) rfl ?_
  intro X hl hR hN hD F K
  subst hl; subst hD
  have hret := mk_rZ (Q := Q) F K
  refine q_aload_n F 0 dX7_isGivenOf_0 rfl rfl ?_
  refine t_g_Rule_kind F (kR0 hr0) ib7 wd142 dX7_isGivenOf_1 ?_
  refine q_gs F (sZ_IS F) wd753 rfl dX7_isGivenOf_4 ?_
  refine q_acne F (hm.2.2.2.2 _ hr0) (by decide) 22 dX7_isGivenOf_7 (by decide) (fun hc => ?_) (fun hc => ?_)
  · have hw := hw.1 hc
    refine q_iconst F dX7_isGivenOf_22 ?_
    exact hret _ _ _ _ _ _ dX7_isGivenOf_23 (Or.inl rfl) (⟨by decide, by decide⟩ : inR (0)) hm hw
  · have hw := hw.2 hc
    refine q_aload_n F 0 dX7_isGivenOf_10 rfl rfl ?_
    refine q_iload_n F 1 dX7_isGivenOf_11 rfl rfl ?_
    refine q_Vi F (kcX7_hasCell hm hr0 ha1 hw) (cIds_in (kR0 hr0).2) (ceRule (kR0 hr0).1) (ci := 5) rfl (bV wd754 wd392 wd393 wd10 wd394) rfl ⟨rfl, rfl⟩ ydX7_hasCell (rmK_le hR (by omega) (by decide)) (av := [iV a1]) rfl rfl (Nat.le_of_ble_eq_true rfl) dX7_isGivenOf_12 (rmK_cs hR (by omega) (by omega)) (fun r1 I2 R3 h4 m5 hw => ?_)
    refine q_if_eq F h4 22 dX7_isGivenOf_15 (by decide) (fun hc => ?_) (fun hc => ?_)
    · have hw := hw.1 hc
      refine q_iconst F dX7_isGivenOf_22 ?_
      exact hret _ _ _ _ _ _ dX7_isGivenOf_23 (Or.inl rfl) (⟨by decide, by decide⟩ : inR (0)) m5 hw
    · have hw := hw.2 hc
      refine q_iconst F dX7_isGivenOf_18 ?_
      refine q_goto F 23 dX7_isGivenOf_19 (by decide) ?_
      exact hret _ _ _ _ _ _ dX7_isGivenOf_23 (Or.inr rfl) (⟨by decide, by decide⟩ : inR (1)) m5 hw
theorem ydX4_findGiven : yX4_findGiven.cls = RX4 ∧ yX4_findGiven.cls ≠ "java/lang/invoke/MethodHandle" ∧ yX4_findGiven.cls ≠ "java/lang/invoke/VarHandle" ∧ (parseMethodDescriptor yX4_findGiven.desc).map (fun d => d.parameters.length) = some 1 := by decide +kernel
def vX4_findGiven : List Cond := Cond.code yX4_findGiven cX4_findGiven 3 (some .int) :: bG
set_option maxHeartbeats 4000000 in
set_option maxRecDepth 100000 in
theorem bX4_findGiven_2 {X : xC} {E : cE} (F : mF X E RX4 cX4_findGiven bG) (hR : X.1.2.2.2 = rmK 3 (0) (0)) (hN : X.2.2.1.2.2.2 = 3) {Q : Int → cI → cR → Prop} (hret : rI X E cX4_findGiven (0) (0) Q) {p : Nat} {a1 : Int} (hp : isP p) (ha1 : inR a1) : ∀ n2 : Nat, ∀ (x2 : Int) (I : cI) (R : cR), inR x2 → cM I R → wX4_findGiven_2 Q p a1 n2 x2 I R → cW X (0) (0) 2 [(0, .ref (E.1 p)), (1, iV a1), (2, iV x2)] [] (gw E.1 cIds (cef E (I, R)) ++ []) := by
  intro n2
  induction n2 with
  | zero => intro x2 I R hx2 hm hw; exact hw.elim
  | succ n2 ih =>
    intro x2 I R hx2 hm hw
    change wbX4_findGiven_2 Q p a1 (wX4_findGiven_2 Q p a1 n2) x2 I R at hw
    unfold wbX4_findGiven_2 at hw
    refine q_iload_n F 2 dX4_findGiven_2 rfl rfl ?_
    refine q_aload_n F 0 dX4_findGiven_3 rfl rfl ?_
    refine t_g_Puzzle_ruleCount F (kP0 hp) ib4 wd188 dX4_findGiven_4 ?_
    refine q_icmp_ge F hx2 (hm.1 _ _) 31 dX4_findGiven_7 (by decide) (fun hc => ?_) (fun hc => ?_)
    · have hw := hw.1 hc
      refine q_iconst F dX4_findGiven_31 ?_
      exact hret _ _ _ _ _ _ dX4_findGiven_32 (⟨by decide, by decide⟩ : inR (-1)) hm hw
    · have hw := hw.2 hc
      refine q_aload_n F 0 dX4_findGiven_10 rfl rfl ?_
      refine t_g_Puzzle_rules F (kP0 hp) ib4 wd184 (p + 2) rfl dX4_findGiven_11 ?_
      refine q_iload_n F 2 dX4_findGiven_14 rfl rfl ?_
      obtain ⟨k1, hw⟩ := hw
      refine t_rld F (kP2 hp) k1 dX4_findGiven_15 ?_
      refine q_iload_n F 1 dX4_findGiven_16 rfl rfl ?_
      refine q_Vi F (kcX7_isGivenOf hm (hm.2.2.2.1 _ hp _ k1) ha1 hw) (cIds_in (kR0 (hm.2.2.2.1 _ hp _ k1)).2) (ceRule (kR0 (hm.2.2.2.1 _ hp _ k1)).1) (ci := 5) rfl (bV wd749 wd750 wd751 wd10 wd752) rfl ⟨rfl, rfl⟩ ydX7_isGivenOf (rmK_le hR (by omega) (by decide)) (av := [iV a1]) rfl rfl (Nat.le_of_ble_eq_true rfl) dX4_findGiven_17 (rmK_cs hR (by omega) (by omega)) (fun r2 I3 R4 h5 m6 hw => ?_)
      refine q_if_eq F h5 25 dX4_findGiven_20 (by decide) (fun hc => ?_) (fun hc => ?_)
      · have hw := hw.1 hc
        obtain ⟨k9, hw⟩ := hw
        obtain ⟨z7, e8⟩ := ex1 (x2 + 1)
        have hw := hw z7 e8
        have hz7 : inR z7 := by rw [e8]; exact k9
        refine q_iinc (lv' := [(0, .ref (E.1 p)), (1, iV a1), (2, iV z7)]) F 2 [1, 2, 0] dX4_findGiven_25 rfl (q_n hN (by decide)) e8.symm rfl ?_
        refine q_goto F 2 dX4_findGiven_28 (by decide) ?_
        exact ih z7 I3 R4 hz7 m6 hw
      · have hw := hw.2 hc
        refine q_iload_n F 2 dX4_findGiven_23 rfl rfl ?_
        exact hret _ _ _ _ _ _ dX4_findGiven_24 hx2 m6 hw
set_option maxHeartbeats 4000000 in
set_option maxRecDepth 100000 in
theorem kcX4_findGiven {l : Launch} {D : va_G} {E : cE} {p : Nat} {a1 : Int} {I : cI} {R : cR} (hm : cM I R) (hp : isP p) (ha1 : inR a1) {Q : Int → cI → cR → Prop} (hw : wX4_findGiven p a1 I R Q) : gM l D E cIds yX4_findGiven vX4_findGiven (rmK 3 (0) (0)) [.ref (E.1 p), iV a1] (cef E (I, R)) (cef E) (pI Q) (0) (0) := by
  unfold wX4_findGiven at hw
  refine k_ofW (own := RX4) (cc := cX4_findGiven) (maxL := 3) (ret := (some .int)) (lv := [(0, .ref (E.1 p)), (1, iV a1)]) (by decide) rfl rfl (Nat.le_of_ble_eq_true rfl) rfl ?_
  intro X hl hR hN hD F K
  subst hl; subst hD
  have hret := mk_rI (Q := Q) F K
  refine q_iconst F dX4_findGiven_0 ?_
  refine q_istore_n (lv' := [(0, .ref (E.1 p)), (1, iV a1), (2, iV 0)]) F [1, 2, 0] dX4_findGiven_1 rfl (q_n hN (by decide)) rfl ?_
  obtain ⟨n1, hw⟩ := hw
  exact bX4_findGiven_2 F hR hN hret hp ha1 n1 0 I R (⟨by decide, by decide⟩ : inR (0)) hm hw
theorem ydX2_dropGivens : yX2_dropGivens.cls = RX2 ∧ yX2_dropGivens.cls ≠ "java/lang/invoke/MethodHandle" ∧ yX2_dropGivens.cls ≠ "java/lang/invoke/VarHandle" ∧ (parseMethodDescriptor yX2_dropGivens.desc).map (fun d => d.parameters.length) = some 2 := by decide +kernel
def vX2_dropGivens : List Cond := Cond.code yX2_dropGivens cX2_dropGivens 7 none :: bG
set_option maxHeartbeats 4000000 in
set_option maxRecDepth 100000 in
theorem bX2_dropGivens_58 {X : xC} {E : cE} (F : mF X E RX2 cX2_dropGivens bG) (hR : X.1.2.2.2 = rmK 32 (0) (0)) (hN : X.2.2.1.2.2.2 = 7) {Q : cI → cR → Prop} (hret : rV X E cX2_dropGivens (0) (0) Q) {a1 : Nat} {a2 : Nat} (ha1 : isP a1) (ha2 : isS a2) {K22 : Int → Int → Int → cI → cR → Prop} (hK22 : ∀ (x3 : Int) (x4 : Int) (x5 : Int) (I : cI) (R : cR), inR x3 → inR x4 → inR x5 → cM I R → K22 x3 x4 x5 I R → cW X (0) (0) 22 [(1, .ref (E.1 a1)), (2, .ref (E.1 a2)), (3, iV x3), (4, iV x4), (5, iV x5)] [] (gw E.1 cIds (cef E (I, R)) ++ [])) : ∀ (x3 : Int) (x4 : Int) (x5 : Int) (I : cI) (R : cR), inR x3 → inR x4 → inR x5 → cM I R → wX2_dropGivens_58 Q a1 a2 K22 x3 x4 x5 I R → cW X (0) (0) 58 [(1, .ref (E.1 a1)), (2, .ref (E.1 a2)), (3, iV x3), (4, iV x4), (5, iV x5)] [] (gw E.1 cIds (cef E (I, R)) ++ []) := by
  intro x3 x4 x5 I R hx3 hx4 hx5 hm hw
  unfold wX2_dropGivens_58 at hw
  refine q_iload F 3 dX2_dropGivens_58 rfl ?_
  refine q_bipush F dX2_dropGivens_60 (by decide) ?_
  refine q_iadd F dX2_dropGivens_62 ?_
  refine q_iload_n F 2 dX2_dropGivens_63 rfl rfl ?_
  obtain ⟨k1, hw⟩ := hw
  obtain ⟨k2, hw⟩ := hw
  refine q_irem F ⟨⟨k2.1, (k1).2⟩, k2.2, (hx3).2⟩ dX2_dropGivens_64 ?_
  obtain ⟨k3, hw⟩ := hw
  obtain ⟨z4, e5⟩ := ex1 (((x4 + 7) % x3))
  have hw := hw z4 e5
  have hz4 : inR z4 := by rw [e5]; exact k3
  refine q_top e5 ?_
  refine q_istore (lv' := [(1, .ref (E.1 a1)), (2, .ref (E.1 a2)), (3, iV x3), (4, iV z4), (5, iV x5)]) F [1, 2, 3, 0, 4] dX2_dropGivens_65 (q_n hN (by decide)) rfl ?_
  obtain ⟨k8, hw⟩ := hw
  obtain ⟨z6, e7⟩ := ex1 (x5 + 1)
  have hw := hw z6 e7
  have hz6 : inR z6 := by rw [e7]; exact k8
  refine q_iinc (lv' := [(1, .ref (E.1 a1)), (2, .ref (E.1 a2)), (3, iV x3), (4, iV z4), (5, iV z6)]) F 4 [1, 2, 3, 4, 0] dX2_dropGivens_67 rfl (q_n hN (by decide)) e7.symm rfl ?_
  refine q_goto F 22 dX2_dropGivens_70 (by decide) ?_
  exact hK22 x3 z4 z6 I R hx3 hz4 hz6 hm hw
set_option maxHeartbeats 4000000 in
set_option maxRecDepth 100000 in
theorem bX2_dropGivens_22 {X : xC} {E : cE} (F : mF X E RX2 cX2_dropGivens bG) (hR : X.1.2.2.2 = rmK 32 (0) (0)) (hN : X.2.2.1.2.2.2 = 7) {Q : cI → cR → Prop} (hret : rV X E cX2_dropGivens (0) (0) Q) {a1 : Nat} {a2 : Nat} (ha1 : isP a1) (ha2 : isS a2) : ∀ n22 : Nat, ∀ (x3 : Int) (x4 : Int) (x5 : Int) (I : cI) (R : cR), inR x3 → inR x4 → inR x5 → cM I R → wX2_dropGivens_22 Q a1 a2 n22 x3 x4 x5 I R → cW X (0) (0) 22 [(1, .ref (E.1 a1)), (2, .ref (E.1 a2)), (3, iV x3), (4, iV x4), (5, iV x5)] [] (gw E.1 cIds (cef E (I, R)) ++ []) := by
  intro n22
  induction n22 with
  | zero => intro x3 x4 x5 I R hx3 hx4 hx5 hm hw; exact hw.elim
  | succ n22 ih =>
    intro x3 x4 x5 I R hx3 hx4 hx5 hm hw
    change wbX2_dropGivens_22 Q a1 a2 (wX2_dropGivens_22 Q a1 a2 n22) x3 x4 x5 I R at hw
    unfold wbX2_dropGivens_22 at hw
    refine q_iload F 4 dX2_dropGivens_22 rfl ?_
    refine q_iload_n F 2 dX2_dropGivens_24 rfl rfl ?_
    refine q_icmp_ge F hx5 hx3 73 dX2_dropGivens_25 (by decide) (fun hc => ?_) (fun hc => ?_)
    · have hw := hw.1 hc
      exact hret _ _ _ _ _ dX2_dropGivens_73 hm hw
    · have hw := hw.2 hc
      refine q_aload_n F 0 dX2_dropGivens_28 rfl rfl ?_
      refine q_iload F 3 dX2_dropGivens_29 rfl ?_
      refine q_Vi F (kcX4_findGiven hm ha1 hx4 hw) (cIds_in (kP0 ha1).2) (cePuzzle (kP0 ha1).1) (ci := 2) rfl (bV wd745 wd746 wd747 wd9 wd748) rfl ⟨rfl, rfl⟩ ydX4_findGiven (rmK_le hR (by omega) (by decide)) (av := [iV x4]) rfl rfl (Nat.le_of_ble_eq_true rfl) dX2_dropGivens_31 (rmK_cs hR (by omega) (by omega)) (fun r1 I2 R3 h4 m5 hw => ?_)
      refine q_istore (lv' := [(1, .ref (E.1 a1)), (2, .ref (E.1 a2)), (3, iV x3), (4, iV x4), (5, iV x5), (6, iV r1)]) F [1, 2, 3, 4, 5, 0] dX2_dropGivens_34 (q_n hN (by decide)) rfl ?_
      refine q_iload F 5 dX2_dropGivens_36 rfl ?_
      refine q_iconst F dX2_dropGivens_38 ?_
      refine q_icmp_eq F h4 (⟨by decide, by decide⟩ : inR (-1)) 58 dX2_dropGivens_39 (by decide) (fun hc => ?_) (fun hc => ?_)
      · have hw := hw.1 hc
        refine q_lv [0, 1, 2, 3, 4] rfl ?_
        exact bX2_dropGivens_58 F hR hN hret ha1 ha2 ih x3 x4 x5 I2 R3 hx3 hx4 hx5 m5 hw
      · have hw := hw.2 hc
        refine q_aload_n F 1 dX2_dropGivens_42 rfl rfl ?_
        refine q_aload_n F 0 dX2_dropGivens_43 rfl rfl ?_
        refine q_iload F 5 dX2_dropGivens_44 rfl ?_
        refine q_Vi F (kcX8_findsJustOne m5 ha2 ha1 h4 hw) (cIds_in (kS0 ha2).2) (ceSearch (kS0 ha2).1) (ci := 6) rfl (bV wd755 wd635 wd636 wd6 wd637) rfl ⟨rfl, rfl⟩ ydX8_findsJustOne (rmK_le hR (by omega) (by decide)) (av := [.ref (E.1 a1), iV r1]) rfl rfl (Nat.le_of_ble_eq_true rfl) dX2_dropGivens_46 (rmK_cs hR (by omega) (by omega)) (fun r6 I7 R8 h9 m10 hw => ?_)
        refine q_if_eq F h9 58 dX2_dropGivens_49 (by decide) (fun hc => ?_) (fun hc => ?_)
        · have hw := hw.1 hc
          refine q_lv [0, 1, 2, 3, 4] rfl ?_
          exact bX2_dropGivens_58 F hR hN hret ha1 ha2 ih x3 x4 x5 I7 R8 hx3 hx4 hx5 m10 hw
        · have hw := hw.2 hc
          refine q_aload_n F 0 dX2_dropGivens_52 rfl rfl ?_
          refine q_iload F 5 dX2_dropGivens_53 rfl ?_
          refine q_Vv F (kcX4_removeRule m10 ha1 h4 hw) (cIds_in (kP0 ha1).2) (cePuzzle (kP0 ha1).1) (ci := 2) rfl (bV wd756 wd522 wd523 wd9 wd524) rfl ⟨rfl, rfl⟩ ydX4_removeRule (rmK_le hR (by omega) (by decide)) (av := [iV r1]) rfl rfl (Nat.le_of_ble_eq_true rfl) dX2_dropGivens_55 (rmK_cs hR (by omega) (by omega)) (fun I12 R13 m15 hw => ?_)
          refine q_lv [0, 1, 2, 3, 4] rfl ?_
          exact bX2_dropGivens_58 F hR hN hret ha1 ha2 ih x3 x4 x5 I12 R13 hx3 hx4 hx5 m15 hw
set_option maxHeartbeats 4000000 in
set_option maxRecDepth 100000 in
theorem kcX2_dropGivens {l : Launch} {D : va_G} {E : cE} {a1 : Nat} {a2 : Nat} {I : cI} {R : cR} (hm : cM I R) (ha1 : isP a1) (ha2 : isS a2) {Q : cI → cR → Prop} (hw : wX2_dropGivens a1 a2 I R Q) : gM l D E cIds yX2_dropGivens vX2_dropGivens (rmK 32 (0) (0)) [.ref (E.1 83), .ref (E.1 a1), .ref (E.1 a2)] (cef E (I, R)) (cef E) (pV Q) (0) (0) := by
  unfold wX2_dropGivens at hw
  refine k_ofW (own := RX2) (cc := cX2_dropGivens) (maxL := 7) (ret := none) (lv := [(0, .ref (E.1 83)), (1, .ref (E.1 a1)), (2, .ref (E.1 a2))]) (by decide) rfl rfl (Nat.le_of_ble_eq_true rfl) rfl ?_
  intro X hl hR hN hD F K
  subst hl; subst hD
  have hret := mk_rV (Q := Q) F K
  refine q_aload_n F 1 dX2_dropGivens_0 rfl rfl ?_
  refine q_Vi F (kcX4_cellCount hm ha1 hw) (cIds_in (kP0 ha1).2) (cePuzzle (kP0 ha1).1) (ci := 2) rfl (bV wd728 wd404 wd405 wd9 wd406) rfl ⟨rfl, rfl⟩ ydX4_cellCount (rmK_le hR (by omega) (by decide)) (av := []) rfl rfl (Nat.le_of_ble_eq_true rfl) dX2_dropGivens_1 (rmK_cs hR (by omega) (by omega)) (fun r1 I2 R3 h4 m5 hw => ?_)
  refine q_istore_n (lv' := [(0, .ref (E.1 83)), (1, .ref (E.1 a1)), (2, .ref (E.1 a2)), (3, iV r1)]) F [1, 2, 3, 0] dX2_dropGivens_4 rfl (q_n hN (by decide)) rfl ?_
  refine q_iload_n F 3 dX2_dropGivens_5 rfl rfl ?_
  refine q_iconst F dX2_dropGivens_6 ?_
  refine q_icmp_ge F h4 (⟨by decide, by decide⟩ : inR (1)) 11 dX2_dropGivens_7 (by decide) (fun hc => ?_) (fun hc => ?_)
  · have hw := hw.1 hc
    refine q_aload_n F 0 dX2_dropGivens_11 rfl rfl ?_
    refine q_Vi F (kcX2_draw m5 hw) (cIds_in (show ckd 83 = 0 ∧ 83 < 353 by decide).2) (ceMaker (show ckd 83 = 0 ∧ 83 < 353 by decide).1) (ci := 0) rfl (bV wd729 wd730 wd922 wd8 wd731) rfl ⟨rfl, rfl⟩ ydX2_draw (rmK_le hR (by omega) (by decide)) (av := []) rfl rfl (Nat.le_of_ble_eq_true rfl) dX2_dropGivens_12 (rmK_cs hR (by omega) (by omega)) (fun r6 I7 R8 h9 m10 hw => ?_)
    refine q_iload_n F 3 dX2_dropGivens_15 rfl rfl ?_
    obtain ⟨k11, hw⟩ := hw
    refine q_irem F ⟨⟨k11.1, (h9).2⟩, k11.2, (h4).2⟩ dX2_dropGivens_16 ?_
    obtain ⟨k12, hw⟩ := hw
    obtain ⟨z13, e14⟩ := ex1 ((r6 % r1))
    have hw := hw z13 e14
    have hz13 : inR z13 := by rw [e14]; exact k12
    refine q_top e14 ?_
    refine q_istore (lv' := [(0, .ref (E.1 83)), (1, .ref (E.1 a1)), (2, .ref (E.1 a2)), (3, iV r1), (4, iV z13)]) F [1, 2, 3, 4, 0] dX2_dropGivens_17 (q_n hN (by decide)) rfl ?_
    refine q_iconst F dX2_dropGivens_19 ?_
    refine q_istore (lv' := [(0, .ref (E.1 83)), (1, .ref (E.1 a1)), (2, .ref (E.1 a2)), (3, iV r1), (4, iV z13), (5, iV 0)]) F [1, 2, 3, 4, 5, 0] dX2_dropGivens_20 (q_n hN (by decide)) rfl ?_
    refine q_lv [1, 2, 3, 4, 5] rfl ?_
    obtain ⟨n15, hw⟩ := hw
    exact bX2_dropGivens_22 F hR hN hret ha1 ha2 n15 r1 z13 0 I7 R8 h4 hz13 (⟨by decide, by decide⟩ : inR (0)) m10 hw
  · have hw := hw.2 hc
    exact hret _ _ _ _ _ dX2_dropGivens_10 m5 hw
theorem ydX11_make : yX11_make.cls = RX11 ∧ yX11_make.cls ≠ "java/lang/invoke/MethodHandle" ∧ yX11_make.cls ≠ "java/lang/invoke/VarHandle" ∧ (parseMethodDescriptor yX11_make.desc).map (fun d => d.parameters.length) = some 1 := by decide +kernel
def vX11_make : List Cond := Cond.code yX11_make cX11_make 2 (some .int) :: bG
set_option maxHeartbeats 4000000 in
set_option maxRecDepth 100000 in
theorem bX11_make_10 {z : Nat} {X : xC} {E : cE} (F : mF X E RX11 cX11_make bG) (hR : X.1.2.2.2 = rmK 33 (1 * z) (6 * z)) (hN : X.2.2.1.2.2.2 = 2) {Q : Int → cI → cR → Prop} {Qx : Nat → cI → cR → Prop} (hret : rI X E cX11_make (1 * z) (6 * z) Q) (hX : kXx X E cIds (some .int) (cef E) (pI Q) (pX Qx) (1 * z) (6 * z)) (hz : z = 1 ∨ ∀ k I R, ¬ Qx k I R) {a1 : Int} (ha1 : inR a1) : ∀ (I : cI) (R : cR), cM I R → wX11_make_10 Q Qx a1 I R → cW X (0) (0) 10 [] [] (gw E.1 cIds (cef E (I, R)) ++ []) := by
  intro I R hm hw
  unfold wX11_make_10 at hw
  exact q_thrW1 F hX hR (by decide) hz 10 (by decide) wd582 rfl dX11_make_10 dX11_make_13 dX11_make_14 dX11_make_17 dX11_make_20 (fun hz1 => by omega) (fun hz1 => by omega) hm hw
set_option maxHeartbeats 4000000 in
set_option maxRecDepth 100000 in
theorem kcX11_make {l : Launch} {D : va_G} {E : cE} (hfl : l.stackTraces = false) (z : Nat) {Qx : Nat → cI → cR → Prop} (hz : z = 1 ∨ ∀ k I R, ¬ Qx k I R) {a1 : Int} {I : cI} {R : cR} (hm : cM I R) (ha1 : inR a1) {Q : Int → cI → cR → Prop} (hw : wX11_make a1 I R Q Qx) : gMx l D E cIds yX11_make vX11_make (rmK 33 (1 * z) (6 * z)) [.ref (E.1 0), iV a1] (cef E (I, R)) (cef E) (pI Q) (pX Qx) (1 * z) (6 * z) := by
  unfold wX11_make at hw
  refine k_ofWx hfl (own := RX11) (cc := cX11_make) (maxL := 2) (ret := (some .int)) (lv := [(0, .ref (E.1 0)), (1, iV a1)]) (by decide) rfl rfl (Nat.le_of_ble_eq_true rfl) rfl ?_
  intro X hl hR hN hD F hX
  subst hl; subst hD
  have hret := mk_rIx (Q := Q) F hX
  refine q_iload_n F 1 dX11_make_0 rfl rfl ?_
  refine q_if_lt F ha1 10 dX11_make_1 (by decide) (fun hc => ?_) (fun hc => ?_)
  · have hw := hw.1 hc
    refine q_lv [] rfl ?_
    exact bX11_make_10 F hR hN hret hX hz ha1 I R hm hw
  · have hw := hw.2 hc
    refine q_iload_n F 1 dX11_make_4 rfl rfl ?_
    refine q_ldc F (n := 65535) (show Cond.constant RX11 255 (Int32.ofInt 65535) ∈ bG by rw [show Int32.ofInt 65535 = 65535 by decide]; exact wd712) dX11_make_5 ?_
    refine q_icmp_le F ha1 (⟨by decide, by decide⟩ : inR (65535)) 21 dX11_make_7 (by decide) (fun hc => ?_) (fun hc => ?_)
    · have hw := hw.1 hc
      refine q_aload_n F 0 dX11_make_21 rfl rfl ?_
      refine q_Vvx F hX (by omega) (by omega) (kcX11_requirePuzzle hX.2.2.2.2 z hz hm hw) (cIds_in (show ckd 0 = 9 ∧ 0 < 353 by decide).2) (ceMill (show ckd 0 = 9 ∧ 0 < 353 by decide).1) (ci := 9) rfl (bV wd529 wd530 wd906 wd1 wd531) rfl ⟨rfl, rfl⟩ ydX11_requirePuzzle (rmK_le hR (by omega) (by decide)) (av := []) rfl rfl (Nat.le_of_ble_eq_true rfl) dX11_make_22 (rmK_cs hR (by omega) (by omega)) (fun I2 R3 m5 hw => ?_)
      refine q_aload_n F 0 dX11_make_25 rfl rfl ?_
      refine t_g_Mill_maker F (by decide) ib11 wd200 dX11_make_26 ?_
      refine q_aload_n F 0 dX11_make_29 rfl rfl ?_
      refine t_g_Mill_draft F (by decide) ib11 wd202 dX11_make_30 ?_
      refine q_aload_n F 0 dX11_make_33 rfl rfl ?_
      refine t_g_Mill_puzzle F (by decide) ib11 wd201 dX11_make_34 ?_
      refine q_aload_n F 0 dX11_make_37 rfl rfl ?_
      refine t_g_Mill_probe F (by decide) ib11 wd198 dX11_make_38 ?_
      refine q_iload_n F 1 dX11_make_41 rfl rfl ?_
      refine q_Vi F (kcX2_giveAll m5 (m5.2.2.1) (m5.2.1) (Or.inr rfl) ha1 hw) (cIds_in (show ckd 83 = 0 ∧ 83 < 353 by decide).2) (ceMaker (show ckd 83 = 0 ∧ 83 < 353 by decide).1) (ci := 0) rfl (bV wd714 wd715 wd716 wd8 wd717) rfl ⟨rfl, rfl⟩ ydX2_giveAll (rmK_le hR (by omega) (by decide)) (av := [.ref (E.1 ((R3 0 8))), .ref (E.1 ((R3 0 7))), .ref (E.1 45), iV a1]) rfl rfl (Nat.le_of_ble_eq_true rfl) dX11_make_42 (rmK_cs hR (by omega) (by omega)) (fun r6 I7 R8 h9 m10 hw => ?_)
      refine q_if_ne F h9 50 dX11_make_45 (by decide) (fun hc => ?_) (fun hc => ?_)
      · have hw := hw.1 hc
        refine q_aload_n F 0 dX11_make_50 rfl rfl ?_
        refine t_g_Mill_maker F (by decide) ib11 wd200 dX11_make_51 ?_
        refine q_aload_n F 0 dX11_make_54 rfl rfl ?_
        refine t_g_Mill_draft F (by decide) ib11 wd202 dX11_make_55 ?_
        refine q_aload_n F 0 dX11_make_58 rfl rfl ?_
        refine t_g_Mill_probe F (by decide) ib11 wd198 dX11_make_59 ?_
        refine q_Vv F (kcX2_dropGivens m10 (m10.2.2.1) (Or.inr rfl) hw) (cIds_in (show ckd 83 = 0 ∧ 83 < 353 by decide).2) (ceMaker (show ckd 83 = 0 ∧ 83 < 353 by decide).1) (ci := 0) rfl (bV wd741 wd742 wd743 wd8 wd744) rfl ⟨rfl, rfl⟩ ydX2_dropGivens (rmK_le hR (by omega) (by decide)) (av := [.ref (E.1 ((R8 0 8))), .ref (E.1 45)]) rfl rfl (Nat.le_of_ble_eq_true rfl) dX11_make_62 (rmK_cs hR (by omega) (by omega)) (fun I12 R13 m15 hw => ?_)
        refine q_aload_n F 0 dX11_make_65 rfl rfl ?_
        refine q_Vv F (kcX11_takeDraft m15 hw) (cIds_in (show ckd 0 = 9 ∧ 0 < 353 by decide).2) (ceMill (show ckd 0 = 9 ∧ 0 < 353 by decide).1) (ci := 9) rfl (bV wd396 wd397 wd894 wd1 wd398) rfl ⟨rfl, rfl⟩ ydX11_takeDraft (rmK_le hR (by omega) (by decide)) (av := []) rfl rfl (Nat.le_of_ble_eq_true rfl) dX11_make_66 (rmK_cs hR (by omega) (by omega)) (fun I17 R18 m20 hw => ?_)
        refine q_aload_n F 0 dX11_make_69 rfl rfl ?_
        refine t_g_Mill_puzzle F (by decide) ib11 wd201 dX11_make_70 ?_
        refine q_Vi F (kcX4_countGivens m20 (m20.2.1) hw) (cIds_in (kP0 (m20.2.1)).2) (cePuzzle (kP0 (m20.2.1)).1) (ci := 2) rfl (bV wd412 wd413 wd414 wd9 wd415) rfl ⟨rfl, rfl⟩ ydX4_countGivens (rmK_le hR (by omega) (by decide)) (av := []) rfl rfl (Nat.le_of_ble_eq_true rfl) dX11_make_73 (rmK_cs hR (by omega) (by omega)) (fun r21 I22 R23 h24 m25 hw => ?_)
        refine q_wide (nc' := 1 * z) (ns' := 6 * z) (by omega) (by omega) ?_
        exact hret _ _ _ _ _ _ dX11_make_76 h24 m25 hw
      · have hw := hw.2 hc
        refine q_iconst F dX11_make_48 ?_
        refine q_wide (nc' := 1 * z) (ns' := 6 * z) (by omega) (by omega) ?_
        exact hret _ _ _ _ _ _ dX11_make_49 (⟨by decide, by decide⟩ : inR (-1)) m10 hw
    · have hw := hw.2 hc
      refine q_lv [] rfl ?_
      exact bX11_make_10 F hR hN hret hX hz ha1 I R hm hw
theorem ydX7_moveCells : yX7_moveCells.cls = RX7 ∧ yX7_moveCells.cls ≠ "java/lang/invoke/MethodHandle" ∧ yX7_moveCells.cls ≠ "java/lang/invoke/VarHandle" ∧ (parseMethodDescriptor yX7_moveCells.desc).map (fun d => d.parameters.length) = some 1 := by decide +kernel
def vX7_moveCells : List Cond := Cond.code yX7_moveCells cX7_moveCells 3 none :: bG
set_option maxHeartbeats 4000000 in
set_option maxRecDepth 100000 in
theorem bX7_moveCells_7 {X : xC} {E : cE} (F : mF X E RX7 cX7_moveCells bG) (hR : X.1.2.2.2 = rmK 1 (0) (0)) (hN : X.2.2.1.2.2.2 = 3) {Q : cI → cR → Prop} (hret : rV X E cX7_moveCells (0) (0) Q) {r0 : Nat} {a1 : Nat} (hr0 : isR r0) (ha1 : isA 25 a1) : ∀ n7 : Nat, ∀ (x2 : Int) (I : cI) (R : cR), inR x2 → cM I R → wX7_moveCells_7 Q r0 a1 n7 x2 I R → cW X (0) (0) 7 [(0, .ref (E.1 r0)), (1, .ref (E.1 a1)), (2, iV x2)] [] (gw E.1 cIds (cef E (I, R)) ++ []) := by
  intro n7
  induction n7 with
  | zero => intro x2 I R hx2 hm hw; exact hw.elim
  | succ n7 ih =>
    intro x2 I R hx2 hm hw
    change wbX7_moveCells_7 Q r0 a1 (wX7_moveCells_7 Q r0 a1 n7) x2 I R at hw
    unfold wbX7_moveCells_7 at hw
    refine q_iload_n F 2 dX7_moveCells_7 rfl rfl ?_
    refine q_aload_n F 0 dX7_moveCells_8 rfl rfl ?_
    refine t_g_Rule_size F (kR0 hr0) ib7 wd156 dX7_moveCells_9 ?_
    refine q_icmp_ge F hx2 (hm.1 _ _) 52 dX7_moveCells_12 (by decide) (fun hc => ?_) (fun hc => ?_)
    · have hw := hw.1 hc
      exact hret _ _ _ _ _ dX7_moveCells_52 hm hw
    · have hw := hw.2 hc
      refine q_aload_n F 0 dX7_moveCells_15 rfl rfl ?_
      refine t_g_Rule_cells F (kR0 hr0) ib7 wd161 (r0 + 130) rfl dX7_moveCells_16 ?_
      refine q_iload_n F 2 dX7_moveCells_19 rfl rfl ?_
      refine q_aload_n F 1 dX7_moveCells_20 rfl rfl ?_
      refine q_aload_n F 0 dX7_moveCells_21 rfl rfl ?_
      refine t_g_Rule_cells F (kR0 hr0) ib7 wd161 (r0 + 130) rfl dX7_moveCells_22 ?_
      refine q_iload_n F 2 dX7_moveCells_25 rfl rfl ?_
      obtain ⟨k1, hw⟩ := hw
      refine t_ald F 5 (kR4 hr0) k1 (by decide) dX7_moveCells_26 ?_
      obtain ⟨k2, hw⟩ := hw
      refine t_ald F 25 ha1 k2 (by decide) dX7_moveCells_27 ?_
      obtain ⟨k3, hw⟩ := hw
      obtain ⟨I4, e5⟩ := ex1 (up2 I (r0 + 130) x2 ((I a1 ((I (r0 + 130) x2)))))
      have hw := hw I4 e5
      have m6 : cM I4 R := cM_I hm e5 (hm.1 _ _)
      refine t_ast F 5 (kR4 hr0) k3 (by decide) e5 dX7_moveCells_28 ?_
      refine q_aload_n F 0 dX7_moveCells_29 rfl rfl ?_
      refine q_dup F dX7_moveCells_30 rfl ?_
      refine t_g_Rule_mask F (kR0 hr0) ib7 wd164 dX7_moveCells_31 ?_
      refine q_iconst F dX7_moveCells_34 ?_
      refine q_aload_n F 0 dX7_moveCells_35 rfl rfl ?_
      refine t_g_Rule_cells F (kR0 hr0) ib7 wd161 (r0 + 130) rfl dX7_moveCells_36 ?_
      refine q_iload_n F 2 dX7_moveCells_39 rfl rfl ?_
      obtain ⟨k7, hw⟩ := hw
      refine t_ald F 5 (kR4 hr0) k7 (by decide) dX7_moveCells_40 ?_
      refine q_ishl F dX7_moveCells_41 ?_
      refine q_ior F dX7_moveCells_42 ?_
      obtain ⟨I8, e9⟩ := ex1 (up2 I4 r0 5 ((iOr ((I4 r0 5)) ((iShl 1 ((I4 (r0 + 130) x2)))))))
      have hw := hw I8 e9
      have m10 : cM I8 R := cM_I m6 e9 (ti_rng _)
      refine t_p_Rule_mask F (kR0 hr0) ib7 wd164 e9 dX7_moveCells_43 ?_
      obtain ⟨k13, hw⟩ := hw
      obtain ⟨z11, e12⟩ := ex1 (x2 + 1)
      have hw := hw z11 e12
      have hz11 : inR z11 := by rw [e12]; exact k13
      refine q_iinc (lv' := [(0, .ref (E.1 r0)), (1, .ref (E.1 a1)), (2, iV z11)]) F 2 [1, 2, 0] dX7_moveCells_46 rfl (q_n hN (by decide)) e12.symm rfl ?_
      refine q_goto F 7 dX7_moveCells_49 (by decide) ?_
      exact ih z11 I8 R hz11 m10 hw
set_option maxHeartbeats 4000000 in
set_option maxRecDepth 100000 in
theorem kcX7_moveCells {l : Launch} {D : va_G} {E : cE} {r0 : Nat} {a1 : Nat} {I : cI} {R : cR} (hm : cM I R) (hr0 : isR r0) (ha1 : isA 25 a1) {Q : cI → cR → Prop} (hw : wX7_moveCells r0 a1 I R Q) : gM l D E cIds yX7_moveCells vX7_moveCells (rmK 1 (0) (0)) [.ref (E.1 r0), .ref (E.1 a1)] (cef E (I, R)) (cef E) (pV Q) (0) (0) := by
  unfold wX7_moveCells at hw
  refine k_ofW (own := RX7) (cc := cX7_moveCells) (maxL := 3) (ret := none) (lv := [(0, .ref (E.1 r0)), (1, .ref (E.1 a1))]) (by decide) rfl rfl (Nat.le_of_ble_eq_true rfl) rfl ?_
  intro X hl hR hN hD F K
  subst hl; subst hD
  have hret := mk_rV (Q := Q) F K
  refine q_aload_n F 0 dX7_moveCells_0 rfl rfl ?_
  refine q_iconst F dX7_moveCells_1 ?_
  obtain ⟨I1, e2⟩ := ex1 (up2 I r0 5 0)
  have hw := hw I1 e2
  have m3 : cM I1 R := cM_I hm e2 (⟨by decide, by decide⟩ : inR (0))
  refine t_p_Rule_mask F (kR0 hr0) ib7 wd164 e2 dX7_moveCells_2 ?_
  refine q_iconst F dX7_moveCells_5 ?_
  refine q_istore_n (lv' := [(0, .ref (E.1 r0)), (1, .ref (E.1 a1)), (2, iV 0)]) F [1, 2, 0] dX7_moveCells_6 rfl (q_n hN (by decide)) rfl ?_
  obtain ⟨n4, hw⟩ := hw
  exact bX7_moveCells_7 F hR hN hret hr0 ha1 n4 0 I1 R (⟨by decide, by decide⟩ : inR (0)) m3 hw
theorem ydX4_becomeMoved : yX4_becomeMoved.cls = RX4 ∧ yX4_becomeMoved.cls ≠ "java/lang/invoke/MethodHandle" ∧ yX4_becomeMoved.cls ≠ "java/lang/invoke/VarHandle" ∧ (parseMethodDescriptor yX4_becomeMoved.desc).map (fun d => d.parameters.length) = some 2 := by decide +kernel
def vX4_becomeMoved : List Cond := Cond.code yX4_becomeMoved cX4_becomeMoved 8 none :: bG
set_option maxHeartbeats 4000000 in
set_option maxRecDepth 100000 in
theorem bX4_becomeMoved_160 {X : xC} {E : cE} (F : mF X E RX4 cX4_becomeMoved bG) (hR : X.1.2.2.2 = rmK 3 (0) (0)) (hN : X.2.2.1.2.2.2 = 8) {Q : cI → cR → Prop} (hret : rV X E cX4_becomeMoved (0) (0) Q) {p : Nat} {a1 : Nat} {a2 : Int} (hp : isP p) (ha1 : isP a1) (ha2 : inR a2) : ∀ n160 : Nat, ∀ (x3 : Int) (I : cI) (R : cR), inR x3 → cM I R → wX4_becomeMoved_160 Q p a1 a2 n160 x3 I R → cW X (0) (0) 160 [(0, .ref (E.1 p)), (1, .ref (E.1 a1)), (3, iV x3)] [] (gw E.1 cIds (cef E (I, R)) ++ []) := by
  intro n160
  induction n160 with
  | zero => intro x3 I R hx3 hm hw; exact hw.elim
  | succ n160 ih =>
    intro x3 I R hx3 hm hw
    change wbX4_becomeMoved_160 Q p a1 a2 (wX4_becomeMoved_160 Q p a1 a2 n160) x3 I R at hw
    unfold wbX4_becomeMoved_160 at hw
    refine q_iload_n F 2 dX4_becomeMoved_160 rfl rfl ?_
    refine q_aload_n F 1 dX4_becomeMoved_161 rfl rfl ?_
    refine t_g_Puzzle_ruleCount F (kP0 ha1) ib4 wd188 dX4_becomeMoved_162 ?_
    refine q_icmp_ge F hx3 (hm.1 _ _) 209 dX4_becomeMoved_165 (by decide) (fun hc => ?_) (fun hc => ?_)
    · have hw := hw.1 hc
      exact hret _ _ _ _ _ dX4_becomeMoved_209 hm hw
    · have hw := hw.2 hc
      refine q_aload_n F 0 dX4_becomeMoved_168 rfl rfl ?_
      refine q_aload_n F 1 dX4_becomeMoved_169 rfl rfl ?_
      refine t_g_Puzzle_rules F (kP0 ha1) ib4 wd184 (a1 + 2) rfl dX4_becomeMoved_170 ?_
      refine q_iload_n F 2 dX4_becomeMoved_173 rfl rfl ?_
      obtain ⟨k1, hw⟩ := hw
      refine t_rld F (kP2 ha1) k1 dX4_becomeMoved_174 ?_
      refine t_g_Rule_kind F (kR0 (hm.2.2.2.1 _ ha1 _ k1)) ib7 wd146 dX4_becomeMoved_175 ?_
      refine q_Vr F (kcX4_addRule hm hp (hm.2.2.2.2 _ (hm.2.2.2.1 _ ha1 _ k1)) hw) (cIds_in (kP0 hp).2) (cePuzzle (kP0 hp).1) (ci := 2) rfl (bV wd354 wd355 wd356 wd9 wd357) rfl ⟨rfl, rfl⟩ ydX4_addRule (rmK_le hR (by omega) (by decide)) (av := [.ref (E.2.1 0 ((R ((R (a1 + 2) x3)) 0)))]) rfl rfl (Nat.le_of_ble_eq_true rfl) dX4_becomeMoved_178 (rmK_cs hR (by omega) (by omega)) (fun r2 I3 R4 h5 m6 hw => ?_)
      refine q_astore (lv' := [(0, .ref (E.1 p)), (1, .ref (E.1 a1)), (3, iV x3), (4, .ref (E.1 r2))]) F [1, 2, 3, 0] dX4_becomeMoved_181 (q_n hN (by decide)) rfl ?_
      refine q_aload F 3 dX4_becomeMoved_183 rfl ?_
      refine q_aload_n F 1 dX4_becomeMoved_185 rfl rfl ?_
      refine t_g_Puzzle_rules F (kP0 ha1) ib4 wd184 (a1 + 2) rfl dX4_becomeMoved_186 ?_
      refine q_iload_n F 2 dX4_becomeMoved_189 rfl rfl ?_
      obtain ⟨k7, hw⟩ := hw
      refine t_rld F (kP2 ha1) k7 dX4_becomeMoved_190 ?_
      refine q_Vv F (kcX7_takeParts m6 h5 (m6.2.2.2.1 _ ha1 _ k7) hw) (cIds_in (kR0 h5).2) (ceRule (kR0 h5).1) (ci := 5) rfl (bV wd723 wd724 wd725 wd10 wd726) rfl ⟨rfl, rfl⟩ ydX7_takeParts (rmK_le hR (by omega) (by decide)) (av := [.ref (E.1 ((R4 (a1 + 2) x3)))]) rfl rfl (Nat.le_of_ble_eq_true rfl) dX4_becomeMoved_191 (rmK_cs hR (by omega) (by omega)) (fun I9 R10 m12 hw => ?_)
      refine q_aload F 3 dX4_becomeMoved_194 rfl ?_
      refine q_aload_n F 0 dX4_becomeMoved_196 rfl rfl ?_
      refine t_g_Puzzle_places F (kP0 hp) ib4 wd193 (p + 3) rfl dX4_becomeMoved_197 ?_
      refine q_Vv F (kcX7_moveCells m12 h5 (kP3 hp) hw) (cIds_in (kR0 h5).2) (ceRule (kR0 h5).1) (ci := 5) rfl (bV wd766 wd767 wd768 wd10 wd769) rfl ⟨rfl, rfl⟩ ydX7_moveCells (rmK_le hR (by omega) (by decide)) (av := [.ref (E.1 (p + 3))]) rfl rfl (Nat.le_of_ble_eq_true rfl) dX4_becomeMoved_200 (rmK_cs hR (by omega) (by omega)) (fun I14 R15 m17 hw => ?_)
      obtain ⟨k20, hw⟩ := hw
      obtain ⟨z18, e19⟩ := ex1 (x3 + 1)
      have hw := hw z18 e19
      have hz18 : inR z18 := by rw [e19]; exact k20
      refine q_iinc (lv' := [(0, .ref (E.1 p)), (1, .ref (E.1 a1)), (3, iV z18), (4, .ref (E.1 r2))]) F 2 [1, 2, 0, 3] dX4_becomeMoved_203 rfl (q_n hN (by decide)) e19.symm rfl ?_
      refine q_goto F 160 dX4_becomeMoved_206 (by decide) ?_
      refine q_lv [0, 1, 2] rfl ?_
      exact ih z18 I14 R15 hz18 m17 hw
set_option maxHeartbeats 4000000 in
set_option maxRecDepth 100000 in
theorem bX4_becomeMoved_97 {X : xC} {E : cE} (F : mF X E RX4 cX4_becomeMoved bG) (hR : X.1.2.2.2 = rmK 3 (0) (0)) (hN : X.2.2.1.2.2.2 = 8) {Q : cI → cR → Prop} (hret : rV X E cX4_becomeMoved (0) (0) Q) {p : Nat} {a1 : Nat} {a2 : Int} (hp : isP p) (ha1 : isP a1) (ha2 : inR a2) {K41 : Int → cI → cR → Prop} {K52 : Int → Int → cI → cR → Prop} (hK41 : ∀ (x3 : Int) (I : cI) (R : cR), inR x3 → cM I R → K41 x3 I R → cW X (0) (0) 41 [(0, .ref (E.1 p)), (1, .ref (E.1 a1)), (2, iV a2), (3, iV x3)] [] (gw E.1 cIds (cef E (I, R)) ++ [])) (hK52 : ∀ (x3 : Int) (x4 : Int) (I : cI) (R : cR), inR x3 → inR x4 → cM I R → K52 x3 x4 I R → cW X (0) (0) 52 [(0, .ref (E.1 p)), (1, .ref (E.1 a1)), (2, iV a2), (3, iV x3), (4, iV x4)] [] (gw E.1 cIds (cef E (I, R)) ++ [])) : ∀ (x3 : Int) (x4 : Int) (x5 : Int) (y0 : Int) (I : cI) (R : cR), inR x3 → inR x4 → inR x5 → inR y0 → cM I R → wX4_becomeMoved_97 Q p a1 a2 K41 K52 x3 x4 x5 y0 I R → cW X (0) (0) 97 [(0, .ref (E.1 p)), (1, .ref (E.1 a1)), (2, iV a2), (3, iV x3), (4, iV x4), (5, iV x5)] [iV y0] (gw E.1 cIds (cef E (I, R)) ++ []) := by
  intro x3 x4 x5 y0 I R hx3 hx4 hx5 hy0 hm hw
  unfold wX4_becomeMoved_97 at hw
  refine q_istore (lv' := [(0, .ref (E.1 p)), (1, .ref (E.1 a1)), (2, iV a2), (3, iV x3), (4, iV x4), (5, iV x5), (6, iV y0)]) F [1, 2, 3, 4, 5, 6, 0] dX4_becomeMoved_97 (q_n hN (by decide)) rfl ?_
  refine q_iload F 4 dX4_becomeMoved_99 rfl ?_
  refine q_aload_n F 1 dX4_becomeMoved_101 rfl rfl ?_
  refine t_g_Puzzle_columns F (kP0 ha1) ib4 wd165 dX4_becomeMoved_102 ?_
  refine q_iload_n F 3 dX4_becomeMoved_105 rfl rfl ?_
  refine q_imul F dX4_becomeMoved_106 ?_
  refine q_iadd F dX4_becomeMoved_107 ?_
  obtain ⟨k1, hw⟩ := hw
  obtain ⟨z2, e3⟩ := ex1 ((x4 + ((I a1 0) * x3)))
  have hw := hw z2 e3
  have hz2 : inR z2 := by rw [e3]; exact k1
  refine q_top e3 ?_
  refine q_istore (lv' := [(0, .ref (E.1 p)), (1, .ref (E.1 a1)), (2, iV a2), (3, iV x3), (4, iV x4), (5, iV x5), (6, iV y0), (7, iV z2)]) F [1, 2, 3, 4, 5, 6, 7, 0] dX4_becomeMoved_108 (q_n hN (by decide)) rfl ?_
  refine q_aload_n F 0 dX4_becomeMoved_110 rfl rfl ?_
  refine t_g_Puzzle_places F (kP0 hp) ib4 wd193 (p + 3) rfl dX4_becomeMoved_111 ?_
  refine q_iload F 7 dX4_becomeMoved_114 rfl ?_
  refine q_iload F 5 dX4_becomeMoved_116 rfl ?_
  refine q_aload_n F 0 dX4_becomeMoved_118 rfl rfl ?_
  refine t_g_Puzzle_columns F (kP0 hp) ib4 wd165 dX4_becomeMoved_119 ?_
  refine q_iload F 6 dX4_becomeMoved_122 rfl ?_
  refine q_imul F dX4_becomeMoved_124 ?_
  refine q_iadd F dX4_becomeMoved_125 ?_
  obtain ⟨k4, hw⟩ := hw
  obtain ⟨k5, hw⟩ := hw
  obtain ⟨I6, e7⟩ := ex1 (up2 I (p + 3) z2 ((x5 + ((I p 0) * y0))))
  have hw := hw I6 e7
  have m8 : cM I6 R := cM_I hm e7 k4
  refine t_ast F 25 (kP3 hp) k5 (by decide) e7 dX4_becomeMoved_126 ?_
  refine q_aload_n F 0 dX4_becomeMoved_127 rfl rfl ?_
  refine t_g_Puzzle_grid F (kP0 hp) ib4 wd180 (p + 1) rfl dX4_becomeMoved_128 ?_
  refine q_aload_n F 0 dX4_becomeMoved_131 rfl rfl ?_
  refine t_g_Puzzle_places F (kP0 hp) ib4 wd193 (p + 3) rfl dX4_becomeMoved_132 ?_
  refine q_iload F 7 dX4_becomeMoved_135 rfl ?_
  obtain ⟨k9, hw⟩ := hw
  refine t_ald F 25 (kP3 hp) k9 (by decide) dX4_becomeMoved_137 ?_
  refine q_aload_n F 1 dX4_becomeMoved_138 rfl rfl ?_
  refine t_g_Puzzle_grid F (kP0 ha1) ib4 wd180 (a1 + 1) rfl dX4_becomeMoved_139 ?_
  refine q_iload F 7 dX4_becomeMoved_142 rfl ?_
  obtain ⟨k10, hw⟩ := hw
  refine t_ald F 25 (kP1 ha1) k10 (by decide) dX4_becomeMoved_144 ?_
  obtain ⟨k11, hw⟩ := hw
  obtain ⟨I12, e13⟩ := ex1 (up2 I6 (p + 1) ((I6 (p + 3) z2)) ((I6 (a1 + 1) z2)))
  have hw := hw I12 e13
  have m14 : cM I12 R := cM_I m8 e13 (m8.1 _ _)
  refine t_ast F 25 (kP1 hp) k11 (by decide) e13 dX4_becomeMoved_145 ?_
  obtain ⟨k17, hw⟩ := hw
  obtain ⟨z15, e16⟩ := ex1 (x4 + 1)
  have hw := hw z15 e16
  have hz15 : inR z15 := by rw [e16]; exact k17
  refine q_iinc (lv' := [(0, .ref (E.1 p)), (1, .ref (E.1 a1)), (2, iV a2), (3, iV x3), (4, iV z15), (5, iV x5), (6, iV y0), (7, iV z2)]) F 4 [1, 2, 3, 4, 0, 5, 6, 7] dX4_becomeMoved_146 rfl (q_n hN (by decide)) e16.symm rfl ?_
  refine q_goto F 52 dX4_becomeMoved_149 (by decide) ?_
  refine q_lv [0, 1, 2, 3, 4] rfl ?_
  exact hK52 x3 z15 I12 R hx3 hz15 m14 hw
set_option maxHeartbeats 4000000 in
set_option maxRecDepth 100000 in
theorem bX4_becomeMoved_85 {X : xC} {E : cE} (F : mF X E RX4 cX4_becomeMoved bG) (hR : X.1.2.2.2 = rmK 3 (0) (0)) (hN : X.2.2.1.2.2.2 = 8) {Q : cI → cR → Prop} (hret : rV X E cX4_becomeMoved (0) (0) Q) {p : Nat} {a1 : Nat} {a2 : Int} (hp : isP p) (ha1 : isP a1) (ha2 : inR a2) {K41 : Int → cI → cR → Prop} {K52 : Int → Int → cI → cR → Prop} (hK41 : ∀ (x3 : Int) (I : cI) (R : cR), inR x3 → cM I R → K41 x3 I R → cW X (0) (0) 41 [(0, .ref (E.1 p)), (1, .ref (E.1 a1)), (2, iV a2), (3, iV x3)] [] (gw E.1 cIds (cef E (I, R)) ++ [])) (hK52 : ∀ (x3 : Int) (x4 : Int) (I : cI) (R : cR), inR x3 → inR x4 → cM I R → K52 x3 x4 I R → cW X (0) (0) 52 [(0, .ref (E.1 p)), (1, .ref (E.1 a1)), (2, iV a2), (3, iV x3), (4, iV x4)] [] (gw E.1 cIds (cef E (I, R)) ++ [])) : ∀ (x3 : Int) (x4 : Int) (y0 : Int) (I : cI) (R : cR), inR x3 → inR x4 → inR y0 → cM I R → wX4_becomeMoved_85 Q p a1 a2 K41 K52 x3 x4 y0 I R → cW X (0) (0) 85 [(0, .ref (E.1 p)), (1, .ref (E.1 a1)), (2, iV a2), (3, iV x3), (4, iV x4)] [iV y0] (gw E.1 cIds (cef E (I, R)) ++ []) := by
  intro x3 x4 y0 I R hx3 hx4 hy0 hm hw
  unfold wX4_becomeMoved_85 at hw
  refine q_istore (lv' := [(0, .ref (E.1 p)), (1, .ref (E.1 a1)), (2, iV a2), (3, iV x3), (4, iV x4), (5, iV y0)]) F [1, 2, 3, 4, 5, 0] dX4_becomeMoved_85 (q_n hN (by decide)) rfl ?_
  refine q_iload_n F 2 dX4_becomeMoved_87 rfl rfl ?_
  refine q_if_eq F ha2 96 dX4_becomeMoved_88 (by decide) (fun hc => ?_) (fun hc => ?_)
  · have hw := hw.1 hc
    refine q_iload_n F 3 dX4_becomeMoved_96 rfl rfl ?_
    exact bX4_becomeMoved_97 F hR hN hret hp ha1 ha2 hK41 hK52 x3 x4 y0 x3 I R hx3 hx4 hy0 hx3 hm hw
  · have hw := hw.2 hc
    refine q_iload F 4 dX4_becomeMoved_91 rfl ?_
    refine q_goto F 97 dX4_becomeMoved_93 (by decide) ?_
    exact bX4_becomeMoved_97 F hR hN hret hp ha1 ha2 hK41 hK52 x3 x4 y0 x4 I R hx3 hx4 hy0 hx4 hm hw
set_option maxHeartbeats 4000000 in
set_option maxRecDepth 100000 in
theorem bX4_becomeMoved_52 {X : xC} {E : cE} (F : mF X E RX4 cX4_becomeMoved bG) (hR : X.1.2.2.2 = rmK 3 (0) (0)) (hN : X.2.2.1.2.2.2 = 8) {Q : cI → cR → Prop} (hret : rV X E cX4_becomeMoved (0) (0) Q) {p : Nat} {a1 : Nat} {a2 : Int} (hp : isP p) (ha1 : isP a1) (ha2 : inR a2) {K41 : Int → cI → cR → Prop} (hK41 : ∀ (x3 : Int) (I : cI) (R : cR), inR x3 → cM I R → K41 x3 I R → cW X (0) (0) 41 [(0, .ref (E.1 p)), (1, .ref (E.1 a1)), (2, iV a2), (3, iV x3)] [] (gw E.1 cIds (cef E (I, R)) ++ [])) : ∀ n52 : Nat, ∀ (x3 : Int) (x4 : Int) (I : cI) (R : cR), inR x3 → inR x4 → cM I R → wX4_becomeMoved_52 Q p a1 a2 K41 n52 x3 x4 I R → cW X (0) (0) 52 [(0, .ref (E.1 p)), (1, .ref (E.1 a1)), (2, iV a2), (3, iV x3), (4, iV x4)] [] (gw E.1 cIds (cef E (I, R)) ++ []) := by
  intro n52
  induction n52 with
  | zero => intro x3 x4 I R hx3 hx4 hm hw; exact hw.elim
  | succ n52 ih =>
    intro x3 x4 I R hx3 hx4 hm hw
    change wbX4_becomeMoved_52 Q p a1 a2 K41 (wX4_becomeMoved_52 Q p a1 a2 K41 n52) x3 x4 I R at hw
    unfold wbX4_becomeMoved_52 at hw
    refine q_iload F 4 dX4_becomeMoved_52 rfl ?_
    refine q_aload_n F 1 dX4_becomeMoved_54 rfl rfl ?_
    refine t_g_Puzzle_columns F (kP0 ha1) ib4 wd165 dX4_becomeMoved_55 ?_
    refine q_icmp_ge F hx4 (hm.1 _ _) 152 dX4_becomeMoved_58 (by decide) (fun hc => ?_) (fun hc => ?_)
    · have hw := hw.1 hc
      obtain ⟨k3, hw⟩ := hw
      obtain ⟨z1, e2⟩ := ex1 (x3 + 1)
      have hw := hw z1 e2
      have hz1 : inR z1 := by rw [e2]; exact k3
      refine q_iinc (lv' := [(0, .ref (E.1 p)), (1, .ref (E.1 a1)), (2, iV a2), (3, iV z1), (4, iV x4)]) F 3 [1, 2, 3, 0, 4] dX4_becomeMoved_152 rfl (q_n hN (by decide)) e2.symm rfl ?_
      refine q_goto F 41 dX4_becomeMoved_155 (by decide) ?_
      refine q_lv [0, 1, 2, 3] rfl ?_
      exact hK41 z1 I R hz1 hm hw
    · have hw := hw.2 hc
      refine q_iload_n F 2 dX4_becomeMoved_61 rfl rfl ?_
      refine q_if_eq F ha2 76 dX4_becomeMoved_62 (by decide) (fun hc => ?_) (fun hc => ?_)
      · have hw := hw.1 hc
        refine q_aload_n F 1 dX4_becomeMoved_76 rfl rfl ?_
        refine t_g_Puzzle_columns F (kP0 ha1) ib4 wd165 dX4_becomeMoved_77 ?_
        refine q_iconst F dX4_becomeMoved_80 ?_
        refine q_isub F dX4_becomeMoved_81 ?_
        refine q_iload F 4 dX4_becomeMoved_82 rfl ?_
        refine q_isub F dX4_becomeMoved_84 ?_
        obtain ⟨k4, hw⟩ := hw
        exact bX4_becomeMoved_85 F hR hN hret hp ha1 ha2 hK41 ih x3 x4 ((((I a1 0) - 1) - x4)) I R hx3 hx4 k4 hm hw
      · have hw := hw.2 hc
        refine q_aload_n F 1 dX4_becomeMoved_65 rfl rfl ?_
        refine t_g_Puzzle_rows F (kP0 ha1) ib4 wd169 dX4_becomeMoved_66 ?_
        refine q_iconst F dX4_becomeMoved_69 ?_
        refine q_isub F dX4_becomeMoved_70 ?_
        refine q_iload_n F 3 dX4_becomeMoved_71 rfl rfl ?_
        refine q_isub F dX4_becomeMoved_72 ?_
        refine q_goto F 85 dX4_becomeMoved_73 (by decide) ?_
        obtain ⟨k5, hw⟩ := hw
        exact bX4_becomeMoved_85 F hR hN hret hp ha1 ha2 hK41 ih x3 x4 ((((I a1 1) - 1) - x3)) I R hx3 hx4 k5 hm hw
set_option maxHeartbeats 4000000 in
set_option maxRecDepth 100000 in
theorem bX4_becomeMoved_41 {X : xC} {E : cE} (F : mF X E RX4 cX4_becomeMoved bG) (hR : X.1.2.2.2 = rmK 3 (0) (0)) (hN : X.2.2.1.2.2.2 = 8) {Q : cI → cR → Prop} (hret : rV X E cX4_becomeMoved (0) (0) Q) {p : Nat} {a1 : Nat} {a2 : Int} (hp : isP p) (ha1 : isP a1) (ha2 : inR a2) : ∀ n41 : Nat, ∀ (x3 : Int) (I : cI) (R : cR), inR x3 → cM I R → wX4_becomeMoved_41 Q p a1 a2 n41 x3 I R → cW X (0) (0) 41 [(0, .ref (E.1 p)), (1, .ref (E.1 a1)), (2, iV a2), (3, iV x3)] [] (gw E.1 cIds (cef E (I, R)) ++ []) := by
  intro n41
  induction n41 with
  | zero => intro x3 I R hx3 hm hw; exact hw.elim
  | succ n41 ih =>
    intro x3 I R hx3 hm hw
    change wbX4_becomeMoved_41 Q p a1 a2 (wX4_becomeMoved_41 Q p a1 a2 n41) x3 I R at hw
    unfold wbX4_becomeMoved_41 at hw
    refine q_iload_n F 3 dX4_becomeMoved_41 rfl rfl ?_
    refine q_aload_n F 1 dX4_becomeMoved_42 rfl rfl ?_
    refine t_g_Puzzle_rows F (kP0 ha1) ib4 wd169 dX4_becomeMoved_43 ?_
    refine q_icmp_ge F hx3 (hm.1 _ _) 158 dX4_becomeMoved_46 (by decide) (fun hc => ?_) (fun hc => ?_)
    · have hw := hw.1 hc
      refine q_iconst F dX4_becomeMoved_158 ?_
      refine q_istore_n (lv' := [(0, .ref (E.1 p)), (1, .ref (E.1 a1)), (2, iV a2), (3, iV 0)]) F [1, 2, 3, 0] dX4_becomeMoved_159 rfl (q_n hN (by decide)) rfl ?_
      refine q_lv [0, 1, 3] rfl ?_
      obtain ⟨n1, hw⟩ := hw
      exact bX4_becomeMoved_160 F hR hN hret hp ha1 ha2 n1 0 I R (⟨by decide, by decide⟩ : inR (0)) hm hw
    · have hw := hw.2 hc
      refine q_iconst F dX4_becomeMoved_49 ?_
      refine q_istore (lv' := [(0, .ref (E.1 p)), (1, .ref (E.1 a1)), (2, iV a2), (3, iV x3), (4, iV 0)]) F [1, 2, 3, 4, 0] dX4_becomeMoved_50 (q_n hN (by decide)) rfl ?_
      obtain ⟨n2, hw⟩ := hw
      exact bX4_becomeMoved_52 F hR hN hret hp ha1 ha2 ih n2 x3 0 I R hx3 (⟨by decide, by decide⟩ : inR (0)) hm hw
set_option maxHeartbeats 4000000 in
set_option maxRecDepth 100000 in
theorem bX4_becomeMoved_39 {X : xC} {E : cE} (F : mF X E RX4 cX4_becomeMoved bG) (hR : X.1.2.2.2 = rmK 3 (0) (0)) (hN : X.2.2.1.2.2.2 = 8) {Q : cI → cR → Prop} (hret : rV X E cX4_becomeMoved (0) (0) Q) {p : Nat} {a1 : Nat} {a2 : Int} (hp : isP p) (ha1 : isP a1) (ha2 : inR a2) : ∀ (I : cI) (R : cR), cM I R → wX4_becomeMoved_39 Q p a1 a2 I R → cW X (0) (0) 39 [(0, .ref (E.1 p)), (1, .ref (E.1 a1)), (2, iV a2)] [] (gw E.1 cIds (cef E (I, R)) ++ []) := by
  intro I R hm hw
  unfold wX4_becomeMoved_39 at hw
  refine q_iconst F dX4_becomeMoved_39 ?_
  refine q_istore_n (lv' := [(0, .ref (E.1 p)), (1, .ref (E.1 a1)), (2, iV a2), (3, iV 0)]) F [1, 2, 3, 0] dX4_becomeMoved_40 rfl (q_n hN (by decide)) rfl ?_
  obtain ⟨n1, hw⟩ := hw
  exact bX4_becomeMoved_41 F hR hN hret hp ha1 ha2 n1 0 I R (⟨by decide, by decide⟩ : inR (0)) hm hw
set_option maxHeartbeats 4000000 in
set_option maxRecDepth 100000 in
theorem kcX4_becomeMoved {l : Launch} {D : va_G} {E : cE} {p : Nat} {a1 : Nat} {a2 : Int} {I : cI} {R : cR} (hm : cM I R) (hp : isP p) (ha1 : isP a1) (ha2 : inR a2) {Q : cI → cR → Prop} (hw : wX4_becomeMoved p a1 a2 I R Q) : gM l D E cIds yX4_becomeMoved vX4_becomeMoved (rmK 3 (0) (0)) [.ref (E.1 p), .ref (E.1 a1), iV a2] (cef E (I, R)) (cef E) (pV Q) (0) (0) := by
  unfold wX4_becomeMoved at hw
  refine k_ofW (own := RX4) (cc := cX4_becomeMoved) (maxL := 8) (ret := none) (lv := [(0, .ref (E.1 p)), (1, .ref (E.1 a1)), (2, iV a2)]) (by decide) rfl rfl (Nat.le_of_ble_eq_true rfl) rfl ?_
  intro X hl hR hN hD F K
  subst hl; subst hD
  have hret := mk_rV (Q := Q) F K
  refine q_iload_n F 2 dX4_becomeMoved_0 rfl rfl ?_
  refine q_if_eq F ha2 23 dX4_becomeMoved_1 (by decide) (fun hc => ?_) (fun hc => ?_)
  · have hw := hw.1 hc
    refine q_aload_n F 0 dX4_becomeMoved_23 rfl rfl ?_
    refine q_aload_n F 1 dX4_becomeMoved_24 rfl rfl ?_
    refine t_g_Puzzle_columns F (kP0 ha1) ib4 wd165 dX4_becomeMoved_25 ?_
    refine q_aload_n F 1 dX4_becomeMoved_28 rfl rfl ?_
    refine t_g_Puzzle_rows F (kP0 ha1) ib4 wd169 dX4_becomeMoved_29 ?_
    refine q_aload_n F 1 dX4_becomeMoved_32 rfl rfl ?_
    refine t_g_Puzzle_highest F (kP0 ha1) ib4 wd173 dX4_becomeMoved_33 ?_
    refine q_Vv F (kcX4_begin hm hp (hm.1 _ _) (hm.1 _ _) (hm.1 _ _) hw) (cIds_in (kP0 hp).2) (cePuzzle (kP0 hp).1) (ci := 2) rfl (bV wd722 wd333 wd334 wd9 wd335) rfl ⟨rfl, rfl⟩ ydX4_begin (rmK_le hR (by omega) (by decide)) (av := [iV ((I a1 0)), iV ((I a1 1)), iV ((I a1 2))]) rfl rfl (Nat.le_of_ble_eq_true rfl) dX4_becomeMoved_36 (rmK_cs hR (by omega) (by omega)) (fun I2 R3 m5 hw => ?_)
    exact bX4_becomeMoved_39 F hR hN hret hp ha1 ha2 I2 R3 m5 hw
  · have hw := hw.2 hc
    refine q_aload_n F 0 dX4_becomeMoved_4 rfl rfl ?_
    refine q_aload_n F 1 dX4_becomeMoved_5 rfl rfl ?_
    refine t_g_Puzzle_rows F (kP0 ha1) ib4 wd169 dX4_becomeMoved_6 ?_
    refine q_aload_n F 1 dX4_becomeMoved_9 rfl rfl ?_
    refine t_g_Puzzle_columns F (kP0 ha1) ib4 wd165 dX4_becomeMoved_10 ?_
    refine q_aload_n F 1 dX4_becomeMoved_13 rfl rfl ?_
    refine t_g_Puzzle_highest F (kP0 ha1) ib4 wd173 dX4_becomeMoved_14 ?_
    refine q_Vv F (kcX4_begin hm hp (hm.1 _ _) (hm.1 _ _) (hm.1 _ _) hw) (cIds_in (kP0 hp).2) (cePuzzle (kP0 hp).1) (ci := 2) rfl (bV wd722 wd333 wd334 wd9 wd335) rfl ⟨rfl, rfl⟩ ydX4_begin (rmK_le hR (by omega) (by decide)) (av := [iV ((I a1 1)), iV ((I a1 0)), iV ((I a1 2))]) rfl rfl (Nat.le_of_ble_eq_true rfl) dX4_becomeMoved_17 (rmK_cs hR (by omega) (by omega)) (fun I7 R8 m10 hw => ?_)
    refine q_goto F 39 dX4_becomeMoved_20 (by decide) ?_
    exact bX4_becomeMoved_39 F hR hN hret hp ha1 ha2 I7 R8 m10 hw
theorem ydX11_change : yX11_change.cls = RX11 ∧ yX11_change.cls ≠ "java/lang/invoke/MethodHandle" ∧ yX11_change.cls ≠ "java/lang/invoke/VarHandle" ∧ (parseMethodDescriptor yX11_change.desc).map (fun d => d.parameters.length) = some 1 := by decide +kernel
def vX11_change : List Cond := Cond.code yX11_change cX11_change 2 (some .int) :: bG
set_option maxHeartbeats 4000000 in
set_option maxRecDepth 100000 in
theorem bX11_change_41 {z : Nat} {X : xC} {E : cE} (F : mF X E RX11 cX11_change bG) (hR : X.1.2.2.2 = rmK 8 (1 * z) (6 * z)) (hN : X.2.2.1.2.2.2 = 2) {Q : Int → cI → cR → Prop} {Qx : Nat → cI → cR → Prop} (hret : rI X E cX11_change (1 * z) (6 * z) Q) (hX : kXx X E cIds (some .int) (cef E) (pI Q) (pX Qx) (1 * z) (6 * z)) (hz : z = 1 ∨ ∀ k I R, ¬ Qx k I R) {a1 : Int} (ha1 : inR a1) : ∀ (y0 : Nat) (y1 : Nat) (y2 : Int) (I : cI) (R : cR), isP y0 → isP y1 → inR y2 → cM I R → wX11_change_41 Q Qx a1 y0 y1 y2 I R → cW X (0 + 1 * z) (0 + 6 * z) 41 [(0, .ref (E.1 0))] [iV y2, .ref (E.1 y1), .ref (E.1 y0)] (gw E.1 cIds (cef E (I, R)) ++ []) := by
  intro y0 y1 y2 I R hy0 hy1 hy2 hm hw
  unfold wX11_change_41 at hw
  refine q_Vv F (kcX4_becomeMoved hm hy0 hy1 hy2 hw) (cIds_in (kP0 hy0).2) (cePuzzle (kP0 hy0).1) (ci := 2) rfl (bV wd762 wd763 wd764 wd9 wd765) rfl ⟨rfl, rfl⟩ ydX4_becomeMoved (rmK_le hR (by omega) (by decide)) (av := [.ref (E.1 y1), iV y2]) rfl rfl (Nat.le_of_ble_eq_true rfl) dX11_change_41 (rmK_cs hR (by omega) (by omega)) (fun I2 R3 m5 hw => ?_)
  refine q_aload_n F 0 dX11_change_44 rfl rfl ?_
  refine q_Vv F (kcX11_takeDraft m5 hw) (cIds_in (show ckd 0 = 9 ∧ 0 < 353 by decide).2) (ceMill (show ckd 0 = 9 ∧ 0 < 353 by decide).1) (ci := 9) rfl (bV wd396 wd397 wd894 wd1 wd398) rfl ⟨rfl, rfl⟩ ydX11_takeDraft (rmK_le hR (by omega) (by decide)) (av := []) rfl rfl (Nat.le_of_ble_eq_true rfl) dX11_change_45 (rmK_cs hR (by omega) (by omega)) (fun I7 R8 m10 hw => ?_)
  refine q_aload_n F 0 dX11_change_48 rfl rfl ?_
  refine t_g_Mill_puzzle F (by decide) ib11 wd201 dX11_change_49 ?_
  refine q_Vi F (kcX4_cellCount m10 (m10.2.1) hw) (cIds_in (kP0 (m10.2.1)).2) (cePuzzle (kP0 (m10.2.1)).1) (ci := 2) rfl (bV wd580 wd404 wd405 wd9 wd406) rfl ⟨rfl, rfl⟩ ydX4_cellCount (rmK_le hR (by omega) (by decide)) (av := []) rfl rfl (Nat.le_of_ble_eq_true rfl) dX11_change_52 (rmK_cs hR (by omega) (by omega)) (fun r11 I12 R13 h14 m15 hw => ?_)
  refine q_wide (nc' := 1 * z) (ns' := 6 * z) (by omega) (by omega) ?_
  exact hret _ _ _ _ _ _ dX11_change_55 h14 m15 hw
set_option maxHeartbeats 4000000 in
set_option maxRecDepth 100000 in
theorem bX11_change_20 {z : Nat} {X : xC} {E : cE} (F : mF X E RX11 cX11_change bG) (hR : X.1.2.2.2 = rmK 8 (1 * z) (6 * z)) (hN : X.2.2.1.2.2.2 = 2) {Q : Int → cI → cR → Prop} {Qx : Nat → cI → cR → Prop} (hret : rI X E cX11_change (1 * z) (6 * z) Q) (hX : kXx X E cIds (some .int) (cef E) (pI Q) (pX Qx) (1 * z) (6 * z)) (hz : z = 1 ∨ ∀ k I R, ¬ Qx k I R) {a1 : Int} (ha1 : inR a1) : ∀ (I : cI) (R : cR), cM I R → wX11_change_20 Q Qx a1 I R → cW X (0) (0) 20 [(0, .ref (E.1 0)), (1, iV a1)] [] (gw E.1 cIds (cef E (I, R)) ++ []) := by
  intro I R hm hw
  unfold wX11_change_20 at hw
  refine q_aload_n F 0 dX11_change_20 rfl rfl ?_
  refine q_Vvx F hX (by omega) (by omega) (kcX11_requirePuzzle hX.2.2.2.2 z hz hm hw) (cIds_in (show ckd 0 = 9 ∧ 0 < 353 by decide).2) (ceMill (show ckd 0 = 9 ∧ 0 < 353 by decide).1) (ci := 9) rfl (bV wd529 wd530 wd906 wd1 wd531) rfl ⟨rfl, rfl⟩ ydX11_requirePuzzle (rmK_le hR (by omega) (by decide)) (av := []) rfl rfl (Nat.le_of_ble_eq_true rfl) dX11_change_21 (rmK_cs hR (by omega) (by omega)) (fun I2 R3 m5 hw => ?_)
  refine q_aload_n F 0 dX11_change_24 rfl rfl ?_
  refine t_g_Mill_draft F (by decide) ib11 wd202 dX11_change_25 ?_
  refine q_aload_n F 0 dX11_change_28 rfl rfl ?_
  refine t_g_Mill_puzzle F (by decide) ib11 wd201 dX11_change_29 ?_
  refine q_iload_n F 1 dX11_change_32 rfl rfl ?_
  refine q_if_ne F ha1 40 dX11_change_33 (by decide) (fun hc => ?_) (fun hc => ?_)
  · have hw := hw.1 hc
    refine q_iconst F dX11_change_40 ?_
    refine q_lv [0] rfl ?_
    exact bX11_change_41 F hR hN hret hX hz ha1 ((R3 0 8)) ((R3 0 7)) 0 I2 R3 (m5.2.2.1) (m5.2.1) (⟨by decide, by decide⟩ : inR (0)) m5 hw
  · have hw := hw.2 hc
    refine q_iconst F dX11_change_36 ?_
    refine q_goto F 41 dX11_change_37 (by decide) ?_
    refine q_lv [0] rfl ?_
    exact bX11_change_41 F hR hN hret hX hz ha1 ((R3 0 8)) ((R3 0 7)) 1 I2 R3 (m5.2.2.1) (m5.2.1) (⟨by decide, by decide⟩ : inR (1)) m5 hw
set_option maxHeartbeats 4000000 in
set_option maxRecDepth 100000 in
theorem kcX11_change {l : Launch} {D : va_G} {E : cE} (hfl : l.stackTraces = false) (z : Nat) {Qx : Nat → cI → cR → Prop} (hz : z = 1 ∨ ∀ k I R, ¬ Qx k I R) {a1 : Int} {I : cI} {R : cR} (hm : cM I R) (ha1 : inR a1) {Q : Int → cI → cR → Prop} (hw : wX11_change a1 I R Q Qx) : gMx l D E cIds yX11_change vX11_change (rmK 8 (1 * z) (6 * z)) [.ref (E.1 0), iV a1] (cef E (I, R)) (cef E) (pI Q) (pX Qx) (1 * z) (6 * z) := by
  unfold wX11_change at hw
  refine k_ofWx hfl (own := RX11) (cc := cX11_change) (maxL := 2) (ret := (some .int)) (lv := [(0, .ref (E.1 0)), (1, iV a1)]) (by decide) rfl rfl (Nat.le_of_ble_eq_true rfl) rfl ?_
  intro X hl hR hN hD F hX
  subst hl; subst hD
  have hret := mk_rIx (Q := Q) F hX
  refine q_iload_n F 1 dX11_change_0 rfl rfl ?_
  refine q_if_eq F ha1 20 dX11_change_1 (by decide) (fun hc => ?_) (fun hc => ?_)
  · have hw := hw.1 hc
    exact bX11_change_20 F hR hN hret hX hz ha1 I R hm hw
  · have hw := hw.2 hc
    refine q_iload_n F 1 dX11_change_4 rfl rfl ?_
    refine q_iconst F dX11_change_5 ?_
    refine q_icmp_eq F ha1 (⟨by decide, by decide⟩ : inR (1)) 20 dX11_change_6 (by decide) (fun hc => ?_) (fun hc => ?_)
    · have hw := hw.1 hc
      exact bX11_change_20 F hR hN hret hX hz ha1 I R hm hw
    · have hw := hw.2 hc
      exact q_thrW1 F hX hR (by decide) hz 11 (by decide) wd582 rfl dX11_change_9 dX11_change_12 dX11_change_13 dX11_change_16 dX11_change_19 (fun hz1 => by omega) (fun hz1 => by omega) hm hw
theorem ydX11_digest : yX11_digest.cls = RX11 ∧ yX11_digest.cls ≠ "java/lang/invoke/MethodHandle" ∧ yX11_digest.cls ≠ "java/lang/invoke/VarHandle" ∧ (parseMethodDescriptor yX11_digest.desc).map (fun d => d.parameters.length) = some 0 := by decide +kernel
def vX11_digest : List Cond := Cond.code yX11_digest cX11_digest 5 (some .long) :: bG
set_option maxHeartbeats 4000000 in
set_option maxRecDepth 100000 in
theorem bX11_digest_222 {X : xC} {E : cE} (F : mF X E RX11 cX11_digest bG) (hR : X.1.2.2.2 = rmK 9 (0) (0)) (hN : X.2.2.1.2.2.2 = 5) {Q : Int → cI → cR → Prop} (hret : rJ X E cX11_digest (0) (0) Q) (hfl : X.1.2.1.stackTraces = false)   : ∀ n222 : Nat, ∀ (x1 : Int) (x3 : Int) (I : cI) (R : cR), inR x3 → cM I R → wX11_digest_222 Q n222 x1 x3 I R → cW X (0) (0) 222 [(0, .ref (E.1 0)), (1, jV x1), (3, iV x3)] [] (gw E.1 cIds (cef E (I, R)) ++ []) := by
  intro n222
  induction n222 with
  | zero => intro x1 x3 I R hx3 hm hw; exact hw.elim
  | succ n222 ih =>
    intro x1 x3 I R hx3 hm hw
    change wbX11_digest_222 Q (wX11_digest_222 Q n222) x1 x3 I R at hw
    unfold wbX11_digest_222 at hw
    refine q_iload_n F 2 dX11_digest_222 rfl rfl ?_
    refine q_aload_n F 0 dX11_digest_223 rfl rfl ?_
    refine t_g_Mill_paper F (by decide) ib11 wd196 dX11_digest_224 ?_
    refine t_g_Paper_length F (by decide) ib3 wd76 dX11_digest_227 ?_
    refine q_icmp_ge F hx3 (hm.1 _ _) 256 dX11_digest_230 (by decide) (fun hc => ?_) (fun hc => ?_)
    · have hw := hw.1 hc
      refine q_lload_n F 1 dX11_digest_256 rfl rfl ?_
      exact hret _ _ _ _ _ _ dX11_digest_257 hm hw
    · have hw := hw.2 hc
      refine q_lload_n F 1 dX11_digest_233 rfl rfl ?_
      refine q_ldc2 F (n := 31) wd779 dX11_digest_234 ?_
      refine q_lmul F dX11_digest_237 ?_
      refine q_aload_n F 0 dX11_digest_238 rfl rfl ?_
      refine t_g_Mill_paper F (by decide) ib11 wd196 dX11_digest_239 ?_
      refine t_g_Paper_bytes F (by decide) ib3 wd74 9 rfl dX11_digest_242 ?_
      refine q_iload_n F 2 dX11_digest_245 rfl rfl ?_
      obtain ⟨k1, hw⟩ := hw
      refine t_ald F 1980 kA_9 k1 (by decide) dX11_digest_246 ?_
      refine q_i2l F (hm.1 _ _) dX11_digest_247 ?_
      refine q_ladd F dX11_digest_248 ?_
      refine q_lstore_n (lv' := [(0, .ref (E.1 0)), (1, jV (((x1 * 31) + (I 9 x3)))), (3, iV x3)]) F [1, 0, 2] dX11_digest_249 rfl (q_n hN (by decide)) rfl ?_
      obtain ⟨k4, hw⟩ := hw
      obtain ⟨z2, e3⟩ := ex1 (x3 + 1)
      have hw := hw z2 e3
      have hz2 : inR z2 := by rw [e3]; exact k4
      refine q_iinc (lv' := [(0, .ref (E.1 0)), (1, jV (((x1 * 31) + (I 9 x3)))), (3, iV z2)]) F 2 [1, 2, 0] dX11_digest_250 rfl (q_n hN (by decide)) e3.symm rfl ?_
      refine q_goto F 222 dX11_digest_253 (by decide) ?_
      exact ih (((x1 * 31) + (I 9 x3))) z2 I R hz2 hm hw
set_option maxHeartbeats 4000000 in
set_option maxRecDepth 100000 in
theorem bX11_digest_196 {X : xC} {E : cE} (F : mF X E RX11 cX11_digest bG) (hR : X.1.2.2.2 = rmK 9 (0) (0)) (hN : X.2.2.1.2.2.2 = 5) {Q : Int → cI → cR → Prop} (hret : rJ X E cX11_digest (0) (0) Q) (hfl : X.1.2.1.stackTraces = false)   : ∀ n196 : Nat, ∀ (x1 : Int) (x3 : Int) (I : cI) (R : cR), inR x3 → cM I R → wX11_digest_196 Q n196 x1 x3 I R → cW X (0) (0) 196 [(0, .ref (E.1 0)), (1, jV x1), (3, iV x3)] [] (gw E.1 cIds (cef E (I, R)) ++ []) := by
  intro n196
  induction n196 with
  | zero => intro x1 x3 I R hx3 hm hw; exact hw.elim
  | succ n196 ih =>
    intro x1 x3 I R hx3 hm hw
    change wbX11_digest_196 Q (wX11_digest_196 Q n196) x1 x3 I R at hw
    unfold wbX11_digest_196 at hw
    refine q_iload_n F 2 dX11_digest_196 rfl rfl ?_
    refine q_iconst F dX11_digest_197 ?_
    refine q_icmp_gt F hx3 (⟨by decide, by decide⟩ : inR (3)) 220 dX11_digest_198 (by decide) (fun hc => ?_) (fun hc => ?_)
    · have hw := hw.1 hc
      refine q_iconst F dX11_digest_220 ?_
      refine q_istore_n (lv' := [(0, .ref (E.1 0)), (1, jV x1), (3, iV 0)]) F [1, 2, 0] dX11_digest_221 rfl (q_n hN (by decide)) rfl ?_
      obtain ⟨n1, hw⟩ := hw
      exact bX11_digest_222 F hR hN hret hfl n1 x1 0 I R (⟨by decide, by decide⟩ : inR (0)) hm hw
    · have hw := hw.2 hc
      refine q_lload_n F 1 dX11_digest_201 rfl rfl ?_
      refine q_ldc2 F (n := 31) wd779 dX11_digest_202 ?_
      refine q_lmul F dX11_digest_205 ?_
      refine q_aload_n F 0 dX11_digest_206 rfl rfl ?_
      refine q_iload_n F 2 dX11_digest_207 rfl rfl ?_
      refine q_Vin F (kcX11_reasoned hfl 0 (Or.inr (fun _ _ _ h => h)) hm hx3 hw) (cIds_in (show ckd 0 = 9 ∧ 0 < 353 by decide).2) (ceMill (show ckd 0 = 9 ∧ 0 < 353 by decide).1) (ci := 9) rfl (bV wd782 wd700 wd701 wd1 wd702) rfl ⟨rfl, rfl⟩ ydX11_reasoned (rmK_le hR (by omega) (by decide)) (av := [iV x3]) rfl rfl (Nat.le_of_ble_eq_true rfl) dX11_digest_208 (rmK_cs hR (by omega) (by omega)) (fun r2 I3 R4 h5 m6 hw => ?_)
      refine q_i2l F h5 dX11_digest_211 ?_
      refine q_ladd F dX11_digest_212 ?_
      refine q_lstore_n (lv' := [(0, .ref (E.1 0)), (1, jV (((x1 * 31) + r2))), (3, iV x3)]) F [1, 0, 2] dX11_digest_213 rfl (q_n hN (by decide)) rfl ?_
      obtain ⟨k9, hw⟩ := hw
      obtain ⟨z7, e8⟩ := ex1 (x3 + 1)
      have hw := hw z7 e8
      have hz7 : inR z7 := by rw [e8]; exact k9
      refine q_iinc (lv' := [(0, .ref (E.1 0)), (1, jV (((x1 * 31) + r2))), (3, iV z7)]) F 2 [1, 2, 0] dX11_digest_214 rfl (q_n hN (by decide)) e8.symm rfl ?_
      refine q_goto F 196 dX11_digest_217 (by decide) ?_
      exact ih (((x1 * 31) + r2)) z7 I3 R4 hz7 m6 hw
set_option maxHeartbeats 4000000 in
set_option maxRecDepth 100000 in
theorem bX11_digest_150 {X : xC} {E : cE} (F : mF X E RX11 cX11_digest bG) (hR : X.1.2.2.2 = rmK 9 (0) (0)) (hN : X.2.2.1.2.2.2 = 5) {Q : Int → cI → cR → Prop} (hret : rJ X E cX11_digest (0) (0) Q) (hfl : X.1.2.1.stackTraces = false)   {K136 : Int → Int → cI → cR → Prop} (hK136 : ∀ (x1 : Int) (x3 : Int) (I : cI) (R : cR), inR x3 → cM I R → K136 x1 x3 I R → cW X (0) (0) 136 [(0, .ref (E.1 0)), (1, jV x1), (3, iV x3)] [] (gw E.1 cIds (cef E (I, R)) ++ [])) : ∀ n150 : Nat, ∀ (x1 : Int) (x3 : Int) (x4 : Int) (I : cI) (R : cR), inR x3 → inR x4 → cM I R → wX11_digest_150 Q K136 n150 x1 x3 x4 I R → cW X (0) (0) 150 [(0, .ref (E.1 0)), (1, jV x1), (3, iV x3), (4, iV x4)] [] (gw E.1 cIds (cef E (I, R)) ++ []) := by
  intro n150
  induction n150 with
  | zero => intro x1 x3 x4 I R hx3 hx4 hm hw; exact hw.elim
  | succ n150 ih =>
    intro x1 x3 x4 I R hx3 hx4 hm hw
    change wbX11_digest_150 Q K136 (wX11_digest_150 Q K136 n150) x1 x3 x4 I R at hw
    unfold wbX11_digest_150 at hw
    refine q_iload F 3 dX11_digest_150 rfl ?_
    refine q_aload_n F 0 dX11_digest_152 rfl rfl ?_
    refine t_g_Mill_puzzle F (by decide) ib11 wd201 dX11_digest_153 ?_
    refine q_Vi F (kcX4_cellCount hm (hm.2.1) hw) (cIds_in (kP0 (hm.2.1)).2) (cePuzzle (kP0 (hm.2.1)).1) (ci := 2) rfl (bV wd580 wd404 wd405 wd9 wd406) rfl ⟨rfl, rfl⟩ ydX4_cellCount (rmK_le hR (by omega) (by decide)) (av := []) rfl rfl (Nat.le_of_ble_eq_true rfl) dX11_digest_156 (rmK_cs hR (by omega) (by omega)) (fun r1 I2 R3 h4 m5 hw => ?_)
    refine q_icmp_ge F hx4 h4 188 dX11_digest_159 (by decide) (fun hc => ?_) (fun hc => ?_)
    · have hw := hw.1 hc
      obtain ⟨k8, hw⟩ := hw
      obtain ⟨z6, e7⟩ := ex1 (x3 + 1)
      have hw := hw z6 e7
      have hz6 : inR z6 := by rw [e7]; exact k8
      refine q_iinc (lv' := [(0, .ref (E.1 0)), (1, jV x1), (3, iV z6), (4, iV x4)]) F 2 [1, 2, 0, 3] dX11_digest_188 rfl (q_n hN (by decide)) e7.symm rfl ?_
      refine q_goto F 136 dX11_digest_191 (by decide) ?_
      refine q_lv [0, 1, 2] rfl ?_
      exact hK136 x1 z6 I2 R3 hz6 m5 hw
    · have hw := hw.2 hc
      refine q_lload_n F 1 dX11_digest_162 rfl rfl ?_
      refine q_ldc2 F (n := 31) wd779 dX11_digest_163 ?_
      refine q_lmul F dX11_digest_166 ?_
      refine q_aload_n F 0 dX11_digest_167 rfl rfl ?_
      refine t_g_Mill_kept F (by decide) ib11 wd197 dX11_digest_168 ?_
      refine t_g_Search_solutions F (kS0 (Or.inl rfl)) ib8 wd87 11 rfl dX11_digest_171 ?_
      refine q_iload_n F 2 dX11_digest_174 rfl rfl ?_
      obtain ⟨k9, hw⟩ := hw
      refine t_qld F (kS1 (Or.inl rfl)) k9 (15 + Int.toNat (x3)) (by omega) dX11_digest_175 ?_
      refine q_iload F 3 dX11_digest_176 rfl ?_
      obtain ⟨k10, hw⟩ := hw
      refine t_ald F 25 (kS5 (Or.inl rfl) k9) k10 (by decide) dX11_digest_178 ?_
      refine q_i2l F (m5.1 _ _) dX11_digest_179 ?_
      refine q_ladd F dX11_digest_180 ?_
      refine q_lstore_n (lv' := [(0, .ref (E.1 0)), (1, jV (((x1 * 31) + (I2 ((15 + Int.toNat (x3))) x4)))), (3, iV x3), (4, iV x4)]) F [1, 0, 2, 3] dX11_digest_181 rfl (q_n hN (by decide)) rfl ?_
      obtain ⟨k13, hw⟩ := hw
      obtain ⟨z11, e12⟩ := ex1 (x4 + 1)
      have hw := hw z11 e12
      have hz11 : inR z11 := by rw [e12]; exact k13
      refine q_iinc (lv' := [(0, .ref (E.1 0)), (1, jV (((x1 * 31) + (I2 ((15 + Int.toNat (x3))) x4)))), (3, iV x3), (4, iV z11)]) F 3 [1, 2, 3, 0] dX11_digest_182 rfl (q_n hN (by decide)) e12.symm rfl ?_
      refine q_goto F 150 dX11_digest_185 (by decide) ?_
      exact ih (((x1 * 31) + (I2 ((15 + Int.toNat (x3))) x4))) x3 z11 I2 R3 hx3 hz11 m5 hw
set_option maxHeartbeats 4000000 in
set_option maxRecDepth 100000 in
theorem bX11_digest_136 {X : xC} {E : cE} (F : mF X E RX11 cX11_digest bG) (hR : X.1.2.2.2 = rmK 9 (0) (0)) (hN : X.2.2.1.2.2.2 = 5) {Q : Int → cI → cR → Prop} (hret : rJ X E cX11_digest (0) (0) Q) (hfl : X.1.2.1.stackTraces = false)   : ∀ n136 : Nat, ∀ (x1 : Int) (x3 : Int) (I : cI) (R : cR), inR x3 → cM I R → wX11_digest_136 Q n136 x1 x3 I R → cW X (0) (0) 136 [(0, .ref (E.1 0)), (1, jV x1), (3, iV x3)] [] (gw E.1 cIds (cef E (I, R)) ++ []) := by
  intro n136
  induction n136 with
  | zero => intro x1 x3 I R hx3 hm hw; exact hw.elim
  | succ n136 ih =>
    intro x1 x3 I R hx3 hm hw
    change wbX11_digest_136 Q (wX11_digest_136 Q n136) x1 x3 I R at hw
    unfold wbX11_digest_136 at hw
    refine q_iload_n F 2 dX11_digest_136 rfl rfl ?_
    refine q_aload_n F 0 dX11_digest_137 rfl rfl ?_
    refine t_g_Mill_kept F (by decide) ib11 wd197 dX11_digest_138 ?_
    refine t_g_Search_found F (kS0 (Or.inl rfl)) ib8 wd89 dX11_digest_141 ?_
    refine q_icmp_ge F hx3 (hm.1 _ _) 194 dX11_digest_144 (by decide) (fun hc => ?_) (fun hc => ?_)
    · have hw := hw.1 hc
      refine q_iconst F dX11_digest_194 ?_
      refine q_istore_n (lv' := [(0, .ref (E.1 0)), (1, jV x1), (3, iV 0)]) F [1, 2, 0] dX11_digest_195 rfl (q_n hN (by decide)) rfl ?_
      obtain ⟨n1, hw⟩ := hw
      exact bX11_digest_196 F hR hN hret hfl n1 x1 0 I R (⟨by decide, by decide⟩ : inR (0)) hm hw
    · have hw := hw.2 hc
      refine q_iconst F dX11_digest_147 ?_
      refine q_istore (lv' := [(0, .ref (E.1 0)), (1, jV x1), (3, iV x3), (4, iV 0)]) F [1, 2, 3, 0] dX11_digest_148 (q_n hN (by decide)) rfl ?_
      obtain ⟨n2, hw⟩ := hw
      exact bX11_digest_150 F hR hN hret hfl ih n2 x1 x3 0 I R hx3 (⟨by decide, by decide⟩ : inR (0)) hm hw
set_option maxHeartbeats 4000000 in
set_option maxRecDepth 100000 in
theorem bX11_digest_83 {X : xC} {E : cE} (F : mF X E RX11 cX11_digest bG) (hR : X.1.2.2.2 = rmK 9 (0) (0)) (hN : X.2.2.1.2.2.2 = 5) {Q : Int → cI → cR → Prop} (hret : rJ X E cX11_digest (0) (0) Q) (hfl : X.1.2.1.stackTraces = false)   : ∀ n83 : Nat, ∀ (x1 : Int) (x3 : Int) (I : cI) (R : cR), inR x3 → cM I R → wX11_digest_83 Q n83 x1 x3 I R → cW X (0) (0) 83 [(0, .ref (E.1 0)), (1, jV x1), (3, iV x3)] [] (gw E.1 cIds (cef E (I, R)) ++ []) := by
  intro n83
  induction n83 with
  | zero => intro x1 x3 I R hx3 hm hw; exact hw.elim
  | succ n83 ih =>
    intro x1 x3 I R hx3 hm hw
    change wbX11_digest_83 Q (wX11_digest_83 Q n83) x1 x3 I R at hw
    unfold wbX11_digest_83 at hw
    refine q_iload_n F 2 dX11_digest_83 rfl rfl ?_
    refine q_aload_n F 0 dX11_digest_84 rfl rfl ?_
    refine t_g_Mill_puzzle F (by decide) ib11 wd201 dX11_digest_85 ?_
    refine q_Vi F (kcX4_cellCount hm (hm.2.1) hw) (cIds_in (kP0 (hm.2.1)).2) (cePuzzle (kP0 (hm.2.1)).1) (ci := 2) rfl (bV wd580 wd404 wd405 wd9 wd406) rfl ⟨rfl, rfl⟩ ydX4_cellCount (rmK_le hR (by omega) (by decide)) (av := []) rfl rfl (Nat.le_of_ble_eq_true rfl) dX11_digest_88 (rmK_cs hR (by omega) (by omega)) (fun r1 I2 R3 h4 m5 hw => ?_)
    refine q_icmp_ge F hx3 h4 134 dX11_digest_91 (by decide) (fun hc => ?_) (fun hc => ?_)
    · have hw := hw.1 hc
      refine q_iconst F dX11_digest_134 ?_
      refine q_istore_n (lv' := [(0, .ref (E.1 0)), (1, jV x1), (3, iV 0)]) F [1, 2, 0] dX11_digest_135 rfl (q_n hN (by decide)) rfl ?_
      obtain ⟨n6, hw⟩ := hw
      exact bX11_digest_136 F hR hN hret hfl n6 x1 0 I2 R3 (⟨by decide, by decide⟩ : inR (0)) m5 hw
    · have hw := hw.2 hc
      refine q_lload_n F 1 dX11_digest_94 rfl rfl ?_
      refine q_ldc2 F (n := 31) wd779 dX11_digest_95 ?_
      refine q_lmul F dX11_digest_98 ?_
      refine q_aload_n F 0 dX11_digest_99 rfl rfl ?_
      refine t_g_Mill_puzzle F (by decide) ib11 wd201 dX11_digest_100 ?_
      refine t_g_Puzzle_grid F (kP0 (m5.2.1)) ib4 wd183 ((R3 0 7) + 1) rfl dX11_digest_103 ?_
      refine q_iload_n F 2 dX11_digest_106 rfl rfl ?_
      obtain ⟨k7, hw⟩ := hw
      refine t_ald F 25 (kP1 (m5.2.1)) k7 (by decide) dX11_digest_107 ?_
      refine q_i2l F (m5.1 _ _) dX11_digest_108 ?_
      refine q_ladd F dX11_digest_109 ?_
      refine q_lstore_n (lv' := [(0, .ref (E.1 0)), (1, jV (((x1 * 31) + (I2 ((R3 0 7) + 1) x3)))), (3, iV x3)]) F [1, 0, 2] dX11_digest_110 rfl (q_n hN (by decide)) rfl ?_
      refine q_lload_n F 1 dX11_digest_111 rfl rfl ?_
      refine q_ldc2 F (n := 31) wd779 dX11_digest_112 ?_
      refine q_lmul F dX11_digest_115 ?_
      refine q_aload_n F 0 dX11_digest_116 rfl rfl ?_
      refine t_g_Mill_reasoner F (by decide) ib11 wd199 dX11_digest_117 ?_
      refine t_g_Reasoner_sets F (by decide) ib6 wd105 81 rfl dX11_digest_120 ?_
      refine q_iload_n F 2 dX11_digest_123 rfl rfl ?_
      obtain ⟨k8, hw⟩ := hw
      refine t_ald F 25 kA_81 k8 (by decide) dX11_digest_124 ?_
      refine q_i2l F (m5.1 _ _) dX11_digest_125 ?_
      refine q_ladd F dX11_digest_126 ?_
      refine q_lstore_n (lv' := [(0, .ref (E.1 0)), (1, jV (((((x1 * 31) + (I2 ((R3 0 7) + 1) x3)) * 31) + (I2 81 x3)))), (3, iV x3)]) F [1, 0, 2] dX11_digest_127 rfl (q_n hN (by decide)) rfl ?_
      obtain ⟨k11, hw⟩ := hw
      obtain ⟨z9, e10⟩ := ex1 (x3 + 1)
      have hw := hw z9 e10
      have hz9 : inR z9 := by rw [e10]; exact k11
      refine q_iinc (lv' := [(0, .ref (E.1 0)), (1, jV (((((x1 * 31) + (I2 ((R3 0 7) + 1) x3)) * 31) + (I2 81 x3)))), (3, iV z9)]) F 2 [1, 2, 0] dX11_digest_128 rfl (q_n hN (by decide)) e10.symm rfl ?_
      refine q_goto F 83 dX11_digest_131 (by decide) ?_
      exact ih (((((x1 * 31) + (I2 ((R3 0 7) + 1) x3)) * 31) + (I2 81 x3))) z9 I2 R3 hz9 m5 hw
set_option maxHeartbeats 4000000 in
set_option maxRecDepth 100000 in
theorem bX11_digest_47 {X : xC} {E : cE} (F : mF X E RX11 cX11_digest bG) (hR : X.1.2.2.2 = rmK 9 (0) (0)) (hN : X.2.2.1.2.2.2 = 5) {Q : Int → cI → cR → Prop} (hret : rJ X E cX11_digest (0) (0) Q) (hfl : X.1.2.1.stackTraces = false)   {K33 : Int → Int → cI → cR → Prop} (hK33 : ∀ (x1 : Int) (x3 : Int) (I : cI) (R : cR), inR x3 → cM I R → K33 x1 x3 I R → cW X (0) (0) 33 [(0, .ref (E.1 0)), (1, jV x1), (3, iV x3)] [] (gw E.1 cIds (cef E (I, R)) ++ [])) : ∀ n47 : Nat, ∀ (x1 : Int) (x3 : Int) (x4 : Int) (I : cI) (R : cR), inR x3 → inR x4 → cM I R → wX11_digest_47 Q K33 n47 x1 x3 x4 I R → cW X (0) (0) 47 [(0, .ref (E.1 0)), (1, jV x1), (3, iV x3), (4, iV x4)] [] (gw E.1 cIds (cef E (I, R)) ++ []) := by
  intro n47
  induction n47 with
  | zero => intro x1 x3 x4 I R hx3 hx4 hm hw; exact hw.elim
  | succ n47 ih =>
    intro x1 x3 x4 I R hx3 hx4 hm hw
    change wbX11_digest_47 Q K33 (wX11_digest_47 Q K33 n47) x1 x3 x4 I R at hw
    unfold wbX11_digest_47 at hw
    refine q_iload F 3 dX11_digest_47 rfl ?_
    refine q_bipush F dX11_digest_49 (by decide) ?_
    refine q_icmp_gt F hx4 (⟨by decide, by decide⟩ : inR (9)) 75 dX11_digest_51 (by decide) (fun hc => ?_) (fun hc => ?_)
    · have hw := hw.1 hc
      obtain ⟨k3, hw⟩ := hw
      obtain ⟨z1, e2⟩ := ex1 (x3 + 1)
      have hw := hw z1 e2
      have hz1 : inR z1 := by rw [e2]; exact k3
      refine q_iinc (lv' := [(0, .ref (E.1 0)), (1, jV x1), (3, iV z1), (4, iV x4)]) F 2 [1, 2, 0, 3] dX11_digest_75 rfl (q_n hN (by decide)) e2.symm rfl ?_
      refine q_goto F 33 dX11_digest_78 (by decide) ?_
      refine q_lv [0, 1, 2] rfl ?_
      exact hK33 x1 z1 I R hz1 hm hw
    · have hw := hw.2 hc
      refine q_lload_n F 1 dX11_digest_54 rfl rfl ?_
      refine q_ldc2 F (n := 31) wd779 dX11_digest_55 ?_
      refine q_lmul F dX11_digest_58 ?_
      refine q_aload_n F 0 dX11_digest_59 rfl rfl ?_
      refine q_iload_n F 2 dX11_digest_60 rfl rfl ?_
      refine q_iload F 3 dX11_digest_61 rfl ?_
      refine q_Vin F (kcX11_rule hfl 0 (Or.inr (fun _ _ _ h => h)) hm hx3 hx4 hw) (cIds_in (show ckd 0 = 9 ∧ 0 < 353 by decide).2) (ceMill (show ckd 0 = 9 ∧ 0 < 353 by decide).1) (ci := 9) rfl (bV wd781 wd504 wd505 wd1 wd506) rfl ⟨rfl, rfl⟩ ydX11_rule (rmK_le hR (by omega) (by decide)) (av := [iV x3, iV x4]) rfl rfl (Nat.le_of_ble_eq_true rfl) dX11_digest_63 (rmK_cs hR (by omega) (by omega)) (fun r4 I5 R6 h7 m8 hw => ?_)
      refine q_i2l F h7 dX11_digest_66 ?_
      refine q_ladd F dX11_digest_67 ?_
      refine q_lstore_n (lv' := [(0, .ref (E.1 0)), (1, jV (((x1 * 31) + r4))), (3, iV x3), (4, iV x4)]) F [1, 0, 2, 3] dX11_digest_68 rfl (q_n hN (by decide)) rfl ?_
      obtain ⟨k11, hw⟩ := hw
      obtain ⟨z9, e10⟩ := ex1 (x4 + 1)
      have hw := hw z9 e10
      have hz9 : inR z9 := by rw [e10]; exact k11
      refine q_iinc (lv' := [(0, .ref (E.1 0)), (1, jV (((x1 * 31) + r4))), (3, iV x3), (4, iV z9)]) F 3 [1, 2, 3, 0] dX11_digest_69 rfl (q_n hN (by decide)) e10.symm rfl ?_
      refine q_goto F 47 dX11_digest_72 (by decide) ?_
      exact ih (((x1 * 31) + r4)) x3 z9 I5 R6 hx3 hz9 m8 hw
set_option maxHeartbeats 4000000 in
set_option maxRecDepth 100000 in
theorem bX11_digest_33 {X : xC} {E : cE} (F : mF X E RX11 cX11_digest bG) (hR : X.1.2.2.2 = rmK 9 (0) (0)) (hN : X.2.2.1.2.2.2 = 5) {Q : Int → cI → cR → Prop} (hret : rJ X E cX11_digest (0) (0) Q) (hfl : X.1.2.1.stackTraces = false)   : ∀ n33 : Nat, ∀ (x1 : Int) (x3 : Int) (I : cI) (R : cR), inR x3 → cM I R → wX11_digest_33 Q n33 x1 x3 I R → cW X (0) (0) 33 [(0, .ref (E.1 0)), (1, jV x1), (3, iV x3)] [] (gw E.1 cIds (cef E (I, R)) ++ []) := by
  intro n33
  induction n33 with
  | zero => intro x1 x3 I R hx3 hm hw; exact hw.elim
  | succ n33 ih =>
    intro x1 x3 I R hx3 hm hw
    change wbX11_digest_33 Q (wX11_digest_33 Q n33) x1 x3 I R at hw
    unfold wbX11_digest_33 at hw
    refine q_iload_n F 2 dX11_digest_33 rfl rfl ?_
    refine q_aload_n F 0 dX11_digest_34 rfl rfl ?_
    refine t_g_Mill_puzzle F (by decide) ib11 wd201 dX11_digest_35 ?_
    refine t_g_Puzzle_ruleCount F (kP0 (hm.2.1)) ib4 wd191 dX11_digest_38 ?_
    refine q_icmp_ge F hx3 (hm.1 _ _) 81 dX11_digest_41 (by decide) (fun hc => ?_) (fun hc => ?_)
    · have hw := hw.1 hc
      refine q_iconst F dX11_digest_81 ?_
      refine q_istore_n (lv' := [(0, .ref (E.1 0)), (1, jV x1), (3, iV 0)]) F [1, 2, 0] dX11_digest_82 rfl (q_n hN (by decide)) rfl ?_
      obtain ⟨n1, hw⟩ := hw
      exact bX11_digest_83 F hR hN hret hfl n1 x1 0 I R (⟨by decide, by decide⟩ : inR (0)) hm hw
    · have hw := hw.2 hc
      refine q_iconst F dX11_digest_44 ?_
      refine q_istore (lv' := [(0, .ref (E.1 0)), (1, jV x1), (3, iV x3), (4, iV 0)]) F [1, 2, 3, 0] dX11_digest_45 (q_n hN (by decide)) rfl ?_
      obtain ⟨n2, hw⟩ := hw
      exact bX11_digest_47 F hR hN hret hfl ih n2 x1 x3 0 I R hx3 (⟨by decide, by decide⟩ : inR (0)) hm hw
set_option maxHeartbeats 4000000 in
set_option maxRecDepth 100000 in
theorem bX11_digest_6 {X : xC} {E : cE} (F : mF X E RX11 cX11_digest bG) (hR : X.1.2.2.2 = rmK 9 (0) (0)) (hN : X.2.2.1.2.2.2 = 5) {Q : Int → cI → cR → Prop} (hret : rJ X E cX11_digest (0) (0) Q) (hfl : X.1.2.1.stackTraces = false)   : ∀ n6 : Nat, ∀ (x1 : Int) (x3 : Int) (I : cI) (R : cR), inR x3 → cM I R → wX11_digest_6 Q n6 x1 x3 I R → cW X (0) (0) 6 [(0, .ref (E.1 0)), (1, jV x1), (3, iV x3)] [] (gw E.1 cIds (cef E (I, R)) ++ []) := by
  intro n6
  induction n6 with
  | zero => intro x1 x3 I R hx3 hm hw; exact hw.elim
  | succ n6 ih =>
    intro x1 x3 I R hx3 hm hw
    change wbX11_digest_6 Q (wX11_digest_6 Q n6) x1 x3 I R at hw
    unfold wbX11_digest_6 at hw
    refine q_iload_n F 2 dX11_digest_6 rfl rfl ?_
    refine q_bipush F dX11_digest_7 (by decide) ?_
    refine q_icmp_gt F hx3 (⟨by decide, by decide⟩ : inR (10)) 31 dX11_digest_9 (by decide) (fun hc => ?_) (fun hc => ?_)
    · have hw := hw.1 hc
      refine q_iconst F dX11_digest_31 ?_
      refine q_istore_n (lv' := [(0, .ref (E.1 0)), (1, jV x1), (3, iV 0)]) F [1, 2, 0] dX11_digest_32 rfl (q_n hN (by decide)) rfl ?_
      obtain ⟨n1, hw⟩ := hw
      exact bX11_digest_33 F hR hN hret hfl n1 x1 0 I R (⟨by decide, by decide⟩ : inR (0)) hm hw
    · have hw := hw.2 hc
      refine q_lload_n F 1 dX11_digest_12 rfl rfl ?_
      refine q_ldc2 F (n := 31) wd779 dX11_digest_13 ?_
      refine q_lmul F dX11_digest_16 ?_
      refine q_aload_n F 0 dX11_digest_17 rfl rfl ?_
      refine q_iload_n F 2 dX11_digest_18 rfl rfl ?_
      refine q_Vin F (kcX11_count hfl 0 (Or.inr (fun _ _ _ h => h)) hm hx3 hw) (cIds_in (show ckd 0 = 9 ∧ 0 < 353 by decide).2) (ceMill (show ckd 0 = 9 ∧ 0 < 353 by decide).1) (ci := 9) rfl (bV wd780 wd409 wd410 wd1 wd411) rfl ⟨rfl, rfl⟩ ydX11_count (rmK_le hR (by omega) (by decide)) (av := [iV x3]) rfl rfl (Nat.le_of_ble_eq_true rfl) dX11_digest_19 (rmK_cs hR (by omega) (by omega)) (fun r2 I3 R4 h5 m6 hw => ?_)
      refine q_i2l F h5 dX11_digest_22 ?_
      refine q_ladd F dX11_digest_23 ?_
      refine q_lstore_n (lv' := [(0, .ref (E.1 0)), (1, jV (((x1 * 31) + r2))), (3, iV x3)]) F [1, 0, 2] dX11_digest_24 rfl (q_n hN (by decide)) rfl ?_
      obtain ⟨k9, hw⟩ := hw
      obtain ⟨z7, e8⟩ := ex1 (x3 + 1)
      have hw := hw z7 e8
      have hz7 : inR z7 := by rw [e8]; exact k9
      refine q_iinc (lv' := [(0, .ref (E.1 0)), (1, jV (((x1 * 31) + r2))), (3, iV z7)]) F 2 [1, 2, 0] dX11_digest_25 rfl (q_n hN (by decide)) e8.symm rfl ?_
      refine q_goto F 6 dX11_digest_28 (by decide) ?_
      exact ih (((x1 * 31) + r2)) z7 I3 R4 hz7 m6 hw
set_option maxHeartbeats 4000000 in
set_option maxRecDepth 100000 in
theorem kcX11_digest {l : Launch} {D : va_G} {E : cE} (hfl : l.stackTraces = false) {I : cI} {R : cR} (hm : cM I R)  {Q : Int → cI → cR → Prop} (hw : wX11_digest  I R Q) : gM l D E cIds yX11_digest vX11_digest (rmK 9 (0) (0)) [.ref (E.1 0)] (cef E (I, R)) (cef E) (pJ Q) (0) (0) := by
  unfold wX11_digest at hw
  refine k_ofW (own := RX11) (cc := cX11_digest) (maxL := 5) (ret := (some .long)) (lv := [(0, .ref (E.1 0))]) (by decide) rfl rfl (Nat.le_of_ble_eq_true rfl) rfl ?_
  intro X hl hR hN hD F K
  subst hl; subst hD
  have hret := mk_rJ (Q := Q) F K
  refine q_ldc2 F (n := 457) wd778 dX11_digest_0 ?_
  refine q_lstore_n (lv' := [(0, .ref (E.1 0)), (1, jV 457)]) F [1, 0] dX11_digest_3 rfl (q_n hN (by decide)) rfl ?_
  refine q_iconst F dX11_digest_4 ?_
  refine q_istore_n (lv' := [(0, .ref (E.1 0)), (1, jV 457), (3, iV 0)]) F [1, 2, 0] dX11_digest_5 rfl (q_n hN (by decide)) rfl ?_
  obtain ⟨n1, hw⟩ := hw
  exact bX11_digest_6 F hR hN hret hfl n1 457 0 I R (⟨by decide, by decide⟩ : inR (0)) hm hw
