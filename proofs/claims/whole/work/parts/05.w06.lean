/-! ===== walks: X12_reasonTold, X12_reasoned, X12_drawn, X12_thinOut, X12_make, X12_change ===== -/
theorem ydX12_reasonTold : yX12_reasonTold.cls = RX12 ∧ yX12_reasonTold.cls ≠ "java/lang/invoke/MethodHandle" ∧ yX12_reasonTold.cls ≠ "java/lang/invoke/VarHandle" ∧ (parseMethodDescriptor yX12_reasonTold.desc).map (fun d => d.parameters.length) = some 1 := by decide +kernel
def vX12_reasonTold : List Cond := Cond.code yX12_reasonTold cX12_reasonTold 2 (some .int) :: bG
set_option maxHeartbeats 4000000 in
set_option maxRecDepth 100000 in
theorem bX12_reasonTold_34 {X : xC} {E : cE} (F : mF X E RX12 cX12_reasonTold bG) (hR : X.1.2.2.2 = rmK 3 (0) (0)) (hN : X.2.2.1.2.2.2 = 2) {Q : Int → cI → Prop} (hret : rIM X E cX12_reasonTold (0) (0) Q) {a1 : Int} (ha1 : inR a1) : ∀ (y1 : Int) (J : cI), inR y1 → mM J → wX12_reasonTold_34 Q a1 y1 J → cW X (0) (0) 34 [] [iV y1, .ref (E.1 1000)] (gw E.1 mIds (mef E J) ++ []) := by
  intro y1 J hy1 hm hw
  unfold wX12_reasonTold_34 at hw
  refine q_ViM F (kcX12_withValues hm hy1 hw) (by decide) meObj (ci := 10) rfl (bV wd1164 wd1165 wd1333 wd13 wd1166) rfl ⟨rfl, rfl⟩ ydX12_withValues (rmK_le hR (by omega) (by decide)) (av := [iV y1]) rfl rfl (Nat.le_of_ble_eq_true rfl) dX12_reasonTold_34 (rmK_cs hR (by omega) (by omega)) (fun r1 J2 h3 m4 hw => ?_)
  exact hret _ _ _ _ _ dX12_reasonTold_37 h3 m4 hw
set_option maxHeartbeats 4000000 in
set_option maxRecDepth 100000 in
theorem kcX12_reasonTold {l : Launch} {D : va_G} {E : cE} {a1 : Int} {J : cI} (hm : mM J) (ha1 : inR a1) {Q : Int → cI → Prop} (hw : wX12_reasonTold a1 J Q) : gM l D E mIds yX12_reasonTold vX12_reasonTold (rmK 3 (0) (0)) [.ref (E.1 1000), iV a1] (mef E J) (mef E) (oI Q) (0) (0) := by
  unfold wX12_reasonTold at hw
  refine k_ofW (own := RX12) (cc := cX12_reasonTold) (maxL := 2) (ret := (some .int)) (lv := [(0, .ref (E.1 1000)), (1, iV a1)]) (by decide) rfl rfl (Nat.le_of_ble_eq_true rfl) rfl ?_
  intro X hl hR hN hD F K
  subst hl; subst hD
  have hret := mk_rIM (Q := Q) F K
  refine q_iload_n F 1 dX12_reasonTold_0 rfl rfl ?_
  refine q_if_ne F ha1 11 dX12_reasonTold_1 (by decide) (fun hc => ?_) (fun hc => ?_)
  · have hw := hw.1 hc
    refine q_iload_n F 1 dX12_reasonTold_11 rfl rfl ?_
    refine q_iconst F dX12_reasonTold_12 ?_
    refine q_icmp_ne F ha1 (⟨by decide, by decide⟩ : inR (1)) 23 dX12_reasonTold_13 (by decide) (fun hc => ?_) (fun hc => ?_)
    · have hw := hw.1 hc
      refine q_aload_n F 0 dX12_reasonTold_23 rfl rfl ?_
      refine q_iload_n F 1 dX12_reasonTold_24 rfl rfl ?_
      refine q_iconst F dX12_reasonTold_25 ?_
      refine q_icmp_ne F ha1 (⟨by decide, by decide⟩ : inR (3)) 33 dX12_reasonTold_26 (by decide) (fun hc => ?_) (fun hc => ?_)
      · have hw := hw.1 hc
        refine q_iconst F dX12_reasonTold_33 ?_
        refine q_lv [] rfl ?_
        exact bX12_reasonTold_34 F hR hN hret ha1 0 J (⟨by decide, by decide⟩ : inR (0)) hm hw
      · have hw := hw.2 hc
        refine q_iconst F dX12_reasonTold_29 ?_
        refine q_goto F 34 dX12_reasonTold_30 (by decide) ?_
        refine q_lv [] rfl ?_
        exact bX12_reasonTold_34 F hR hN hret ha1 1 J (⟨by decide, by decide⟩ : inR (1)) hm hw
    · have hw := hw.2 hc
      refine q_aload_n F 0 dX12_reasonTold_16 rfl rfl ?_
      refine s_g_grade F ib12 wd905 dX12_reasonTold_17 ?_
      refine q_goto F 37 dX12_reasonTold_20 (by decide) ?_
      exact hret _ _ _ _ _ dX12_reasonTold_37 (hm _ _) hm hw
  · have hw := hw.2 hc
    refine q_aload_n F 0 dX12_reasonTold_4 rfl rfl ?_
    refine s_g_passes F ib12 wd904 dX12_reasonTold_5 ?_
    refine q_goto F 37 dX12_reasonTold_8 (by decide) ?_
    exact hret _ _ _ _ _ dX12_reasonTold_37 (hm _ _) hm hw
theorem ydX12_reasoned : yX12_reasoned.cls = RX12 ∧ yX12_reasoned.cls ≠ "java/lang/invoke/MethodHandle" ∧ yX12_reasoned.cls ≠ "java/lang/invoke/VarHandle" ∧ (parseMethodDescriptor yX12_reasoned.desc).map (fun d => d.parameters.length) = some 1 := by decide +kernel
def vX12_reasoned : List Cond := Cond.code yX12_reasoned cX12_reasoned 2 (some .int) :: bG
set_option maxHeartbeats 4000000 in
set_option maxRecDepth 100000 in
theorem kcX12_reasoned {l : Launch} {D : va_G} {E : cE} {a1 : Int} {J : cI} (hm : mM J) (ha1 : inR a1) {Q : Int → cI → Prop} (hw : wX12_reasoned a1 J Q) : gM l D E mIds yX12_reasoned vX12_reasoned (rmK 4 (0) (0)) [.ref (E.1 1000), iV a1] (mef E J) (mef E) (oI Q) (0) (0) := by
  unfold wX12_reasoned at hw
  refine k_ofW (own := RX12) (cc := cX12_reasoned) (maxL := 2) (ret := (some .int)) (lv := [(0, .ref (E.1 1000)), (1, iV a1)]) (by decide) rfl rfl (Nat.le_of_ble_eq_true rfl) rfl ?_
  intro X hl hR hN hD F K
  subst hl; subst hD
  have hret := mk_rIM (Q := Q) F K
  refine q_aload_n F 0 dX12_reasoned_0 rfl rfl ?_
  refine q_iconst F dX12_reasoned_1 ?_
  obtain ⟨J1, e2⟩ := ex1 (up2 J 1000 0 0)
  have hw := hw J1 e2
  have m3 : mM J1 := mM_I hm e2 (⟨by decide, by decide⟩ : inR (0))
  refine s_p_thrown F ib12 wd873 e2 dX12_reasoned_2 ?_
  refine q_iload_n F 1 dX12_reasoned_5 rfl rfl ?_
  refine q_iconst F dX12_reasoned_6 ?_
  refine q_iconst F dX12_reasoned_7 ?_
  refine q_SiM F (kcX12_isIn m3 ha1 (⟨by decide, by decide⟩ : inR (0)) (⟨by decide, by decide⟩ : inR (3)) hw) (bS wd932 wd933 wd13 wd934) rfl ⟨rfl, rfl⟩ ydX12_isIn (rmK_le hR (by omega) (by decide)) (av := [iV a1, iV 0, iV 3]) rfl rfl (Nat.le_of_ble_eq_true rfl) dX12_reasoned_8 (rmK_cs hR (by omega) (by omega)) (fun r4 J5 h6 m7 hw => ?_)
  refine q_if_eq F h6 22 dX12_reasoned_11 (by decide) (fun hc => ?_) (fun hc => ?_)
  · have hw := hw.1 hc
    refine q_aload_n F 0 dX12_reasoned_22 rfl rfl ?_
    refine q_iconst F dX12_reasoned_23 ?_
    refine q_ViM F (kcX12_no m7 (⟨by decide, by decide⟩ : inR (1)) hw) (by decide) meObj (ci := 10) rfl (bV wd925 wd926 wd1285 wd13 wd927) rfl ⟨rfl, rfl⟩ ydX12_no (rmK_le hR (by omega) (by decide)) (av := [iV 1]) rfl rfl (Nat.le_of_ble_eq_true rfl) dX12_reasoned_24 (rmK_cs hR (by omega) (by omega)) (fun r8 J9 h10 m11 hw => ?_)
    exact hret _ _ _ _ _ dX12_reasoned_27 h10 m11 hw
  · have hw := hw.2 hc
    refine q_aload_n F 0 dX12_reasoned_14 rfl rfl ?_
    refine q_iload_n F 1 dX12_reasoned_15 rfl rfl ?_
    refine q_ViM F (kcX12_reasonTold m7 ha1 hw) (by decide) meObj (ci := 10) rfl (bV wd1161 wd1162 wd1332 wd13 wd1163) rfl ⟨rfl, rfl⟩ ydX12_reasonTold (rmK_le hR (by omega) (by decide)) (av := [iV a1]) rfl rfl (Nat.le_of_ble_eq_true rfl) dX12_reasoned_16 (rmK_cs hR (by omega) (by omega)) (fun r12 J13 h14 m15 hw => ?_)
    refine q_goto F 27 dX12_reasoned_19 (by decide) ?_
    exact hret _ _ _ _ _ dX12_reasoned_27 h14 m15 hw
theorem ydX12_drawn : yX12_drawn.cls = RX12 ∧ yX12_drawn.cls ≠ "java/lang/invoke/MethodHandle" ∧ yX12_drawn.cls ≠ "java/lang/invoke/VarHandle" ∧ (parseMethodDescriptor yX12_drawn.desc).map (fun d => d.parameters.length) = some 0 := by decide +kernel
def vX12_drawn : List Cond := Cond.code yX12_drawn cX12_drawn 1 (some .int) :: bG
set_option maxHeartbeats 4000000 in
set_option maxRecDepth 100000 in
theorem kcX12_drawn {l : Launch} {D : va_G} {E : cE} {J : cI} (hm : mM J)  {Q : Int → cI → Prop} (hw : wX12_drawn  J Q) : gM l D E mIds yX12_drawn vX12_drawn (rmK 1 (0) (0)) [.ref (E.1 1000)] (mef E J) (mef E) (oI Q) (0) (0) := by
  unfold wX12_drawn at hw
  refine k_ofW (own := RX12) (cc := cX12_drawn) (maxL := 1) (ret := (some .int)) (lv := [(0, .ref (E.1 1000))]) (by decide) rfl rfl (Nat.le_of_ble_eq_true rfl) rfl ?_
  intro X hl hR hN hD F K
  subst hl; subst hD
  have hret := mk_rIM (Q := Q) F K
  refine q_aload_n F 0 dX12_drawn_0 rfl rfl ?_
  refine q_aload_n F 0 dX12_drawn_1 rfl rfl ?_
  refine s_g_seed F ib12 wd916 dX12_drawn_2 ?_
  refine q_sipush F dX12_drawn_5 (by decide) ?_
  refine q_imul F dX12_drawn_8 ?_
  refine q_sipush F dX12_drawn_9 (by decide) ?_
  refine q_iadd F dX12_drawn_12 ?_
  refine q_ldc_w F (n := 65536) (show Cond.constant RX12 338 (Int32.ofInt 65536) ∈ bG by rw [show Int32.ofInt 65536 = 65536 by decide]; exact wd1175) dX12_drawn_13 ?_
  obtain ⟨k1, hw⟩ := hw
  obtain ⟨k2, hw⟩ := hw
  refine q_irem F ⟨⟨k2, (k1).2⟩, by decide, by decide⟩ dX12_drawn_16 ?_
  obtain ⟨k3, hw⟩ := hw
  obtain ⟨J4, e5⟩ := ex1 (up2 J 1000 43 (((((J 1000 43) * 1103) + 12345) % 65536)))
  have hw := hw J4 e5
  have m6 : mM J4 := mM_I hm e5 k3
  refine s_p_seed F ib12 wd916 e5 dX12_drawn_17 ?_
  refine q_aload_n F 0 dX12_drawn_20 rfl rfl ?_
  refine s_g_seed F ib12 wd916 dX12_drawn_21 ?_
  refine q_bipush F dX12_drawn_24 (by decide) ?_
  obtain ⟨k7, hw⟩ := hw
  refine q_idiv F ⟨⟨k7, ((m6 _ _)).2⟩, by decide, by decide⟩ dX12_drawn_26 ?_
  obtain ⟨k8, hw⟩ := hw
  exact hret _ _ _ _ _ dX12_drawn_27 k8 m6 hw
theorem ydX12_thinOut : yX12_thinOut.cls = RX12 ∧ yX12_thinOut.cls ≠ "java/lang/invoke/MethodHandle" ∧ yX12_thinOut.cls ≠ "java/lang/invoke/VarHandle" ∧ (parseMethodDescriptor yX12_thinOut.desc).map (fun d => d.parameters.length) = some 1 := by decide +kernel
def vX12_thinOut : List Cond := Cond.code yX12_thinOut cX12_thinOut 5 none :: bG
set_option maxHeartbeats 4000000 in
set_option maxRecDepth 100000 in
theorem bX12_thinOut_73 {X : xC} {E : cE} (F : mF X E RX12 cX12_thinOut bG) (hR : X.1.2.2.2 = rmK 6 (26) (650)) (hN : X.2.2.1.2.2.2 = 5) {Q : cI → Prop} (hret : rVM X E cX12_thinOut (26) (650) Q) {n17 : Nat} (hn17 : n17 + 1 ≤ 26) {a1 : Int} (ha1 : inR a1) {K17 : Int → Int → cI → Prop} (hK17 : ∀ (x2 : Int) (x3 : Int) (J : cI), inR x2 → inR x3 → mM J → K17 x2 x3 J → cW X (0 + (26 - n17) * 1) (0 + (26 - n17) * 25) 17 [(0, .ref (E.1 1000)), (1, iV a1), (2, iV x2), (3, iV x3)] [] (gw E.1 mIds (mef E J) ++ [])) : ∀ (x2 : Int) (x3 : Int) (J : cI), inR x2 → inR x3 → mM J → wX12_thinOut_73 Q a1 K17 x2 x3 J → cW X (0 + (26 - (n17 + 1)) * 1 + 1) (0 + (26 - (n17 + 1)) * 25 + 25) 73 [(0, .ref (E.1 1000)), (1, iV a1), (2, iV x2), (3, iV x3)] [] (gw E.1 mIds (mef E J) ++ []) := by
  intro x2 x3 J hx2 hx3 hm hw
  unfold wX12_thinOut_73 at hw
  refine q_iload_n F 2 dX12_thinOut_73 rfl rfl ?_
  refine q_bipush F dX12_thinOut_74 (by decide) ?_
  refine q_iadd F dX12_thinOut_76 ?_
  refine q_aload_n F 0 dX12_thinOut_77 rfl rfl ?_
  refine q_ViM F (kcX12_cells hm hw) (by decide) meObj (ci := 10) rfl (bV wd1003 wd1004 wd1305 wd13 wd1005) rfl ⟨rfl, rfl⟩ ydX12_cells (rmK_le hR (by omega) (by decide)) (av := []) rfl rfl (Nat.le_of_ble_eq_true rfl) dX12_thinOut_78 (rmK_cs hR (by omega) (by omega)) (fun r1 J2 h3 m4 hw => ?_)
  obtain ⟨k5, hw⟩ := hw
  obtain ⟨k6, hw⟩ := hw
  refine q_irem F ⟨⟨k6.1, (k5).2⟩, k6.2, (h3).2⟩ dX12_thinOut_81 ?_
  obtain ⟨k7, hw⟩ := hw
  obtain ⟨z8, e9⟩ := ex1 (((x2 + 7) % r1))
  have hw := hw z8 e9
  have hz8 : inR z8 := by rw [e9]; exact k7
  refine q_top e9 ?_
  refine q_istore_n (lv' := [(0, .ref (E.1 1000)), (1, iV a1), (2, iV z8), (3, iV x3)]) F [1, 2, 0, 3] dX12_thinOut_82 rfl (q_n hN (by decide)) rfl ?_
  obtain ⟨k12, hw⟩ := hw
  obtain ⟨z10, e11⟩ := ex1 (x3 + 1)
  have hw := hw z10 e11
  have hz10 : inR z10 := by rw [e11]; exact k12
  refine q_iinc (lv' := [(0, .ref (E.1 1000)), (1, iV a1), (2, iV z8), (3, iV z10)]) F 3 [1, 2, 3, 0] dX12_thinOut_83 rfl (q_n hN (by decide)) e11.symm rfl ?_
  refine q_goto F 17 dX12_thinOut_86 (by decide) ?_
  refine q_wide (nc' := ?w3a) (ns' := ?w3b) ?w3c ?w3d ?w3e
  case w3e => exact hK17 z8 z10 J2 hz8 hz10 m4 hw
  all_goals omega
set_option maxHeartbeats 4000000 in
set_option maxRecDepth 100000 in
theorem bX12_thinOut_56 {X : xC} {E : cE} (F : mF X E RX12 cX12_thinOut bG) (hR : X.1.2.2.2 = rmK 6 (26) (650)) (hN : X.2.2.1.2.2.2 = 5) {Q : cI → Prop} (hret : rVM X E cX12_thinOut (26) (650) Q) {n17 : Nat} (hn17 : n17 + 1 ≤ 26) {a1 : Int} (ha1 : inR a1) {K17 : Int → Int → cI → Prop} (hK17 : ∀ (x2 : Int) (x3 : Int) (J : cI), inR x2 → inR x3 → mM J → K17 x2 x3 J → cW X (0 + (26 - n17) * 1) (0 + (26 - n17) * 25) 17 [(0, .ref (E.1 1000)), (1, iV a1), (2, iV x2), (3, iV x3)] [] (gw E.1 mIds (mef E J) ++ [])) : ∀ (x2 : Int) (x3 : Int) (x4 : Int) (J : cI), inR x2 → inR x3 → inR x4 → mM J → wX12_thinOut_56 Q a1 K17 x2 x3 x4 J → cW X (0 + (26 - (n17 + 1)) * 1) (0 + (26 - (n17 + 1)) * 25) 56 [(0, .ref (E.1 1000)), (1, iV a1), (2, iV x2), (3, iV x3), (4, iV x4)] [] (gw E.1 mIds (mef E J) ++ []) := by
  intro x2 x3 x4 J hx2 hx3 hx4 hm hw
  unfold wX12_thinOut_56 at hw
  refine q_aload_n F 0 dX12_thinOut_56 rfl rfl ?_
  refine q_iconst F dX12_thinOut_57 ?_
  refine q_iload F 4 dX12_thinOut_58 rfl ?_
  refine q_ViM F (kcX12_look hm (⟨by decide, by decide⟩ : inR (2)) hx4 hw) (by decide) meObj (ci := 10) rfl (bV wd1105 wd1106 wd1324 wd13 wd1107) rfl ⟨rfl, rfl⟩ ydX12_look (rmK_le hR (by omega) (by decide)) (av := [iV 2, iV x4]) rfl rfl (Nat.le_of_ble_eq_true rfl) dX12_thinOut_60 (rmK_cs hR (by omega) (by omega)) (fun r1 J2 h3 m4 hw => ?_)
  refine q_iconst F dX12_thinOut_63 ?_
  refine q_icmp_ne F h3 (⟨by decide, by decide⟩ : inR (1)) 73 dX12_thinOut_64 (by decide) (fun hc => ?_) (fun hc => ?_)
  · have hw := hw.1 hc
    refine q_lv [0, 1, 2, 3] rfl ?_
    exact bX12_thinOut_73 F hR hN hret (n17 := n17) hn17 ha1 hK17 x2 x3 J2 hx2 hx3 m4 hw
  · have hw := hw.2 hc
    refine q_aload_n F 0 dX12_thinOut_67 rfl rfl ?_
    refine q_iload F 4 dX12_thinOut_68 rfl ?_
    refine q_VvM F (kcX12_dropRule m4 hx4 hw) (by decide) meObj (ci := 10) rfl (bV wd1057 wd1058 wd1316 wd13 wd1059) rfl ⟨rfl, rfl⟩ ydX12_dropRule (rmK_le hR (by omega) (by decide)) (av := [iV x4]) rfl rfl (Nat.le_of_ble_eq_true rfl) dX12_thinOut_70 (rmK_cs hR (by omega) (by omega)) (fun J6 m8 hw => ?_)
    refine q_lv [0, 1, 2, 3] rfl ?_
    exact bX12_thinOut_73 F hR hN hret (n17 := n17) hn17 ha1 hK17 x2 x3 J6 hx2 hx3 m8 hw
set_option maxHeartbeats 4000000 in
set_option maxRecDepth 100000 in
theorem bX12_thinOut_28 {X : xC} {E : cE} (F : mF X E RX12 cX12_thinOut bG) (hR : X.1.2.2.2 = rmK 6 (26) (650)) (hN : X.2.2.1.2.2.2 = 5) {Q : cI → Prop} (hret : rVM X E cX12_thinOut (26) (650) Q) {n17 : Nat} (hn17 : n17 + 1 ≤ 26) {a1 : Int} (ha1 : inR a1) {K17 : Int → Int → cI → Prop} (hK17 : ∀ (x2 : Int) (x3 : Int) (J : cI), inR x2 → inR x3 → mM J → K17 x2 x3 J → cW X (0 + (26 - n17) * 1) (0 + (26 - n17) * 25) 17 [(0, .ref (E.1 1000)), (1, iV a1), (2, iV x2), (3, iV x3)] [] (gw E.1 mIds (mef E J) ++ [])) : ∀ n28 : Nat, ∀ (x2 : Int) (x3 : Int) (x4 : Int) (J : cI), inR x2 → inR x3 → inR x4 → mM J → wX12_thinOut_28 Q a1 K17 n28 x2 x3 x4 J → cW X (0 + (26 - (n17 + 1)) * 1) (0 + (26 - (n17 + 1)) * 25) 28 [(0, .ref (E.1 1000)), (1, iV a1), (2, iV x2), (3, iV x3), (4, iV x4)] [] (gw E.1 mIds (mef E J) ++ []) := by
  intro n28
  induction n28 with
  | zero => intro x2 x3 x4 J hx2 hx3 hx4 hm hw; exact hw.elim
  | succ n28 ih =>
    intro x2 x3 x4 J hx2 hx3 hx4 hm hw
    change wbX12_thinOut_28 Q a1 K17 (wX12_thinOut_28 Q a1 K17 n28) x2 x3 x4 J at hw
    unfold wbX12_thinOut_28 at hw
    refine q_iload F 4 dX12_thinOut_28 rfl ?_
    refine q_aload_n F 0 dX12_thinOut_30 rfl rfl ?_
    refine s_g_rules F ib12 wd887 dX12_thinOut_31 ?_
    refine q_icmp_ge F hx4 (hm _ _) 56 dX12_thinOut_34 (by decide) (fun hc => ?_) (fun hc => ?_)
    · have hw := hw.1 hc
      exact bX12_thinOut_56 F hR hN hret (n17 := n17) hn17 ha1 hK17 x2 x3 x4 J hx2 hx3 hx4 hm hw
    · have hw := hw.2 hc
      refine q_aload_n F 0 dX12_thinOut_37 rfl rfl ?_
      refine s_g_ruleCells F ib12 wd892 dX12_thinOut_38 ?_
      refine q_iconst F dX12_thinOut_41 ?_
      refine q_iload F 4 dX12_thinOut_42 rfl ?_
      refine q_imul F dX12_thinOut_44 ?_
      obtain ⟨k1, hw⟩ := hw
      refine s_ald F 350 kM_ruleCells k1 (by decide) dX12_thinOut_45 ?_
      refine q_iload_n F 2 dX12_thinOut_46 rfl rfl ?_
      refine q_icmp_eq F (hm _ _) hx2 56 dX12_thinOut_47 (by decide) (fun hc => ?_) (fun hc => ?_)
      · have hw := hw.1 hc
        exact bX12_thinOut_56 F hR hN hret (n17 := n17) hn17 ha1 hK17 x2 x3 x4 J hx2 hx3 hx4 hm hw
      · have hw := hw.2 hc
        obtain ⟨k4, hw⟩ := hw
        obtain ⟨z2, e3⟩ := ex1 (x4 + 1)
        have hw := hw z2 e3
        have hz2 : inR z2 := by rw [e3]; exact k4
        refine q_iinc (lv' := [(0, .ref (E.1 1000)), (1, iV a1), (2, iV x2), (3, iV x3), (4, iV z2)]) F 4 [1, 2, 3, 4, 0] dX12_thinOut_50 rfl (q_n hN (by decide)) e3.symm rfl ?_
        refine q_goto F 28 dX12_thinOut_53 (by decide) ?_
        exact ih x2 x3 z2 J hx2 hx3 hz2 hm hw
set_option maxHeartbeats 4000000 in
set_option maxRecDepth 100000 in
theorem bX12_thinOut_17 {X : xC} {E : cE} (F : mF X E RX12 cX12_thinOut bG) (hR : X.1.2.2.2 = rmK 6 (26) (650)) (hN : X.2.2.1.2.2.2 = 5) {Q : cI → Prop} (hret : rVM X E cX12_thinOut (26) (650) Q) {a1 : Int} (ha1 : inR a1) : ∀ n17 : Nat, n17 ≤ 26 → ∀ (x2 : Int) (x3 : Int) (J : cI), inR x2 → inR x3 → mM J → wX12_thinOut_17 Q a1 n17 x2 x3 J → cW X (0 + (26 - n17) * 1) (0 + (26 - n17) * 25) 17 [(0, .ref (E.1 1000)), (1, iV a1), (2, iV x2), (3, iV x3)] [] (gw E.1 mIds (mef E J) ++ []) := by
  intro n17
  induction n17 with
  | zero => intro hn17 x2 x3 J hx2 hx3 hm hw; exact hw.elim
  | succ n17 ih =>
    intro hn17 x2 x3 J hx2 hx3 hm hw
    change wbX12_thinOut_17 Q a1 (wX12_thinOut_17 Q a1 n17) x2 x3 J at hw
    unfold wbX12_thinOut_17 at hw
    refine q_iload_n F 3 dX12_thinOut_17 rfl rfl ?_
    refine q_aload_n F 0 dX12_thinOut_18 rfl rfl ?_
    refine q_ViM F (kcX12_cells hm hw) (by decide) meObj (ci := 10) rfl (bV wd1003 wd1004 wd1305 wd13 wd1005) rfl ⟨rfl, rfl⟩ ydX12_cells (rmK_le hR (by omega) (by decide)) (av := []) rfl rfl (Nat.le_of_ble_eq_true rfl) dX12_thinOut_19 (rmK_cs hR (by omega) (by omega)) (fun r1 J2 h3 m4 hw => ?_)
    refine q_icmp_ge F hx3 h3 89 dX12_thinOut_22 (by decide) (fun hc => ?_) (fun hc => ?_)
    · have hw := hw.1 hc
      refine q_wide (nc' := 26) (ns' := 650) (by omega) (by omega) ?_
      exact hret _ _ _ _ dX12_thinOut_89 m4 hw
    · have hw := hw.2 hc
      refine q_iload_n F 1 dX12_thinOut_25 rfl rfl ?_
      refine q_istore (lv' := [(0, .ref (E.1 1000)), (1, iV a1), (2, iV x2), (3, iV x3), (4, iV a1)]) F [1, 2, 3, 4, 0] dX12_thinOut_26 (q_n hN (by decide)) rfl ?_
      obtain ⟨n5, hw⟩ := hw
      exact bX12_thinOut_28 F hR hN hret (n17 := n17) hn17 ha1 (ih (by omega)) n5 x2 x3 a1 J2 hx2 hx3 ha1 m4 hw
set_option maxHeartbeats 4000000 in
set_option maxRecDepth 100000 in
theorem kcX12_thinOut {l : Launch} {D : va_G} {E : cE} {a1 : Int} {J : cI} (hm : mM J) (ha1 : inR a1) {Q : cI → Prop} (hw : wX12_thinOut a1 J Q) : gM l D E mIds yX12_thinOut vX12_thinOut (rmK 6 (26) (650)) [.ref (E.1 1000), iV a1] (mef E J) (mef E) (oV Q) (26) (650) := by
  unfold wX12_thinOut at hw
  refine k_ofW (own := RX12) (cc := cX12_thinOut) (maxL := 5) (ret := none) (lv := [(0, .ref (E.1 1000)), (1, iV a1)]) (by decide) rfl rfl (Nat.le_of_ble_eq_true rfl) rfl ?_
  intro X hl hR hN hD F K
  subst hl; subst hD
  have hret := mk_rVM (Q := Q) F K
  refine q_aload_n F 0 dX12_thinOut_0 rfl rfl ?_
  refine q_iconst F dX12_thinOut_1 ?_
  refine q_VvM F (kcX12_prepare hm (⟨by decide, by decide⟩ : inR (0)) hw) (by decide) meObj (ci := 10) rfl (bV wd1102 wd1103 wd1323 wd13 wd1104) rfl ⟨rfl, rfl⟩ ydX12_prepare (rmK_le hR (by omega) (by decide)) (av := [iV 0]) rfl rfl (Nat.le_of_ble_eq_true rfl) dX12_thinOut_2 (rmK_cs hR (by omega) (by omega)) (fun J2 m4 hw => ?_)
  refine q_aload_n F 0 dX12_thinOut_5 rfl rfl ?_
  refine q_ViM F (kcX12_drawn m4 hw) (by decide) meObj (ci := 10) rfl (bV wd1172 wd1173 wd1334 wd13 wd1174) rfl ⟨rfl, rfl⟩ ydX12_drawn (rmK_le hR (by omega) (by decide)) (av := []) rfl rfl (Nat.le_of_ble_eq_true rfl) dX12_thinOut_6 (rmK_cs hR (by omega) (by omega)) (fun r5 J6 h7 m8 hw => ?_)
  refine q_aload_n F 0 dX12_thinOut_9 rfl rfl ?_
  refine q_ViM F (kcX12_cells m8 hw) (by decide) meObj (ci := 10) rfl (bV wd1003 wd1004 wd1305 wd13 wd1005) rfl ⟨rfl, rfl⟩ ydX12_cells (rmK_le hR (by omega) (by decide)) (av := []) rfl rfl (Nat.le_of_ble_eq_true rfl) dX12_thinOut_10 (rmK_cs hR (by omega) (by omega)) (fun r9 J10 h11 m12 hw => ?_)
  obtain ⟨k13, hw⟩ := hw
  refine q_irem F ⟨⟨k13.1, (h7).2⟩, k13.2, (h11).2⟩ dX12_thinOut_13 ?_
  obtain ⟨k14, hw⟩ := hw
  obtain ⟨z15, e16⟩ := ex1 ((r5 % r9))
  have hw := hw z15 e16
  have hz15 : inR z15 := by rw [e16]; exact k14
  refine q_top e16 ?_
  refine q_istore_n (lv' := [(0, .ref (E.1 1000)), (1, iV a1), (2, iV z15)]) F [1, 2, 0] dX12_thinOut_14 rfl (q_n hN (by decide)) rfl ?_
  refine q_iconst F dX12_thinOut_15 ?_
  refine q_istore_n (lv' := [(0, .ref (E.1 1000)), (1, iV a1), (2, iV z15), (3, iV 0)]) F [1, 2, 3, 0] dX12_thinOut_16 rfl (q_n hN (by decide)) rfl ?_
  obtain ⟨n17, hB, hw⟩ := hw
  refine q_wide (nc' := ?w4a) (ns' := ?w4b) ?w4c ?w4d ?w4e
  case w4e => exact bX12_thinOut_17 F hR hN hret ha1 n17 hB z15 0 J10 hz15 (⟨by decide, by decide⟩ : inR (0)) m12 hw
  all_goals omega
theorem ydX12_make : yX12_make.cls = RX12 ∧ yX12_make.cls ≠ "java/lang/invoke/MethodHandle" ∧ yX12_make.cls ≠ "java/lang/invoke/VarHandle" ∧ (parseMethodDescriptor yX12_make.desc).map (fun d => d.parameters.length) = some 1 := by decide +kernel
def vX12_make : List Cond := Cond.code yX12_make cX12_make 6 (some .int) :: bG
set_option maxHeartbeats 4000000 in
set_option maxRecDepth 100000 in
theorem bX12_make_346 {X : xC} {E : cE} (F : mF X E RX12 cX12_make bG) (hR : X.1.2.2.2 = rmK 7 (28) (700)) (hN : X.2.2.1.2.2.2 = 6) {Q : Int → cI → Prop} (hret : rIM X E cX12_make (28) (700) Q) {a1 : Int} (ha1 : inR a1) : ∀ n346 : Nat, ∀ (x4 : Int) (x5 : Int) (q0 : Nat) (f0 : Int → Int) (J : cI), inR x4 → inR x5 → (∀ x, inR (f0 x)) → mM J → wX12_make_346 Q a1 n346 x4 x5 f0 J → cW X (2) (50) 346 [(0, .ref (E.1 1000)), (3, .ref q0), (4, iV x4), (5, iV x5)] [] (gw E.1 mIds (mef E J) ++ [(q0, iA E 25 f0)]) := by
  intro n346
  induction n346 with
  | zero => intro x4 x5 q0 f0 J hx4 hx5 hf0 hm hw; exact hw.elim
  | succ n346 ih =>
    intro x4 x5 q0 f0 J hx4 hx5 hf0 hm hw
    change wbX12_make_346 Q a1 (wX12_make_346 Q a1 n346) x4 x5 f0 J at hw
    unfold wbX12_make_346 at hw
    refine q_iload F 3 dX12_make_346 rfl ?_
    refine q_aload_n F 0 dX12_make_348 rfl rfl ?_
    refine q_ViM F (kcX12_cells hm hw) (by decide) meObj (ci := 10) rfl (bV wd1003 wd1004 wd1305 wd13 wd1005) rfl ⟨rfl, rfl⟩ ydX12_cells (rmK_le hR (by omega) (by decide)) (av := []) rfl rfl (Nat.le_of_ble_eq_true rfl) dX12_make_349 (rmK_cs hR (by omega) (by omega)) (fun r1 J2 h3 m4 hw => ?_)
    refine q_icmp_ge F hx5 h3 428 dX12_make_352 (by decide) (fun hc => ?_) (fun hc => ?_)
    · have hw := hw.1 hc
      refine q_aload_n F 0 dX12_make_428 rfl rfl ?_
      refine q_iload F 2 dX12_make_429 rfl ?_
      refine q_VvM F (kcX12_thinOut m4 hx4 hw) (by decide) meObj (ci := 10) rfl (bV wd1176 wd1177 wd1335 wd13 wd1178) rfl ⟨rfl, rfl⟩ ydX12_thinOut (rmK_le hR (by omega) (by decide)) (av := [iV x4]) rfl rfl (Nat.le_of_ble_eq_true rfl) dX12_make_431 (rmK_cs hR (by omega) (by omega)) (fun J6 m8 hw => ?_)
      refine q_aload_n F 0 dX12_make_434 rfl rfl ?_
      refine q_iconst F dX12_make_435 ?_
      obtain ⟨J9, e10⟩ := ex1 (up2 J6 1000 28 0)
      have hw := hw J9 e10
      have m11 : mM J9 := mM_I m8 e10 (⟨by decide, by decide⟩ : inR (0))
      refine s_p_kept F ib12 wd901 e10 dX12_make_436 ?_
      refine q_aload_n F 0 dX12_make_439 rfl rfl ?_
      refine q_ViM F (kcX12_lookAnew m11 hw) (by decide) meObj (ci := 10) rfl (bV wd1000 wd1001 wd1304 wd13 wd1002) rfl ⟨rfl, rfl⟩ ydX12_lookAnew (rmK_le hR (by omega) (by decide)) (av := []) rfl rfl (Nat.le_of_ble_eq_true rfl) dX12_make_440 (rmK_cs hR (by omega) (by omega)) (fun r12 J13 h14 m15 hw => ?_)
      refine q_pop F dX12_make_443 rfl ?_
      refine q_aload_n F 0 dX12_make_444 rfl rfl ?_
      refine q_ViM F (kcX12_rulesIs m15 hw) (by decide) meObj (ci := 10) rfl (bV wd1018 wd1019 wd1307 wd13 wd1020) rfl ⟨rfl, rfl⟩ ydX12_rulesIs (rmK_le hR (by omega) (by decide)) (av := []) rfl rfl (Nat.le_of_ble_eq_true rfl) dX12_make_445 (rmK_cs hR (by omega) (by omega)) (fun r16 J17 h18 m19 hw => ?_)
      exact hret _ _ _ _ _ dX12_make_448 h18 m19 hw
    · have hw := hw.2 hc
      refine q_aload_n F 0 dX12_make_355 rfl rfl ?_
      refine s_g_ruleKind F ib12 wd888 dX12_make_356 ?_
      refine q_aload_n F 0 dX12_make_359 rfl rfl ?_
      refine s_g_rules F ib12 wd887 dX12_make_360 ?_
      refine q_bipush F dX12_make_363 (by decide) ?_
      obtain ⟨k20, hw⟩ := hw
      obtain ⟨J21, e22⟩ := ex1 (up2 J2 1015 ((J2 1000 14)) 9)
      have hw := hw J21 e22
      have m23 : mM J21 := mM_I m4 e22 (⟨by decide, by decide⟩ : inR (9))
      refine s_ast F 70 kM_ruleKind k20 (by decide) e22 dX12_make_365 ?_
      refine q_aload_n F 0 dX12_make_366 rfl rfl ?_
      refine s_g_ruleNumber F ib12 wd889 dX12_make_367 ?_
      refine q_aload_n F 0 dX12_make_370 rfl rfl ?_
      refine s_g_rules F ib12 wd887 dX12_make_371 ?_
      refine q_aload_n F 1 dX12_make_374 rfl rfl ?_
      refine q_iload F 3 dX12_make_375 rfl ?_
      obtain ⟨k24, hw⟩ := hw
      refine g_tald F 0 rfl k24 (by decide) dX12_make_377 ?_
      obtain ⟨k25, hw⟩ := hw
      obtain ⟨J26, e27⟩ := ex1 (up2 J21 1016 ((J21 1000 14)) ((f0 x5)))
      have hw := hw J26 e27
      have m28 : mM J26 := mM_I m23 e27 (hf0 _)
      refine s_ast F 70 kM_ruleNumber k25 (by decide) e27 dX12_make_378 ?_
      refine q_aload_n F 0 dX12_make_379 rfl rfl ?_
      refine s_g_ruleOften F ib12 wd890 dX12_make_380 ?_
      refine q_aload_n F 0 dX12_make_383 rfl rfl ?_
      refine s_g_rules F ib12 wd887 dX12_make_384 ?_
      refine q_iconst F dX12_make_387 ?_
      obtain ⟨k29, hw⟩ := hw
      obtain ⟨J30, e31⟩ := ex1 (up2 J26 1017 ((J26 1000 14)) 0)
      have hw := hw J30 e31
      have m32 : mM J30 := mM_I m28 e31 (⟨by decide, by decide⟩ : inR (0))
      refine s_ast F 70 kM_ruleOften k29 (by decide) e31 dX12_make_388 ?_
      refine q_aload_n F 0 dX12_make_389 rfl rfl ?_
      refine s_g_ruleSize F ib12 wd891 dX12_make_390 ?_
      refine q_aload_n F 0 dX12_make_393 rfl rfl ?_
      refine s_g_rules F ib12 wd887 dX12_make_394 ?_
      refine q_iconst F dX12_make_397 ?_
      obtain ⟨k33, hw⟩ := hw
      obtain ⟨J34, e35⟩ := ex1 (up2 J30 1018 ((J30 1000 14)) 1)
      have hw := hw J34 e35
      have m36 : mM J34 := mM_I m32 e35 (⟨by decide, by decide⟩ : inR (1))
      refine s_ast F 70 kM_ruleSize k33 (by decide) e35 dX12_make_398 ?_
      refine q_aload_n F 0 dX12_make_399 rfl rfl ?_
      refine s_g_ruleCells F ib12 wd892 dX12_make_400 ?_
      refine q_iconst F dX12_make_403 ?_
      refine q_aload_n F 0 dX12_make_404 rfl rfl ?_
      refine s_g_rules F ib12 wd887 dX12_make_405 ?_
      refine q_imul F dX12_make_408 ?_
      refine q_iload F 3 dX12_make_409 rfl ?_
      obtain ⟨k37, hw⟩ := hw
      obtain ⟨J38, e39⟩ := ex1 (up2 J34 1019 ((5 * (J34 1000 14))) x5)
      have hw := hw J38 e39
      have m40 : mM J38 := mM_I m36 e39 hx5
      refine s_ast F 350 kM_ruleCells k37 (by decide) e39 dX12_make_411 ?_
      refine q_aload_n F 0 dX12_make_412 rfl rfl ?_
      refine q_dup F dX12_make_413 rfl ?_
      refine s_g_rules F ib12 wd887 dX12_make_414 ?_
      refine q_iconst F dX12_make_417 ?_
      refine q_iadd F dX12_make_418 ?_
      obtain ⟨k41, hw⟩ := hw
      obtain ⟨J42, e43⟩ := ex1 (up2 J38 1000 14 (((J38 1000 14) + 1)))
      have hw := hw J42 e43
      have m44 : mM J42 := mM_I m40 e43 k41
      refine s_p_rules F ib12 wd887 e43 dX12_make_419 ?_
      obtain ⟨k47, hw⟩ := hw
      obtain ⟨z45, e46⟩ := ex1 (x5 + 1)
      have hw := hw z45 e46
      have hz45 : inR z45 := by rw [e46]; exact k47
      refine q_iinc (lv' := [(0, .ref (E.1 1000)), (3, .ref q0), (4, iV x4), (5, iV z45)]) F 3 [1, 2, 3, 0] dX12_make_422 rfl (q_n hN (by decide)) e46.symm rfl ?_
      refine q_goto F 346 dX12_make_425 (by decide) ?_
      exact ih x4 z45 q0 f0 J42 hx4 hz45 hf0 m44 hw
set_option maxHeartbeats 4000000 in
set_option maxRecDepth 100000 in
theorem bX12_make_316 {X : xC} {E : cE} (F : mF X E RX12 cX12_make bG) (hR : X.1.2.2.2 = rmK 7 (28) (700)) (hN : X.2.2.1.2.2.2 = 6) {Q : Int → cI → Prop} (hret : rIM X E cX12_make (28) (700) Q) {a1 : Int} (ha1 : inR a1) : ∀ n316 : Nat, ∀ (x4 : Int) (q0 : Nat) (f0 : Int → Int) (J : cI), inR x4 → (∀ x, inR (f0 x)) → mM J → wX12_make_316 Q a1 n316 x4 f0 J → cW X (2) (50) 316 [(0, .ref (E.1 1000)), (3, .ref q0), (4, iV x4)] [] (gw E.1 mIds (mef E J) ++ [(q0, iA E 25 f0)]) := by
  intro n316
  induction n316 with
  | zero => intro x4 q0 f0 J hx4 hf0 hm hw; exact hw.elim
  | succ n316 ih =>
    intro x4 q0 f0 J hx4 hf0 hm hw
    change wbX12_make_316 Q a1 (wX12_make_316 Q a1 n316) x4 f0 J at hw
    unfold wbX12_make_316 at hw
    refine q_iload F 2 dX12_make_316 rfl ?_
    refine q_bipush F dX12_make_318 (by decide) ?_
    refine q_icmp_ge F hx4 (⟨by decide, by decide⟩ : inR (25)) 337 dX12_make_320 (by decide) (fun hc => ?_) (fun hc => ?_)
    · have hw := hw.1 hc
      refine q_aload_n F 0 dX12_make_337 rfl rfl ?_
      refine s_g_rules F ib12 wd887 dX12_make_338 ?_
      obtain ⟨z1, e2⟩ := ex1 ((J 1000 14))
      have hw := hw z1 e2
      have hz1 : inR z1 := by rw [e2]; exact (hm _ _)
      refine q_top e2 ?_
      refine q_istore (lv' := [(0, .ref (E.1 1000)), (3, .ref q0), (4, iV z1)]) F [1, 2, 0] dX12_make_341 (q_n hN (by decide)) rfl ?_
      refine q_iconst F dX12_make_343 ?_
      refine q_istore (lv' := [(0, .ref (E.1 1000)), (3, .ref q0), (4, iV z1), (5, iV 0)]) F [1, 2, 3, 0] dX12_make_344 (q_n hN (by decide)) rfl ?_
      obtain ⟨n3, hw⟩ := hw
      exact bX12_make_346 F hR hN hret ha1 n3 z1 0 q0 f0 J hz1 (⟨by decide, by decide⟩ : inR (0)) hf0 hm hw
    · have hw := hw.2 hc
      refine q_aload_n F 0 dX12_make_323 rfl rfl ?_
      refine s_g_grid F ib12 wd893 dX12_make_324 ?_
      refine q_iload F 2 dX12_make_327 rfl ?_
      refine q_iconst F dX12_make_329 ?_
      obtain ⟨k4, hw⟩ := hw
      obtain ⟨J5, e6⟩ := ex1 (up2 J 1020 x4 0)
      have hw := hw J5 e6
      have m7 : mM J5 := mM_I hm e6 (⟨by decide, by decide⟩ : inR (0))
      refine s_ast F 25 kM_grid k4 (by decide) e6 dX12_make_330 ?_
      obtain ⟨k10, hw⟩ := hw
      obtain ⟨z8, e9⟩ := ex1 (x4 + 1)
      have hw := hw z8 e9
      have hz8 : inR z8 := by rw [e9]; exact k10
      refine q_iinc (lv' := [(0, .ref (E.1 1000)), (3, .ref q0), (4, iV z8)]) F 2 [1, 2, 0] dX12_make_331 rfl (q_n hN (by decide)) e9.symm rfl ?_
      refine q_goto F 316 dX12_make_334 (by decide) ?_
      exact ih z8 q0 f0 J5 hz8 hf0 m7 hw
set_option maxHeartbeats 4000000 in
set_option maxRecDepth 100000 in
theorem bX12_make_287 {X : xC} {E : cE} (F : mF X E RX12 cX12_make bG) (hR : X.1.2.2.2 = rmK 7 (28) (700)) (hN : X.2.2.1.2.2.2 = 6) {Q : Int → cI → Prop} (hret : rIM X E cX12_make (28) (700) Q) {a1 : Int} (ha1 : inR a1) : ∀ n287 : Nat, ∀ (x4 : Int) (q0 : Nat) (f0 : Int → Int) (J : cI), inR x4 → (∀ x, inR (f0 x)) → mM J → wX12_make_287 Q a1 n287 x4 f0 J → cW X (2) (50) 287 [(0, .ref (E.1 1000)), (3, .ref q0), (4, iV x4)] [] (gw E.1 mIds (mef E J) ++ [(q0, iA E 25 f0)]) := by
  intro n287
  induction n287 with
  | zero => intro x4 q0 f0 J hx4 hf0 hm hw; exact hw.elim
  | succ n287 ih =>
    intro x4 q0 f0 J hx4 hf0 hm hw
    change wbX12_make_287 Q a1 (wX12_make_287 Q a1 n287) x4 f0 J at hw
    unfold wbX12_make_287 at hw
    refine q_iload F 2 dX12_make_287 rfl ?_
    refine q_aload_n F 0 dX12_make_289 rfl rfl ?_
    refine q_ViM F (kcX12_cells hm hw) (by decide) meObj (ci := 10) rfl (bV wd1003 wd1004 wd1305 wd13 wd1005) rfl ⟨rfl, rfl⟩ ydX12_cells (rmK_le hR (by omega) (by decide)) (av := []) rfl rfl (Nat.le_of_ble_eq_true rfl) dX12_make_290 (rmK_cs hR (by omega) (by omega)) (fun r1 J2 h3 m4 hw => ?_)
    refine q_icmp_ge F hx4 h3 313 dX12_make_293 (by decide) (fun hc => ?_) (fun hc => ?_)
    · have hw := hw.1 hc
      refine q_iconst F dX12_make_313 ?_
      refine q_istore (lv' := [(0, .ref (E.1 1000)), (3, .ref q0), (4, iV 0)]) F [1, 2, 0] dX12_make_314 (q_n hN (by decide)) rfl ?_
      obtain ⟨n5, hw⟩ := hw
      exact bX12_make_316 F hR hN hret ha1 n5 0 q0 f0 J2 (⟨by decide, by decide⟩ : inR (0)) hf0 m4 hw
    · have hw := hw.2 hc
      refine q_aload_n F 1 dX12_make_296 rfl rfl ?_
      refine q_iload F 2 dX12_make_297 rfl ?_
      refine q_aload_n F 0 dX12_make_299 rfl rfl ?_
      refine s_g_solutions F ib12 wd899 dX12_make_300 ?_
      refine q_iload F 2 dX12_make_303 rfl ?_
      obtain ⟨k6, hw⟩ := hw
      refine s_ald F 750 kM_solutions k6 (by decide) dX12_make_305 ?_
      obtain ⟨k7, hw⟩ := hw
      obtain ⟨f8, e9⟩ := ex1 (upF f0 x4 ((J2 1026 x4)))
      have hw := hw f8 e9
      have gf8 : ∀ x, inR (f8 x) := upF_in hf0 e9 (m4 _ _)
      refine g_tast F 0 rfl k7 (by decide) (T' := [(q0, iA E 25 f8)]) (by rw [e9]; rfl) dX12_make_306 ?_
      obtain ⟨k12, hw⟩ := hw
      obtain ⟨z10, e11⟩ := ex1 (x4 + 1)
      have hw := hw z10 e11
      have hz10 : inR z10 := by rw [e11]; exact k12
      refine q_iinc (lv' := [(0, .ref (E.1 1000)), (3, .ref q0), (4, iV z10)]) F 2 [1, 2, 0] dX12_make_307 rfl (q_n hN (by decide)) e11.symm rfl ?_
      refine q_goto F 287 dX12_make_310 (by decide) ?_
      exact ih z10 q0 f8 J2 hz10 gf8 m4 hw
set_option maxHeartbeats 4000000 in
set_option maxRecDepth 100000 in
theorem bX12_make_240 {X : xC} {E : cE} (F : mF X E RX12 cX12_make bG) (hR : X.1.2.2.2 = rmK 7 (28) (700)) (hN : X.2.2.1.2.2.2 = 6) {Q : Int → cI → Prop} (hret : rIM X E cX12_make (28) (700) Q) {a1 : Int} (ha1 : inR a1) : ∀ n240 : Nat, ∀ (x2 : Int) (x3 : Int) (J : cI), inR x2 → inR x3 → mM J → wX12_make_240 Q a1 n240 x2 x3 J → cW X (1) (25) 240 [(0, .ref (E.1 1000)), (2, iV x2), (3, iV x3)] [] (gw E.1 mIds (mef E J) ++ []) := by
  intro n240
  induction n240 with
  | zero => intro x2 x3 J hx2 hx3 hm hw; exact hw.elim
  | succ n240 ih =>
    intro x2 x3 J hx2 hx3 hm hw
    change wbX12_make_240 Q a1 (wX12_make_240 Q a1 n240) x2 x3 J at hw
    unfold wbX12_make_240 at hw
    refine q_iload_n F 2 dX12_make_240 rfl rfl ?_
    refine q_iload_n F 1 dX12_make_241 rfl rfl ?_
    refine q_icmp_ge F hx3 hx2 277 dX12_make_242 (by decide) (fun hc => ?_) (fun hc => ?_)
    · have hw := hw.1 hc
      refine q_iconst F dX12_make_277 ?_
      refine q_wide (nc' := 28) (ns' := 700) (by omega) (by omega) ?_
      exact hret _ _ _ _ _ dX12_make_278 (⟨by decide, by decide⟩ : inR (-1)) hm hw
    · have hw := hw.2 hc
      refine q_aload_n F 0 dX12_make_245 rfl rfl ?_
      refine q_aload_n F 0 dX12_make_246 rfl rfl ?_
      refine s_g_newKind F ib12 wd910 dX12_make_247 ?_
      refine q_aload_n F 0 dX12_make_250 rfl rfl ?_
      refine s_g_newNumber F ib12 wd911 dX12_make_251 ?_
      refine q_aload_n F 0 dX12_make_254 rfl rfl ?_
      refine s_g_newOften F ib12 wd912 dX12_make_255 ?_
      refine q_aload_n F 0 dX12_make_258 rfl rfl ?_
      refine s_g_newSize F ib12 wd913 dX12_make_259 ?_
      refine q_aload_n F 0 dX12_make_262 rfl rfl ?_
      refine s_g_newCells F ib12 wd914 dX12_make_263 ?_
      refine q_iload_n F 2 dX12_make_266 rfl rfl ?_
      refine q_iload_n F 2 dX12_make_267 rfl rfl ?_
      refine q_VvM F (kcX12_copyRule hm kM_newKind kM_newNumber kM_newOften kM_newSize kM_newCells hx3 hx3 hw) (by decide) meObj (ci := 10) rfl (bV wd997 wd998 wd1303 wd13 wd999) rfl ⟨rfl, rfl⟩ ydX12_copyRule (rmK_le hR (by omega) (by decide)) (av := [.ref (E.1 1037), .ref (E.1 1038), .ref (E.1 1039), .ref (E.1 1040), .ref (E.1 1041), iV x3, iV x3]) rfl rfl (Nat.le_of_ble_eq_true rfl) dX12_make_268 (rmK_cs hR (by omega) (by omega)) (fun J2 m4 hw => ?_)
      obtain ⟨k7, hw⟩ := hw
      obtain ⟨z5, e6⟩ := ex1 (x3 + 1)
      have hw := hw z5 e6
      have hz5 : inR z5 := by rw [e6]; exact k7
      refine q_iinc (lv' := [(0, .ref (E.1 1000)), (2, iV x2), (3, iV z5)]) F 2 [1, 2, 0] dX12_make_271 rfl (q_n hN (by decide)) e6.symm rfl ?_
      refine q_goto F 240 dX12_make_274 (by decide) ?_
      exact ih x2 z5 J2 hx2 hz5 m4 hw
set_option maxHeartbeats 4000000 in
set_option maxRecDepth 100000 in
theorem bX12_make_194 {X : xC} {E : cE} (F : mF X E RX12 cX12_make bG) (hR : X.1.2.2.2 = rmK 7 (28) (700)) (hN : X.2.2.1.2.2.2 = 6) {Q : Int → cI → Prop} (hret : rIM X E cX12_make (28) (700) Q) {a1 : Int} (ha1 : inR a1) : ∀ n194 : Nat, ∀ (x2 : Int) (x3 : Int) (J : cI), inR x2 → inR x3 → mM J → wX12_make_194 Q a1 n194 x2 x3 J → cW X (0) (0) 194 [(0, .ref (E.1 1000)), (2, iV x2), (3, iV x3)] [] (gw E.1 mIds (mef E J) ++ []) := by
  intro n194
  induction n194 with
  | zero => intro x2 x3 J hx2 hx3 hm hw; exact hw.elim
  | succ n194 ih =>
    intro x2 x3 J hx2 hx3 hm hw
    change wbX12_make_194 Q a1 (wX12_make_194 Q a1 n194) x2 x3 J at hw
    unfold wbX12_make_194 at hw
    refine q_iload_n F 2 dX12_make_194 rfl rfl ?_
    refine q_aload_n F 0 dX12_make_195 rfl rfl ?_
    refine q_ViM F (kcX12_cells hm hw) (by decide) meObj (ci := 10) rfl (bV wd1003 wd1004 wd1305 wd13 wd1005) rfl ⟨rfl, rfl⟩ ydX12_cells (rmK_le hR (by omega) (by decide)) (av := []) rfl rfl (Nat.le_of_ble_eq_true rfl) dX12_make_196 (rmK_cs hR (by omega) (by omega)) (fun r1 J2 h3 m4 hw => ?_)
    refine q_icmp_ge F hx3 h3 223 dX12_make_199 (by decide) (fun hc => ?_) (fun hc => ?_)
    · have hw := hw.1 hc
      refine q_aload_n F 0 dX12_make_223 rfl rfl ?_
      refine q_iconst F dX12_make_224 ?_
      refine q_iconst F dX12_make_225 ?_
      refine q_ViM F (kcX12_look m4 (⟨by decide, by decide⟩ : inR (1)) (⟨by decide, by decide⟩ : inR (-1)) hw) (by decide) meObj (ci := 10) rfl (bV wd1105 wd1106 wd1324 wd13 wd1107) rfl ⟨rfl, rfl⟩ ydX12_look (rmK_le hR (by omega) (by decide)) (av := [iV 1, iV (-1)]) rfl rfl (Nat.le_of_ble_eq_true rfl) dX12_make_226 (rmK_cs hR (by omega) (by omega)) (fun r5 J6 h7 m8 hw => ?_)
      refine q_iconst F dX12_make_229 ?_
      refine q_icmp_eq F h7 (⟨by decide, by decide⟩ : inR (1)) 279 dX12_make_230 (by decide) (fun hc => ?_) (fun hc => ?_)
      · have hw := hw.1 hc
        refine q_bipush F dX12_make_279 (by decide) ?_
        obtain ⟨f10, e11⟩ := ex1 (fun _ : Int => (0 : Int))
        have hw := hw f10 e11
        have gf10 : ∀ x, inR (f10 x) := by rw [e11]; exact fun _ => ti_0
        refine g_tnew F wd45 25 rfl (by decide) (rmK_cs (a := 1) (b := 0) (ns := 0) hR (by omega) (by omega)).1 (rmK_cs (a := 0) (nc := 0) hR (by omega) (by omega)).2 dX12_make_281 (T' := fun q9 => [(q9, iA E 25 f10)]) (fun q9 => by rw [e11]; rfl) (fun q9 => ?_)
        refine q_astore_n (lv' := [(0, .ref (E.1 1000)), (2, iV x2), (3, .ref q9)]) F [1, 2, 0] dX12_make_283 rfl (q_n hN (by decide)) rfl ?_
        refine q_iconst F dX12_make_284 ?_
        refine q_istore (lv' := [(0, .ref (E.1 1000)), (2, iV x2), (3, .ref q9), (4, iV 0)]) F [1, 2, 3, 0] dX12_make_285 (q_n hN (by decide)) rfl ?_
        refine q_lv [0, 2, 3] rfl ?_
        obtain ⟨n12, hw⟩ := hw
        exact bX12_make_287 F hR hN hret ha1 n12 0 q9 f10 J6 (⟨by decide, by decide⟩ : inR (0)) gf10 m8 hw
      · have hw := hw.2 hc
        refine q_aload_n F 0 dX12_make_233 rfl rfl ?_
        refine q_iload_n F 1 dX12_make_234 rfl rfl ?_
        obtain ⟨J13, e14⟩ := ex1 (up2 J6 1000 14 x2)
        have hw := hw J13 e14
        have m15 : mM J13 := mM_I m8 e14 hx2
        refine s_p_rules F ib12 wd887 e14 dX12_make_235 ?_
        refine q_iconst F dX12_make_238 ?_
        refine q_istore_n (lv' := [(0, .ref (E.1 1000)), (2, iV x2), (3, iV 0)]) F [1, 2, 0] dX12_make_239 rfl (q_n hN (by decide)) rfl ?_
        obtain ⟨n16, hw⟩ := hw
        exact bX12_make_240 F hR hN hret ha1 n16 x2 0 J13 hx2 (⟨by decide, by decide⟩ : inR (0)) m15 hw
    · have hw := hw.2 hc
      refine q_aload_n F 0 dX12_make_202 rfl rfl ?_
      refine s_g_begins F ib12 wd895 dX12_make_203 ?_
      refine q_iload_n F 2 dX12_make_206 rfl rfl ?_
      refine q_aload_n F 0 dX12_make_207 rfl rfl ?_
      refine q_ViM F (kcX12_drawn m4 hw) (by decide) meObj (ci := 10) rfl (bV wd1172 wd1173 wd1334 wd13 wd1174) rfl ⟨rfl, rfl⟩ ydX12_drawn (rmK_le hR (by omega) (by decide)) (av := []) rfl rfl (Nat.le_of_ble_eq_true rfl) dX12_make_208 (rmK_cs hR (by omega) (by omega)) (fun r17 J18 h19 m20 hw => ?_)
      refine q_aload_n F 0 dX12_make_211 rfl rfl ?_
      refine s_g_k F ib12 wd886 dX12_make_212 ?_
      obtain ⟨k21, hw⟩ := hw
      refine q_irem F ⟨⟨k21.1, (h19).2⟩, k21.2, ((m20 _ _)).2⟩ dX12_make_215 ?_
      obtain ⟨k22, hw⟩ := hw
      obtain ⟨k23, hw⟩ := hw
      obtain ⟨J24, e25⟩ := ex1 (up2 J18 1022 x3 ((r17 % (J18 1000 13))))
      have hw := hw J24 e25
      have m26 : mM J24 := mM_I m20 e25 k22
      refine s_ast F 25 kM_begins k23 (by decide) e25 dX12_make_216 ?_
      obtain ⟨k29, hw⟩ := hw
      obtain ⟨z27, e28⟩ := ex1 (x3 + 1)
      have hw := hw z27 e28
      have hz27 : inR z27 := by rw [e28]; exact k29
      refine q_iinc (lv' := [(0, .ref (E.1 1000)), (2, iV x2), (3, iV z27)]) F 2 [1, 2, 0] dX12_make_217 rfl (q_n hN (by decide)) e28.symm rfl ?_
      refine q_goto F 194 dX12_make_220 (by decide) ?_
      exact ih x2 z27 J24 hx2 hz27 m26 hw
set_option maxHeartbeats 4000000 in
set_option maxRecDepth 100000 in
theorem bX12_make_161 {X : xC} {E : cE} (F : mF X E RX12 cX12_make bG) (hR : X.1.2.2.2 = rmK 7 (28) (700)) (hN : X.2.2.1.2.2.2 = 6) {Q : Int → cI → Prop} (hret : rIM X E cX12_make (28) (700) Q) {a1 : Int} (ha1 : inR a1) : ∀ n161 : Nat, ∀ (x2 : Int) (x3 : Int) (J : cI), inR x2 → inR x3 → mM J → wX12_make_161 Q a1 n161 x2 x3 J → cW X (0) (0) 161 [(0, .ref (E.1 1000)), (2, iV x2), (3, iV x3)] [] (gw E.1 mIds (mef E J) ++ []) := by
  intro n161
  induction n161 with
  | zero => intro x2 x3 J hx2 hx3 hm hw; exact hw.elim
  | succ n161 ih =>
    intro x2 x3 J hx2 hx3 hm hw
    change wbX12_make_161 Q a1 (wX12_make_161 Q a1 n161) x2 x3 J at hw
    unfold wbX12_make_161 at hw
    refine q_iload_n F 2 dX12_make_161 rfl rfl ?_
    refine q_if_lt F hx3 187 dX12_make_162 (by decide) (fun hc => ?_) (fun hc => ?_)
    · have hw := hw.1 hc
      refine q_aload_n F 0 dX12_make_187 rfl rfl ?_
      refine q_iconst F dX12_make_188 ?_
      refine q_VvM F (kcX12_prepare hm (⟨by decide, by decide⟩ : inR (0)) hw) (by decide) meObj (ci := 10) rfl (bV wd1102 wd1103 wd1323 wd13 wd1104) rfl ⟨rfl, rfl⟩ ydX12_prepare (rmK_le hR (by omega) (by decide)) (av := [iV 0]) rfl rfl (Nat.le_of_ble_eq_true rfl) dX12_make_189 (rmK_cs hR (by omega) (by omega)) (fun J2 m4 hw => ?_)
      refine q_iconst F dX12_make_192 ?_
      refine q_istore_n (lv' := [(0, .ref (E.1 1000)), (2, iV x2), (3, iV 0)]) F [1, 2, 0] dX12_make_193 rfl (q_n hN (by decide)) rfl ?_
      obtain ⟨n5, hw⟩ := hw
      exact bX12_make_194 F hR hN hret ha1 n5 x2 0 J2 hx2 (⟨by decide, by decide⟩ : inR (0)) m4 hw
    · have hw := hw.2 hc
      refine q_aload_n F 0 dX12_make_165 rfl rfl ?_
      refine s_g_ruleKind F ib12 wd888 dX12_make_166 ?_
      refine q_iload_n F 2 dX12_make_169 rfl rfl ?_
      obtain ⟨k6, hw⟩ := hw
      refine s_ald F 70 kM_ruleKind k6 (by decide) dX12_make_170 ?_
      refine q_bipush F dX12_make_171 (by decide) ?_
      refine q_icmp_ne F (hm _ _) (⟨by decide, by decide⟩ : inR (9)) 181 dX12_make_173 (by decide) (fun hc => ?_) (fun hc => ?_)
      · have hw := hw.1 hc
        obtain ⟨k9, hw⟩ := hw
        obtain ⟨z7, e8⟩ := ex1 (x3 + (-1))
        have hw := hw z7 e8
        have hz7 : inR z7 := by rw [e8]; exact k9
        refine q_iinc (lv' := [(0, .ref (E.1 1000)), (2, iV x2), (3, iV z7)]) F 2 [1, 2, 0] dX12_make_181 rfl (q_n hN (by decide)) e8.symm rfl ?_
        refine q_goto F 161 dX12_make_184 (by decide) ?_
        exact ih x2 z7 J hx2 hz7 hm hw
      · have hw := hw.2 hc
        refine q_aload_n F 0 dX12_make_176 rfl rfl ?_
        refine q_iload_n F 2 dX12_make_177 rfl rfl ?_
        refine q_VvM F (kcX12_dropRule hm hx3 hw) (by decide) meObj (ci := 10) rfl (bV wd1057 wd1058 wd1316 wd13 wd1059) rfl ⟨rfl, rfl⟩ ydX12_dropRule (rmK_le hR (by omega) (by decide)) (av := [iV x3]) rfl rfl (Nat.le_of_ble_eq_true rfl) dX12_make_178 (rmK_cs hR (by omega) (by omega)) (fun J11 m13 hw => ?_)
        obtain ⟨k16, hw⟩ := hw
        obtain ⟨z14, e15⟩ := ex1 (x3 + (-1))
        have hw := hw z14 e15
        have hz14 : inR z14 := by rw [e15]; exact k16
        refine q_iinc (lv' := [(0, .ref (E.1 1000)), (2, iV x2), (3, iV z14)]) F 2 [1, 2, 0] dX12_make_181 rfl (q_n hN (by decide)) e15.symm rfl ?_
        refine q_goto F 161 dX12_make_184 (by decide) ?_
        exact ih x2 z14 J11 hx2 hz14 m13 hw
set_option maxHeartbeats 4000000 in
set_option maxRecDepth 100000 in
theorem bX12_make_114 {X : xC} {E : cE} (F : mF X E RX12 cX12_make bG) (hR : X.1.2.2.2 = rmK 7 (28) (700)) (hN : X.2.2.1.2.2.2 = 6) {Q : Int → cI → Prop} (hret : rIM X E cX12_make (28) (700) Q) {a1 : Int} (ha1 : inR a1) {K55 : Int → Int → cI → Prop} (hK55 : ∀ (x2 : Int) (x3 : Int) (J : cI), inR x2 → inR x3 → mM J → K55 x2 x3 J → cW X (0) (0) 55 [(0, .ref (E.1 1000)), (2, iV x2), (3, iV x3)] [] (gw E.1 mIds (mef E J) ++ [])) : ∀ n114 : Nat, ∀ (x2 : Int) (x3 : Int) (x4 : Int) (J : cI), inR x2 → inR x3 → inR x4 → mM J → wX12_make_114 Q a1 K55 n114 x2 x3 x4 J → cW X (0) (0) 114 [(0, .ref (E.1 1000)), (2, iV x2), (3, iV x3), (4, iV x4)] [] (gw E.1 mIds (mef E J) ++ []) := by
  intro n114
  induction n114 with
  | zero => intro x2 x3 x4 J hx2 hx3 hx4 hm hw; exact hw.elim
  | succ n114 ih =>
    intro x2 x3 x4 J hx2 hx3 hx4 hm hw
    change wbX12_make_114 Q a1 K55 (wX12_make_114 Q a1 K55 n114) x2 x3 x4 J at hw
    unfold wbX12_make_114 at hw
    refine q_iload F 3 dX12_make_114 rfl ?_
    refine q_iconst F dX12_make_116 ?_
    refine q_icmp_ge F hx4 (⟨by decide, by decide⟩ : inR (5)) 148 dX12_make_117 (by decide) (fun hc => ?_) (fun hc => ?_)
    · have hw := hw.1 hc
      obtain ⟨k3, hw⟩ := hw
      obtain ⟨z1, e2⟩ := ex1 (x3 + 1)
      have hw := hw z1 e2
      have hz1 : inR z1 := by rw [e2]; exact k3
      refine q_iinc (lv' := [(0, .ref (E.1 1000)), (2, iV x2), (3, iV z1), (4, iV x4)]) F 2 [1, 2, 0, 3] dX12_make_148 rfl (q_n hN (by decide)) e2.symm rfl ?_
      refine q_goto F 55 dX12_make_151 (by decide) ?_
      refine q_lv [0, 1, 2] rfl ?_
      exact hK55 x2 z1 J hx2 hz1 hm hw
    · have hw := hw.2 hc
      refine q_aload_n F 0 dX12_make_120 rfl rfl ?_
      refine s_g_newCells F ib12 wd914 dX12_make_121 ?_
      refine q_iconst F dX12_make_124 ?_
      refine q_iload_n F 2 dX12_make_125 rfl rfl ?_
      refine q_imul F dX12_make_126 ?_
      refine q_iload F 3 dX12_make_127 rfl ?_
      refine q_iadd F dX12_make_129 ?_
      refine q_aload_n F 0 dX12_make_130 rfl rfl ?_
      refine s_g_ruleCells F ib12 wd892 dX12_make_131 ?_
      refine q_iconst F dX12_make_134 ?_
      refine q_iload_n F 2 dX12_make_135 rfl rfl ?_
      refine q_imul F dX12_make_136 ?_
      refine q_iload F 3 dX12_make_137 rfl ?_
      refine q_iadd F dX12_make_139 ?_
      obtain ⟨k4, hw⟩ := hw
      refine s_ald F 350 kM_ruleCells k4 (by decide) dX12_make_140 ?_
      obtain ⟨k5, hw⟩ := hw
      obtain ⟨J6, e7⟩ := ex1 (up2 J 1041 (((5 * x3) + x4)) ((J 1019 (((5 * x3) + x4)))))
      have hw := hw J6 e7
      have m8 : mM J6 := mM_I hm e7 (hm _ _)
      refine s_ast F 350 kM_newCells k5 (by decide) e7 dX12_make_141 ?_
      obtain ⟨k11, hw⟩ := hw
      obtain ⟨z9, e10⟩ := ex1 (x4 + 1)
      have hw := hw z9 e10
      have hz9 : inR z9 := by rw [e10]; exact k11
      refine q_iinc (lv' := [(0, .ref (E.1 1000)), (2, iV x2), (3, iV x3), (4, iV z9)]) F 3 [1, 2, 3, 0] dX12_make_142 rfl (q_n hN (by decide)) e10.symm rfl ?_
      refine q_goto F 114 dX12_make_145 (by decide) ?_
      exact ih x2 x3 z9 J6 hx2 hx3 hz9 m8 hw
set_option maxHeartbeats 4000000 in
set_option maxRecDepth 100000 in
theorem bX12_make_55 {X : xC} {E : cE} (F : mF X E RX12 cX12_make bG) (hR : X.1.2.2.2 = rmK 7 (28) (700)) (hN : X.2.2.1.2.2.2 = 6) {Q : Int → cI → Prop} (hret : rIM X E cX12_make (28) (700) Q) {a1 : Int} (ha1 : inR a1) : ∀ n55 : Nat, ∀ (x2 : Int) (x3 : Int) (J : cI), inR x2 → inR x3 → mM J → wX12_make_55 Q a1 n55 x2 x3 J → cW X (0) (0) 55 [(0, .ref (E.1 1000)), (2, iV x2), (3, iV x3)] [] (gw E.1 mIds (mef E J) ++ []) := by
  intro n55
  induction n55 with
  | zero => intro x2 x3 J hx2 hx3 hm hw; exact hw.elim
  | succ n55 ih =>
    intro x2 x3 J hx2 hx3 hm hw
    change wbX12_make_55 Q a1 (wX12_make_55 Q a1 n55) x2 x3 J at hw
    unfold wbX12_make_55 at hw
    refine q_iload_n F 2 dX12_make_55 rfl rfl ?_
    refine q_aload_n F 0 dX12_make_56 rfl rfl ?_
    refine s_g_rules F ib12 wd887 dX12_make_57 ?_
    refine q_icmp_ge F hx3 (hm _ _) 154 dX12_make_60 (by decide) (fun hc => ?_) (fun hc => ?_)
    · have hw := hw.1 hc
      refine q_aload_n F 0 dX12_make_154 rfl rfl ?_
      refine s_g_rules F ib12 wd887 dX12_make_155 ?_
      refine q_iconst F dX12_make_158 ?_
      refine q_isub F dX12_make_159 ?_
      obtain ⟨k1, hw⟩ := hw
      obtain ⟨z2, e3⟩ := ex1 (((J 1000 14) - 1))
      have hw := hw z2 e3
      have hz2 : inR z2 := by rw [e3]; exact k1
      refine q_top e3 ?_
      refine q_istore_n (lv' := [(0, .ref (E.1 1000)), (2, iV x2), (3, iV z2)]) F [1, 2, 0] dX12_make_160 rfl (q_n hN (by decide)) rfl ?_
      obtain ⟨n4, hw⟩ := hw
      exact bX12_make_161 F hR hN hret ha1 n4 x2 z2 J hx2 hz2 hm hw
    · have hw := hw.2 hc
      refine q_aload_n F 0 dX12_make_63 rfl rfl ?_
      refine s_g_newKind F ib12 wd910 dX12_make_64 ?_
      refine q_iload_n F 2 dX12_make_67 rfl rfl ?_
      refine q_aload_n F 0 dX12_make_68 rfl rfl ?_
      refine s_g_ruleKind F ib12 wd888 dX12_make_69 ?_
      refine q_iload_n F 2 dX12_make_72 rfl rfl ?_
      obtain ⟨k5, hw⟩ := hw
      refine s_ald F 70 kM_ruleKind k5 (by decide) dX12_make_73 ?_
      obtain ⟨k6, hw⟩ := hw
      obtain ⟨J7, e8⟩ := ex1 (up2 J 1037 x3 ((J 1015 x3)))
      have hw := hw J7 e8
      have m9 : mM J7 := mM_I hm e8 (hm _ _)
      refine s_ast F 70 kM_newKind k6 (by decide) e8 dX12_make_74 ?_
      refine q_aload_n F 0 dX12_make_75 rfl rfl ?_
      refine s_g_newNumber F ib12 wd911 dX12_make_76 ?_
      refine q_iload_n F 2 dX12_make_79 rfl rfl ?_
      refine q_aload_n F 0 dX12_make_80 rfl rfl ?_
      refine s_g_ruleNumber F ib12 wd889 dX12_make_81 ?_
      refine q_iload_n F 2 dX12_make_84 rfl rfl ?_
      obtain ⟨k10, hw⟩ := hw
      refine s_ald F 70 kM_ruleNumber k10 (by decide) dX12_make_85 ?_
      obtain ⟨k11, hw⟩ := hw
      obtain ⟨J12, e13⟩ := ex1 (up2 J7 1038 x3 ((J7 1016 x3)))
      have hw := hw J12 e13
      have m14 : mM J12 := mM_I m9 e13 (m9 _ _)
      refine s_ast F 70 kM_newNumber k11 (by decide) e13 dX12_make_86 ?_
      refine q_aload_n F 0 dX12_make_87 rfl rfl ?_
      refine s_g_newOften F ib12 wd912 dX12_make_88 ?_
      refine q_iload_n F 2 dX12_make_91 rfl rfl ?_
      refine q_aload_n F 0 dX12_make_92 rfl rfl ?_
      refine s_g_ruleOften F ib12 wd890 dX12_make_93 ?_
      refine q_iload_n F 2 dX12_make_96 rfl rfl ?_
      obtain ⟨k15, hw⟩ := hw
      refine s_ald F 70 kM_ruleOften k15 (by decide) dX12_make_97 ?_
      obtain ⟨k16, hw⟩ := hw
      obtain ⟨J17, e18⟩ := ex1 (up2 J12 1039 x3 ((J12 1017 x3)))
      have hw := hw J17 e18
      have m19 : mM J17 := mM_I m14 e18 (m14 _ _)
      refine s_ast F 70 kM_newOften k16 (by decide) e18 dX12_make_98 ?_
      refine q_aload_n F 0 dX12_make_99 rfl rfl ?_
      refine s_g_newSize F ib12 wd913 dX12_make_100 ?_
      refine q_iload_n F 2 dX12_make_103 rfl rfl ?_
      refine q_aload_n F 0 dX12_make_104 rfl rfl ?_
      refine s_g_ruleSize F ib12 wd891 dX12_make_105 ?_
      refine q_iload_n F 2 dX12_make_108 rfl rfl ?_
      obtain ⟨k20, hw⟩ := hw
      refine s_ald F 70 kM_ruleSize k20 (by decide) dX12_make_109 ?_
      obtain ⟨k21, hw⟩ := hw
      obtain ⟨J22, e23⟩ := ex1 (up2 J17 1040 x3 ((J17 1018 x3)))
      have hw := hw J22 e23
      have m24 : mM J22 := mM_I m19 e23 (m19 _ _)
      refine s_ast F 70 kM_newSize k21 (by decide) e23 dX12_make_110 ?_
      refine q_iconst F dX12_make_111 ?_
      refine q_istore (lv' := [(0, .ref (E.1 1000)), (2, iV x2), (3, iV x3), (4, iV 0)]) F [1, 2, 3, 0] dX12_make_112 (q_n hN (by decide)) rfl ?_
      obtain ⟨n25, hw⟩ := hw
      exact bX12_make_114 F hR hN hret ha1 ih n25 x2 x3 0 J22 hx2 hx3 (⟨by decide, by decide⟩ : inR (0)) m24 hw
set_option maxHeartbeats 4000000 in
set_option maxRecDepth 100000 in
theorem kcX12_make {l : Launch} {D : va_G} {E : cE} {a1 : Int} {J : cI} (hm : mM J) (ha1 : inR a1) {Q : Int → cI → Prop} (hw : wX12_make a1 J Q) : gM l D E mIds yX12_make vX12_make (rmK 7 (28) (700)) [.ref (E.1 1000), iV a1] (mef E J) (mef E) (oI Q) (28) (700) := by
  unfold wX12_make at hw
  refine k_ofW (own := RX12) (cc := cX12_make) (maxL := 6) (ret := (some .int)) (lv := [(0, .ref (E.1 1000)), (1, iV a1)]) (by decide) rfl rfl (Nat.le_of_ble_eq_true rfl) rfl ?_
  intro X hl hR hN hD F K
  subst hl; subst hD
  have hret := mk_rIM (Q := Q) F K
  refine q_aload_n F 0 dX12_make_0 rfl rfl ?_
  refine q_iconst F dX12_make_1 ?_
  obtain ⟨J1, e2⟩ := ex1 (up2 J 1000 0 0)
  have hw := hw J1 e2
  have m3 : mM J1 := mM_I hm e2 (⟨by decide, by decide⟩ : inR (0))
  refine s_p_thrown F ib12 wd873 e2 dX12_make_2 ?_
  refine q_iload_n F 1 dX12_make_5 rfl rfl ?_
  refine q_iconst F dX12_make_6 ?_
  refine q_ldc_w F (n := 65535) (show Cond.constant RX12 339 (Int32.ofInt 65535) ∈ bG by rw [show Int32.ofInt 65535 = 65535 by decide]; exact wd1171) dX12_make_7 ?_
  refine q_SiM F (kcX12_isIn m3 ha1 (⟨by decide, by decide⟩ : inR (0)) (⟨by decide, by decide⟩ : inR (65535)) hw) (bS wd932 wd933 wd13 wd934) rfl ⟨rfl, rfl⟩ ydX12_isIn (rmK_le hR (by omega) (by decide)) (av := [iV a1, iV 0, iV 65535]) rfl rfl (Nat.le_of_ble_eq_true rfl) dX12_make_10 (rmK_cs hR (by omega) (by omega)) (fun r4 J5 h6 m7 hw => ?_)
  refine q_if_ne F h6 22 dX12_make_13 (by decide) (fun hc => ?_) (fun hc => ?_)
  · have hw := hw.1 hc
    refine q_aload_n F 0 dX12_make_22 rfl rfl ?_
    refine s_g_w F ib12 wd884 dX12_make_23 ?_
    refine q_if_ne F (m7 _ _) 35 dX12_make_26 (by decide) (fun hc => ?_) (fun hc => ?_)
    · have hw := hw.1 hc
      refine q_aload_n F 0 dX12_make_35 rfl rfl ?_
      refine q_iload_n F 1 dX12_make_36 rfl rfl ?_
      obtain ⟨J8, e9⟩ := ex1 (up2 J5 1000 43 a1)
      have hw := hw J8 e9
      have m10 : mM J8 := mM_I m7 e9 ha1
      refine s_p_seed F ib12 wd916 e9 dX12_make_37 ?_
      refine q_aload_n F 0 dX12_make_40 rfl rfl ?_
      refine s_g_rules F ib12 wd887 dX12_make_41 ?_
      obtain ⟨z11, e12⟩ := ex1 ((J8 1000 14))
      have hw := hw z11 e12
      have hz11 : inR z11 := by rw [e12]; exact (m10 _ _)
      refine q_top e12 ?_
      refine q_istore_n (lv' := [(0, .ref (E.1 1000)), (1, iV a1), (2, iV z11)]) F [1, 2, 0] dX12_make_44 rfl (q_n hN (by decide)) rfl ?_
      refine q_aload_n F 0 dX12_make_45 rfl rfl ?_
      refine q_aload_n F 0 dX12_make_46 rfl rfl ?_
      refine s_g_rules F ib12 wd887 dX12_make_47 ?_
      obtain ⟨J13, e14⟩ := ex1 (up2 J8 1000 36 ((J8 1000 14)))
      have hw := hw J13 e14
      have m15 : mM J13 := mM_I m10 e14 (m10 _ _)
      refine s_p_many F ib12 wd909 e14 dX12_make_50 ?_
      refine q_iconst F dX12_make_53 ?_
      refine q_istore_n (lv' := [(0, .ref (E.1 1000)), (1, iV a1), (2, iV z11), (3, iV 0)]) F [1, 2, 3, 0] dX12_make_54 rfl (q_n hN (by decide)) rfl ?_
      refine q_lv [0, 2, 3] rfl ?_
      obtain ⟨n16, hw⟩ := hw
      exact bX12_make_55 F hR hN hret ha1 n16 z11 0 J13 hz11 (⟨by decide, by decide⟩ : inR (0)) m15 hw
    · have hw := hw.2 hc
      refine q_aload_n F 0 dX12_make_29 rfl rfl ?_
      refine q_iconst F dX12_make_30 ?_
      refine q_ViM F (kcX12_no m7 (⟨by decide, by decide⟩ : inR (2)) hw) (by decide) meObj (ci := 10) rfl (bV wd925 wd926 wd1285 wd13 wd927) rfl ⟨rfl, rfl⟩ ydX12_no (rmK_le hR (by omega) (by decide)) (av := [iV 2]) rfl rfl (Nat.le_of_ble_eq_true rfl) dX12_make_31 (rmK_cs hR (by omega) (by omega)) (fun r17 J18 h19 m20 hw => ?_)
      refine q_wide (nc' := 28) (ns' := 700) (by omega) (by omega) ?_
      exact hret _ _ _ _ _ dX12_make_34 h19 m20 hw
  · have hw := hw.2 hc
    refine q_aload_n F 0 dX12_make_16 rfl rfl ?_
    refine q_iconst F dX12_make_17 ?_
    refine q_ViM F (kcX12_no m7 (⟨by decide, by decide⟩ : inR (1)) hw) (by decide) meObj (ci := 10) rfl (bV wd925 wd926 wd1285 wd13 wd927) rfl ⟨rfl, rfl⟩ ydX12_no (rmK_le hR (by omega) (by decide)) (av := [iV 1]) rfl rfl (Nat.le_of_ble_eq_true rfl) dX12_make_18 (rmK_cs hR (by omega) (by omega)) (fun r21 J22 h23 m24 hw => ?_)
    refine q_wide (nc' := 28) (ns' := 700) (by omega) (by omega) ?_
    exact hret _ _ _ _ _ dX12_make_21 h23 m24 hw
theorem ydX12_change : yX12_change.cls = RX12 ∧ yX12_change.cls ≠ "java/lang/invoke/MethodHandle" ∧ yX12_change.cls ≠ "java/lang/invoke/VarHandle" ∧ (parseMethodDescriptor yX12_change.desc).map (fun d => d.parameters.length) = some 1 := by decide +kernel
def vX12_change : List Cond := Cond.code yX12_change cX12_change 7 (some .int) :: bG
set_option maxHeartbeats 4000000 in
set_option maxRecDepth 100000 in
theorem bX12_change_249 {X : xC} {E : cE} (F : mF X E RX12 cX12_change bG) (hR : X.1.2.2.2 = rmK 3 (2) (50)) (hN : X.2.2.1.2.2.2 = 7) {Q : Int → cI → Prop} (hret : rIM X E cX12_change (2) (50) Q) {a1 : Int} (ha1 : inR a1) : ∀ (q0 : Nat) (q1 : Nat) (f0 : Int → Int) (f1 : Int → Int) (J : cI), (∀ x, inR (f0 x)) → (∀ x, inR (f1 x)) → mM J → wX12_change_249 Q a1 f0 f1 J → cW X (2) (50) 249 [(0, .ref (E.1 1000))] [] (gw E.1 mIds (mef E J) ++ [(q0, iA E 25 f0), (q1, iA E 25 f1)]) := by
  intro q0 q1 f0 f1 J hf0 hf1 hm hw
  unfold wX12_change_249 at hw
  refine q_aload_n F 0 dX12_change_249 rfl rfl ?_
  refine q_iconst F dX12_change_250 ?_
  obtain ⟨J1, e2⟩ := ex1 (up2 J 1000 28 0)
  have hw := hw J1 e2
  have m3 : mM J1 := mM_I hm e2 (⟨by decide, by decide⟩ : inR (0))
  refine s_p_kept F ib12 wd901 e2 dX12_change_251 ?_
  refine q_aload_n F 0 dX12_change_254 rfl rfl ?_
  refine q_ViM F (kcX12_lookAnew m3 hw) (by decide) meObj (ci := 10) rfl (bV wd1000 wd1001 wd1304 wd13 wd1002) rfl ⟨rfl, rfl⟩ ydX12_lookAnew (rmK_le hR (by omega) (by decide)) (av := []) rfl rfl (Nat.le_of_ble_eq_true rfl) dX12_change_255 (rmK_cs hR (by omega) (by omega)) (fun r4 J5 h6 m7 hw => ?_)
  refine q_pop F dX12_change_258 rfl ?_
  refine q_aload_n F 0 dX12_change_259 rfl rfl ?_
  refine q_ViM F (kcX12_cells m7 hw) (by decide) meObj (ci := 10) rfl (bV wd1003 wd1004 wd1305 wd13 wd1005) rfl ⟨rfl, rfl⟩ ydX12_cells (rmK_le hR (by omega) (by decide)) (av := []) rfl rfl (Nat.le_of_ble_eq_true rfl) dX12_change_260 (rmK_cs hR (by omega) (by omega)) (fun r8 J9 h10 m11 hw => ?_)
  exact hret _ _ _ _ _ dX12_change_263 h10 m11 hw
set_option maxHeartbeats 4000000 in
set_option maxRecDepth 100000 in
theorem bX12_change_179 {X : xC} {E : cE} (F : mF X E RX12 cX12_change bG) (hR : X.1.2.2.2 = rmK 3 (2) (50)) (hN : X.2.2.1.2.2.2 = 7) {Q : Int → cI → Prop} (hret : rIM X E cX12_change (2) (50) Q) {a1 : Int} (ha1 : inR a1) {K167 : Int → (Int → Int) → (Int → Int) → cI → Prop} (hK167 : ∀ (x4 : Int) (q0 : Nat) (q1 : Nat) (f0 : Int → Int) (f1 : Int → Int) (J : cI), inR x4 → (∀ x, inR (f0 x)) → (∀ x, inR (f1 x)) → mM J → K167 x4 f0 f1 J → cW X (2) (50) 167 [(0, .ref (E.1 1000)), (1, iV a1), (2, .ref q0), (4, iV x4)] [] (gw E.1 mIds (mef E J) ++ [(q0, iA E 25 f0), (q1, iA E 25 f1)])) : ∀ n179 : Nat, ∀ (x4 : Int) (x5 : Int) (q0 : Nat) (q1 : Nat) (f0 : Int → Int) (f1 : Int → Int) (J : cI), inR x4 → inR x5 → (∀ x, inR (f0 x)) → (∀ x, inR (f1 x)) → mM J → wX12_change_179 Q a1 K167 n179 x4 x5 f0 f1 J → cW X (2) (50) 179 [(0, .ref (E.1 1000)), (1, iV a1), (2, .ref q0), (4, iV x4), (5, iV x5)] [] (gw E.1 mIds (mef E J) ++ [(q0, iA E 25 f0), (q1, iA E 25 f1)]) := by
  intro n179
  induction n179 with
  | zero => intro x4 x5 q0 q1 f0 f1 J hx4 hx5 hf0 hf1 hm hw; exact hw.elim
  | succ n179 ih =>
    intro x4 x5 q0 q1 f0 f1 J hx4 hx5 hf0 hf1 hm hw
    change wbX12_change_179 Q a1 K167 (wX12_change_179 Q a1 K167 n179) x4 x5 f0 f1 J at hw
    unfold wbX12_change_179 at hw
    refine q_iload F 4 dX12_change_179 rfl ?_
    refine q_aload_n F 0 dX12_change_181 rfl rfl ?_
    refine s_g_ruleSize F ib12 wd891 dX12_change_182 ?_
    refine q_iload F 3 dX12_change_185 rfl ?_
    obtain ⟨k1, hw⟩ := hw
    refine s_ald F 70 kM_ruleSize k1 (by decide) dX12_change_187 ?_
    refine q_icmp_ge F hx5 (hm _ _) 219 dX12_change_188 (by decide) (fun hc => ?_) (fun hc => ?_)
    · have hw := hw.1 hc
      obtain ⟨k4, hw⟩ := hw
      obtain ⟨z2, e3⟩ := ex1 (x4 + 1)
      have hw := hw z2 e3
      have hz2 : inR z2 := by rw [e3]; exact k4
      refine q_iinc (lv' := [(0, .ref (E.1 1000)), (1, iV a1), (2, .ref q0), (4, iV z2), (5, iV x5)]) F 3 [1, 2, 3, 0, 4] dX12_change_219 rfl (q_n hN (by decide)) e3.symm rfl ?_
      refine q_goto F 167 dX12_change_222 (by decide) ?_
      refine q_lv [0, 1, 2, 3] rfl ?_
      exact hK167 z2 q0 q1 f0 f1 J hz2 hf0 hf1 hm hw
    · have hw := hw.2 hc
      refine q_aload_n F 0 dX12_change_191 rfl rfl ?_
      refine s_g_ruleCells F ib12 wd892 dX12_change_192 ?_
      refine q_iconst F dX12_change_195 ?_
      refine q_iload F 3 dX12_change_196 rfl ?_
      refine q_imul F dX12_change_198 ?_
      refine q_iload F 4 dX12_change_199 rfl ?_
      refine q_iadd F dX12_change_201 ?_
      refine q_aload_n F 2 dX12_change_202 rfl rfl ?_
      refine q_aload_n F 0 dX12_change_203 rfl rfl ?_
      refine q_iload F 3 dX12_change_204 rfl ?_
      refine q_iload F 4 dX12_change_206 rfl ?_
      refine q_ViM F (kcX12_cellOf hm hx4 hx5 hw) (by decide) meObj (ci := 10) rfl (bV wd1030 wd1031 wd1311 wd13 wd1032) rfl ⟨rfl, rfl⟩ ydX12_cellOf (rmK_le hR (by omega) (by decide)) (av := [iV x4, iV x5]) rfl rfl (Nat.le_of_ble_eq_true rfl) dX12_change_208 (rmK_cs hR (by omega) (by omega)) (fun r5 J6 h7 m8 hw => ?_)
      obtain ⟨k9, hw⟩ := hw
      refine g_tald F 0 rfl k9 (by decide) dX12_change_211 ?_
      obtain ⟨k10, hw⟩ := hw
      obtain ⟨J11, e12⟩ := ex1 (up2 J6 1019 (((5 * x4) + x5)) ((f0 r5)))
      have hw := hw J11 e12
      have m13 : mM J11 := mM_I m8 e12 (hf0 _)
      refine s_ast F 350 kM_ruleCells k10 (by decide) e12 dX12_change_212 ?_
      obtain ⟨k16, hw⟩ := hw
      obtain ⟨z14, e15⟩ := ex1 (x5 + 1)
      have hw := hw z14 e15
      have hz14 : inR z14 := by rw [e15]; exact k16
      refine q_iinc (lv' := [(0, .ref (E.1 1000)), (1, iV a1), (2, .ref q0), (4, iV x4), (5, iV z14)]) F 4 [1, 2, 3, 4, 0] dX12_change_213 rfl (q_n hN (by decide)) e15.symm rfl ?_
      refine q_goto F 179 dX12_change_216 (by decide) ?_
      exact ih x4 z14 q0 q1 f0 f1 J11 hx4 hz14 hf0 hf1 m13 hw
set_option maxHeartbeats 4000000 in
set_option maxRecDepth 100000 in
theorem bX12_change_167 {X : xC} {E : cE} (F : mF X E RX12 cX12_change bG) (hR : X.1.2.2.2 = rmK 3 (2) (50)) (hN : X.2.2.1.2.2.2 = 7) {Q : Int → cI → Prop} (hret : rIM X E cX12_change (2) (50) Q) {a1 : Int} (ha1 : inR a1) : ∀ n167 : Nat, ∀ (x4 : Int) (q0 : Nat) (q1 : Nat) (f0 : Int → Int) (f1 : Int → Int) (J : cI), inR x4 → (∀ x, inR (f0 x)) → (∀ x, inR (f1 x)) → mM J → wX12_change_167 Q a1 n167 x4 f0 f1 J → cW X (2) (50) 167 [(0, .ref (E.1 1000)), (1, iV a1), (2, .ref q0), (4, iV x4)] [] (gw E.1 mIds (mef E J) ++ [(q0, iA E 25 f0), (q1, iA E 25 f1)]) := by
  intro n167
  induction n167 with
  | zero => intro x4 q0 q1 f0 f1 J hx4 hf0 hf1 hm hw; exact hw.elim
  | succ n167 ih =>
    intro x4 q0 q1 f0 f1 J hx4 hf0 hf1 hm hw
    change wbX12_change_167 Q a1 (wX12_change_167 Q a1 n167) x4 f0 f1 J at hw
    unfold wbX12_change_167 at hw
    refine q_iload F 3 dX12_change_167 rfl ?_
    refine q_aload_n F 0 dX12_change_169 rfl rfl ?_
    refine s_g_rules F ib12 wd887 dX12_change_170 ?_
    refine q_icmp_ge F hx4 (hm _ _) 225 dX12_change_173 (by decide) (fun hc => ?_) (fun hc => ?_)
    · have hw := hw.1 hc
      refine q_iload_n F 1 dX12_change_225 rfl rfl ?_
      refine q_if_ne F ha1 249 dX12_change_226 (by decide) (fun hc => ?_) (fun hc => ?_)
      · have hw := hw.1 hc
        refine q_lv [0] rfl ?_
        exact bX12_change_249 F hR hN hret ha1 q0 q1 f0 f1 J hf0 hf1 hm hw
      · have hw := hw.2 hc
        refine q_aload_n F 0 dX12_change_229 rfl rfl ?_
        refine s_g_w F ib12 wd884 dX12_change_230 ?_
        obtain ⟨z1, e2⟩ := ex1 ((J 1000 11))
        have hw := hw z1 e2
        have hz1 : inR z1 := by rw [e2]; exact (hm _ _)
        refine q_top e2 ?_
        refine q_istore (lv' := [(0, .ref (E.1 1000)), (1, iV a1), (2, .ref q0), (4, iV z1)]) F [1, 2, 3, 0] dX12_change_233 (q_n hN (by decide)) rfl ?_
        refine q_aload_n F 0 dX12_change_235 rfl rfl ?_
        refine q_aload_n F 0 dX12_change_236 rfl rfl ?_
        refine s_g_h F ib12 wd885 dX12_change_237 ?_
        obtain ⟨J3, e4⟩ := ex1 (up2 J 1000 11 ((J 1000 12)))
        have hw := hw J3 e4
        have m5 : mM J3 := mM_I hm e4 (hm _ _)
        refine s_p_w F ib12 wd884 e4 dX12_change_240 ?_
        refine q_aload_n F 0 dX12_change_243 rfl rfl ?_
        refine q_iload F 3 dX12_change_244 rfl ?_
        obtain ⟨J6, e7⟩ := ex1 (up2 J3 1000 12 z1)
        have hw := hw J6 e7
        have m8 : mM J6 := mM_I m5 e7 hz1
        refine s_p_h F ib12 wd885 e7 dX12_change_246 ?_
        refine q_lv [0] rfl ?_
        exact bX12_change_249 F hR hN hret ha1 q0 q1 f0 f1 J6 hf0 hf1 m8 hw
    · have hw := hw.2 hc
      refine q_iconst F dX12_change_176 ?_
      refine q_istore (lv' := [(0, .ref (E.1 1000)), (1, iV a1), (2, .ref q0), (4, iV x4), (5, iV 0)]) F [1, 2, 3, 4, 0] dX12_change_177 (q_n hN (by decide)) rfl ?_
      obtain ⟨n9, hw⟩ := hw
      exact bX12_change_179 F hR hN hret ha1 ih n9 x4 0 q0 q1 f0 f1 J hx4 (⟨by decide, by decide⟩ : inR (0)) hf0 hf1 hm hw
set_option maxHeartbeats 4000000 in
set_option maxRecDepth 100000 in
theorem bX12_change_140 {X : xC} {E : cE} (F : mF X E RX12 cX12_change bG) (hR : X.1.2.2.2 = rmK 3 (2) (50)) (hN : X.2.2.1.2.2.2 = 7) {Q : Int → cI → Prop} (hret : rIM X E cX12_change (2) (50) Q) {a1 : Int} (ha1 : inR a1) : ∀ n140 : Nat, ∀ (x4 : Int) (q0 : Nat) (q1 : Nat) (f0 : Int → Int) (f1 : Int → Int) (J : cI), inR x4 → (∀ x, inR (f0 x)) → (∀ x, inR (f1 x)) → mM J → wX12_change_140 Q a1 n140 x4 f0 f1 J → cW X (2) (50) 140 [(0, .ref (E.1 1000)), (1, iV a1), (2, .ref q0), (3, .ref q1), (4, iV x4)] [] (gw E.1 mIds (mef E J) ++ [(q0, iA E 25 f0), (q1, iA E 25 f1)]) := by
  intro n140
  induction n140 with
  | zero => intro x4 q0 q1 f0 f1 J hx4 hf0 hf1 hm hw; exact hw.elim
  | succ n140 ih =>
    intro x4 q0 q1 f0 f1 J hx4 hf0 hf1 hm hw
    change wbX12_change_140 Q a1 (wX12_change_140 Q a1 n140) x4 f0 f1 J at hw
    unfold wbX12_change_140 at hw
    refine q_iload F 4 dX12_change_140 rfl ?_
    refine q_bipush F dX12_change_142 (by decide) ?_
    refine q_icmp_ge F hx4 (⟨by decide, by decide⟩ : inR (25)) 164 dX12_change_144 (by decide) (fun hc => ?_) (fun hc => ?_)
    · have hw := hw.1 hc
      refine q_iconst F dX12_change_164 ?_
      refine q_istore (lv' := [(0, .ref (E.1 1000)), (1, iV a1), (2, .ref q0), (3, .ref q1), (4, iV 0)]) F [1, 2, 3, 4, 0] dX12_change_165 (q_n hN (by decide)) rfl ?_
      refine q_lv [0, 1, 2, 4] rfl ?_
      obtain ⟨n1, hw⟩ := hw
      exact bX12_change_167 F hR hN hret ha1 n1 0 q0 q1 f0 f1 J (⟨by decide, by decide⟩ : inR (0)) hf0 hf1 hm hw
    · have hw := hw.2 hc
      refine q_aload_n F 0 dX12_change_147 rfl rfl ?_
      refine s_g_grid F ib12 wd893 dX12_change_148 ?_
      refine q_iload F 4 dX12_change_151 rfl ?_
      refine q_aload_n F 3 dX12_change_153 rfl rfl ?_
      refine q_iload F 4 dX12_change_154 rfl ?_
      obtain ⟨k2, hw⟩ := hw
      refine g_tald F 1 rfl k2 (by decide) dX12_change_156 ?_
      obtain ⟨k3, hw⟩ := hw
      obtain ⟨J4, e5⟩ := ex1 (up2 J 1020 x4 ((f1 x4)))
      have hw := hw J4 e5
      have m6 : mM J4 := mM_I hm e5 (hf1 _)
      refine s_ast F 25 kM_grid k3 (by decide) e5 dX12_change_157 ?_
      obtain ⟨k9, hw⟩ := hw
      obtain ⟨z7, e8⟩ := ex1 (x4 + 1)
      have hw := hw z7 e8
      have hz7 : inR z7 := by rw [e8]; exact k9
      refine q_iinc (lv' := [(0, .ref (E.1 1000)), (1, iV a1), (2, .ref q0), (3, .ref q1), (4, iV z7)]) F 4 [1, 2, 3, 4, 0] dX12_change_158 rfl (q_n hN (by decide)) e8.symm rfl ?_
      refine q_goto F 140 dX12_change_161 (by decide) ?_
      exact ih z7 q0 q1 f0 f1 J4 hz7 hf0 hf1 m6 hw
set_option maxHeartbeats 4000000 in
set_option maxRecDepth 100000 in
theorem bX12_change_117 {X : xC} {E : cE} (F : mF X E RX12 cX12_change bG) (hR : X.1.2.2.2 = rmK 3 (2) (50)) (hN : X.2.2.1.2.2.2 = 7) {Q : Int → cI → Prop} (hret : rIM X E cX12_change (2) (50) Q) {a1 : Int} (ha1 : inR a1) {K46 : Int → (Int → Int) → (Int → Int) → cI → Prop} (hK46 : ∀ (x4 : Int) (q0 : Nat) (q1 : Nat) (f0 : Int → Int) (f1 : Int → Int) (J : cI), inR x4 → (∀ x, inR (f0 x)) → (∀ x, inR (f1 x)) → mM J → K46 x4 f0 f1 J → cW X (2) (50) 46 [(0, .ref (E.1 1000)), (1, iV a1), (2, .ref q0), (3, .ref q1), (4, iV x4)] [] (gw E.1 mIds (mef E J) ++ [(q0, iA E 25 f0), (q1, iA E 25 f1)])) : ∀ (x4 : Int) (y1 : Int) (y2 : Int) (q0 : Nat) (q1 : Nat) (f0 : Int → Int) (f1 : Int → Int) (J : cI), inR x4 → inR y1 → inR y2 → (∀ x, inR (f0 x)) → (∀ x, inR (f1 x)) → mM J → wX12_change_117 Q a1 K46 x4 y1 y2 f0 f1 J → cW X (2) (50) 117 [(0, .ref (E.1 1000)), (1, iV a1), (2, .ref q0), (3, .ref q1), (4, iV x4)] [iV y2, iV y1, .ref q0] (gw E.1 mIds (mef E J) ++ [(q0, iA E 25 f0), (q1, iA E 25 f1)]) := by
  intro x4 y1 y2 q0 q1 f0 f1 J hx4 hy1 hy2 hf0 hf1 hm hw
  unfold wX12_change_117 at hw
  obtain ⟨k1, hw⟩ := hw
  obtain ⟨f2, e3⟩ := ex1 (upF f0 y1 y2)
  have hw := hw f2 e3
  have gf2 : ∀ x, inR (f2 x) := upF_in hf0 e3 hy2
  refine g_tast F 0 rfl k1 (by decide) (T' := [(q0, iA E 25 f2), (q1, iA E 25 f1)]) (by rw [e3]; rfl) dX12_change_117 ?_
  refine q_aload_n F 3 dX12_change_118 rfl rfl ?_
  refine q_aload_n F 2 dX12_change_119 rfl rfl ?_
  refine q_iload F 4 dX12_change_120 rfl ?_
  obtain ⟨k4, hw⟩ := hw
  refine g_tald F 0 rfl k4 (by decide) dX12_change_122 ?_
  refine q_aload_n F 0 dX12_change_123 rfl rfl ?_
  refine s_g_grid F ib12 wd893 dX12_change_124 ?_
  refine q_iload F 4 dX12_change_127 rfl ?_
  obtain ⟨k5, hw⟩ := hw
  refine s_ald F 25 kM_grid k5 (by decide) dX12_change_129 ?_
  obtain ⟨k6, hw⟩ := hw
  obtain ⟨f7, e8⟩ := ex1 (upF f1 ((f2 x4)) ((J 1020 x4)))
  have hw := hw f7 e8
  have gf7 : ∀ x, inR (f7 x) := upF_in hf1 e8 (hm _ _)
  refine g_tast F 1 rfl k6 (by decide) (T' := [(q0, iA E 25 f2), (q1, iA E 25 f7)]) (by rw [e8]; rfl) dX12_change_130 ?_
  obtain ⟨k11, hw⟩ := hw
  obtain ⟨z9, e10⟩ := ex1 (x4 + 1)
  have hw := hw z9 e10
  have hz9 : inR z9 := by rw [e10]; exact k11
  refine q_iinc (lv' := [(0, .ref (E.1 1000)), (1, iV a1), (2, .ref q0), (3, .ref q1), (4, iV z9)]) F 4 [1, 2, 3, 4, 0] dX12_change_131 rfl (q_n hN (by decide)) e10.symm rfl ?_
  refine q_goto F 46 dX12_change_134 (by decide) ?_
  exact hK46 z9 q0 q1 f2 f7 J hz9 gf2 gf7 hm hw
set_option maxHeartbeats 4000000 in
set_option maxRecDepth 100000 in
theorem bX12_change_46 {X : xC} {E : cE} (F : mF X E RX12 cX12_change bG) (hR : X.1.2.2.2 = rmK 3 (2) (50)) (hN : X.2.2.1.2.2.2 = 7) {Q : Int → cI → Prop} (hret : rIM X E cX12_change (2) (50) Q) {a1 : Int} (ha1 : inR a1) : ∀ n46 : Nat, ∀ (x4 : Int) (q0 : Nat) (q1 : Nat) (f0 : Int → Int) (f1 : Int → Int) (J : cI), inR x4 → (∀ x, inR (f0 x)) → (∀ x, inR (f1 x)) → mM J → wX12_change_46 Q a1 n46 x4 f0 f1 J → cW X (2) (50) 46 [(0, .ref (E.1 1000)), (1, iV a1), (2, .ref q0), (3, .ref q1), (4, iV x4)] [] (gw E.1 mIds (mef E J) ++ [(q0, iA E 25 f0), (q1, iA E 25 f1)]) := by
  intro n46
  induction n46 with
  | zero => intro x4 q0 q1 f0 f1 J hx4 hf0 hf1 hm hw; exact hw.elim
  | succ n46 ih =>
    intro x4 q0 q1 f0 f1 J hx4 hf0 hf1 hm hw
    change wbX12_change_46 Q a1 (wX12_change_46 Q a1 n46) x4 f0 f1 J at hw
    unfold wbX12_change_46 at hw
    refine q_iload F 4 dX12_change_46 rfl ?_
    refine q_aload_n F 0 dX12_change_48 rfl rfl ?_
    refine q_ViM F (kcX12_cells hm hw) (by decide) meObj (ci := 10) rfl (bV wd1003 wd1004 wd1305 wd13 wd1005) rfl ⟨rfl, rfl⟩ ydX12_cells (rmK_le hR (by omega) (by decide)) (av := []) rfl rfl (Nat.le_of_ble_eq_true rfl) dX12_change_49 (rmK_cs hR (by omega) (by omega)) (fun r1 J2 h3 m4 hw => ?_)
    refine q_icmp_ge F hx4 h3 137 dX12_change_52 (by decide) (fun hc => ?_) (fun hc => ?_)
    · have hw := hw.1 hc
      refine q_iconst F dX12_change_137 ?_
      refine q_istore (lv' := [(0, .ref (E.1 1000)), (1, iV a1), (2, .ref q0), (3, .ref q1), (4, iV 0)]) F [1, 2, 3, 4, 0] dX12_change_138 (q_n hN (by decide)) rfl ?_
      obtain ⟨n5, hw⟩ := hw
      exact bX12_change_140 F hR hN hret ha1 n5 0 q0 q1 f0 f1 J2 (⟨by decide, by decide⟩ : inR (0)) hf0 hf1 m4 hw
    · have hw := hw.2 hc
      refine q_iload F 4 dX12_change_55 rfl ?_
      refine q_aload_n F 0 dX12_change_57 rfl rfl ?_
      refine s_g_w F ib12 wd884 dX12_change_58 ?_
      obtain ⟨k6, hw⟩ := hw
      refine q_irem F ⟨⟨k6.1, (hx4).2⟩, k6.2, ((m4 _ _)).2⟩ dX12_change_61 ?_
      obtain ⟨k7, hw⟩ := hw
      obtain ⟨z8, e9⟩ := ex1 ((x4 % (J2 1000 11)))
      have hw := hw z8 e9
      have hz8 : inR z8 := by rw [e9]; exact k7
      refine q_top e9 ?_
      refine q_istore (lv' := [(0, .ref (E.1 1000)), (1, iV a1), (2, .ref q0), (3, .ref q1), (4, iV x4), (5, iV z8)]) F [1, 2, 3, 4, 5, 0] dX12_change_62 (q_n hN (by decide)) rfl ?_
      refine q_iload F 4 dX12_change_64 rfl ?_
      refine q_aload_n F 0 dX12_change_66 rfl rfl ?_
      refine s_g_w F ib12 wd884 dX12_change_67 ?_
      obtain ⟨k10, hw⟩ := hw
      refine q_idiv F ⟨⟨k10.1, (hx4).2⟩, k10.2, ((m4 _ _)).2⟩ dX12_change_70 ?_
      obtain ⟨k11, hw⟩ := hw
      obtain ⟨z12, e13⟩ := ex1 ((x4 / (J2 1000 11)))
      have hw := hw z12 e13
      have hz12 : inR z12 := by rw [e13]; exact k11
      refine q_top e13 ?_
      refine q_istore (lv' := [(0, .ref (E.1 1000)), (1, iV a1), (2, .ref q0), (3, .ref q1), (4, iV x4), (5, iV z8), (6, iV z12)]) F [1, 2, 3, 4, 5, 6, 0] dX12_change_71 (q_n hN (by decide)) rfl ?_
      refine q_aload_n F 2 dX12_change_73 rfl rfl ?_
      refine q_iload F 4 dX12_change_74 rfl ?_
      refine q_iload_n F 1 dX12_change_76 rfl rfl ?_
      refine q_if_ne F ha1 100 dX12_change_77 (by decide) (fun hc => ?_) (fun hc => ?_)
      · have hw := hw.1 hc
        refine q_aload_n F 0 dX12_change_100 rfl rfl ?_
        refine s_g_w F ib12 wd884 dX12_change_101 ?_
        refine q_iconst F dX12_change_104 ?_
        refine q_isub F dX12_change_105 ?_
        refine q_iload F 5 dX12_change_106 rfl ?_
        refine q_isub F dX12_change_108 ?_
        refine q_aload_n F 0 dX12_change_109 rfl rfl ?_
        refine s_g_w F ib12 wd884 dX12_change_110 ?_
        refine q_iload F 6 dX12_change_113 rfl ?_
        refine q_imul F dX12_change_115 ?_
        refine q_iadd F dX12_change_116 ?_
        obtain ⟨k14, hw⟩ := hw
        refine q_lv [0, 1, 2, 3, 4] rfl ?_
        exact bX12_change_117 F hR hN hret ha1 ih x4 x4 (((((J2 1000 11) - 1) - z8) + ((J2 1000 11) * z12))) q0 q1 f0 f1 J2 hx4 hx4 k14 hf0 hf1 m4 hw
      · have hw := hw.2 hc
        refine q_aload_n F 0 dX12_change_80 rfl rfl ?_
        refine s_g_h F ib12 wd885 dX12_change_81 ?_
        refine q_iconst F dX12_change_84 ?_
        refine q_isub F dX12_change_85 ?_
        refine q_iload F 6 dX12_change_86 rfl ?_
        refine q_isub F dX12_change_88 ?_
        refine q_aload_n F 0 dX12_change_89 rfl rfl ?_
        refine s_g_h F ib12 wd885 dX12_change_90 ?_
        refine q_iload F 5 dX12_change_93 rfl ?_
        refine q_imul F dX12_change_95 ?_
        refine q_iadd F dX12_change_96 ?_
        refine q_goto F 117 dX12_change_97 (by decide) ?_
        obtain ⟨k15, hw⟩ := hw
        refine q_lv [0, 1, 2, 3, 4] rfl ?_
        exact bX12_change_117 F hR hN hret ha1 ih x4 x4 (((((J2 1000 12) - 1) - z12) + ((J2 1000 12) * z8))) q0 q1 f0 f1 J2 hx4 hx4 k15 hf0 hf1 m4 hw
set_option maxHeartbeats 4000000 in
set_option maxRecDepth 100000 in
theorem kcX12_change {l : Launch} {D : va_G} {E : cE} {a1 : Int} {J : cI} (hm : mM J) (ha1 : inR a1) {Q : Int → cI → Prop} (hw : wX12_change a1 J Q) : gM l D E mIds yX12_change vX12_change (rmK 3 (2) (50)) [.ref (E.1 1000), iV a1] (mef E J) (mef E) (oI Q) (2) (50) := by
  unfold wX12_change at hw
  refine k_ofW (own := RX12) (cc := cX12_change) (maxL := 7) (ret := (some .int)) (lv := [(0, .ref (E.1 1000)), (1, iV a1)]) (by decide) rfl rfl (Nat.le_of_ble_eq_true rfl) rfl ?_
  intro X hl hR hN hD F K
  subst hl; subst hD
  have hret := mk_rIM (Q := Q) F K
  refine q_aload_n F 0 dX12_change_0 rfl rfl ?_
  refine q_iconst F dX12_change_1 ?_
  obtain ⟨J1, e2⟩ := ex1 (up2 J 1000 0 0)
  have hw := hw J1 e2
  have m3 : mM J1 := mM_I hm e2 (⟨by decide, by decide⟩ : inR (0))
  refine s_p_thrown F ib12 wd873 e2 dX12_change_2 ?_
  refine q_iload_n F 1 dX12_change_5 rfl rfl ?_
  refine q_iconst F dX12_change_6 ?_
  refine q_iconst F dX12_change_7 ?_
  refine q_SiM F (kcX12_isIn m3 ha1 (⟨by decide, by decide⟩ : inR (0)) (⟨by decide, by decide⟩ : inR (1)) hw) (bS wd932 wd933 wd13 wd934) rfl ⟨rfl, rfl⟩ ydX12_isIn (rmK_le hR (by omega) (by decide)) (av := [iV a1, iV 0, iV 1]) rfl rfl (Nat.le_of_ble_eq_true rfl) dX12_change_8 (rmK_cs hR (by omega) (by omega)) (fun r4 J5 h6 m7 hw => ?_)
  refine q_if_ne F h6 20 dX12_change_11 (by decide) (fun hc => ?_) (fun hc => ?_)
  · have hw := hw.1 hc
    refine q_aload_n F 0 dX12_change_20 rfl rfl ?_
    refine s_g_w F ib12 wd884 dX12_change_21 ?_
    refine q_if_ne F (m7 _ _) 33 dX12_change_24 (by decide) (fun hc => ?_) (fun hc => ?_)
    · have hw := hw.1 hc
      refine q_bipush F dX12_change_33 (by decide) ?_
      obtain ⟨f9, e10⟩ := ex1 (fun _ : Int => (0 : Int))
      have hw := hw f9 e10
      have gf9 : ∀ x, inR (f9 x) := by rw [e10]; exact fun _ => ti_0
      refine g_tnew F wd45 25 rfl (by decide) (rmK_cs (a := 1) (b := 0) (ns := 0) hR (by omega) (by omega)).1 (rmK_cs (a := 0) (nc := 0) hR (by omega) (by omega)).2 dX12_change_35 (T' := fun q8 => [(q8, iA E 25 f9)]) (fun q8 => by rw [e10]; rfl) (fun q8 => ?_)
      refine q_astore_n (lv' := [(0, .ref (E.1 1000)), (1, iV a1), (2, .ref q8)]) F [1, 2, 0] dX12_change_37 rfl (q_n hN (by decide)) rfl ?_
      refine q_bipush F dX12_change_38 (by decide) ?_
      obtain ⟨f12, e13⟩ := ex1 (fun _ : Int => (0 : Int))
      have hw := hw f12 e13
      have gf12 : ∀ x, inR (f12 x) := by rw [e13]; exact fun _ => ti_0
      refine g_tnew F wd45 25 rfl (by decide) (rmK_cs (a := 1) (b := 0) (ns := 0) hR (by omega) (by omega)).1 (rmK_cs (a := 0) (nc := 0) hR (by omega) (by omega)).2 dX12_change_40 (T' := fun q11 => [(q8, iA E 25 f9), (q11, iA E 25 f12)]) (fun q11 => by rw [e13]; rfl) (fun q11 => ?_)
      refine q_astore_n (lv' := [(0, .ref (E.1 1000)), (1, iV a1), (2, .ref q8), (3, .ref q11)]) F [1, 2, 3, 0] dX12_change_42 rfl (q_n hN (by decide)) rfl ?_
      refine q_iconst F dX12_change_43 ?_
      refine q_istore (lv' := [(0, .ref (E.1 1000)), (1, iV a1), (2, .ref q8), (3, .ref q11), (4, iV 0)]) F [1, 2, 3, 4, 0] dX12_change_44 (q_n hN (by decide)) rfl ?_
      obtain ⟨n14, hw⟩ := hw
      exact bX12_change_46 F hR hN hret ha1 n14 0 q8 q11 f9 f12 J5 (⟨by decide, by decide⟩ : inR (0)) gf9 gf12 m7 hw
    · have hw := hw.2 hc
      refine q_aload_n F 0 dX12_change_27 rfl rfl ?_
      refine q_iconst F dX12_change_28 ?_
      refine q_ViM F (kcX12_no m7 (⟨by decide, by decide⟩ : inR (2)) hw) (by decide) meObj (ci := 10) rfl (bV wd925 wd926 wd1285 wd13 wd927) rfl ⟨rfl, rfl⟩ ydX12_no (rmK_le hR (by omega) (by decide)) (av := [iV 2]) rfl rfl (Nat.le_of_ble_eq_true rfl) dX12_change_29 (rmK_cs hR (by omega) (by omega)) (fun r15 J16 h17 m18 hw => ?_)
      refine q_wide (nc' := 2) (ns' := 50) (by omega) (by omega) ?_
      exact hret _ _ _ _ _ dX12_change_32 h17 m18 hw
  · have hw := hw.2 hc
    refine q_aload_n F 0 dX12_change_14 rfl rfl ?_
    refine q_iconst F dX12_change_15 ?_
    refine q_ViM F (kcX12_no m7 (⟨by decide, by decide⟩ : inR (1)) hw) (by decide) meObj (ci := 10) rfl (bV wd925 wd926 wd1285 wd13 wd927) rfl ⟨rfl, rfl⟩ ydX12_no (rmK_le hR (by omega) (by decide)) (av := [iV 1]) rfl rfl (Nat.le_of_ble_eq_true rfl) dX12_change_16 (rmK_cs hR (by omega) (by omega)) (fun r19 J20 h21 m22 hw => ?_)
    refine q_wide (nc' := 2) (ns' := 50) (by omega) (by omega) ?_
    exact hret _ _ _ _ _ dX12_change_19 h21 m22 hw
