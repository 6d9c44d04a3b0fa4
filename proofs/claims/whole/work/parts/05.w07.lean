/-! ===== walks: X12_digest ===== -/
theorem ydX12_digest : yX12_digest.cls = RX12 ∧ yX12_digest.cls ≠ "java/lang/invoke/MethodHandle" ∧ yX12_digest.cls ≠ "java/lang/invoke/VarHandle" ∧ (parseMethodDescriptor yX12_digest.desc).map (fun d => d.parameters.length) = some 0 := by decide +kernel
def vX12_digest : List Cond := Cond.code yX12_digest cX12_digest 5 (some .long) :: bG
set_option maxHeartbeats 4000000 in
set_option maxRecDepth 100000 in
theorem bX12_digest_207 {X : xC} {E : cE} (F : mF X E RX12 cX12_digest bG) (hR : X.1.2.2.2 = rmK 6 (12) (132)) (hN : X.2.2.1.2.2.2 = 5) {Q : Int → cI → Prop} (hret : rJM X E cX12_digest (12) (132) Q)   : ∀ n207 : Nat, ∀ (x1 : Int) (x3 : Int) (J : cI), inR x3 → mM J → wX12_digest_207 Q n207 x1 x3 J → cW X (12) (132) 207 [(0, .ref (E.1 1000)), (1, jV x1), (3, iV x3)] [] (gw E.1 mIds (mef E J) ++ []) := by
  intro n207
  induction n207 with
  | zero => intro x1 x3 J hx3 hm hw; exact hw.elim
  | succ n207 ih =>
    intro x1 x3 J hx3 hm hw
    change wbX12_digest_207 Q (wX12_digest_207 Q n207) x1 x3 J at hw
    unfold wbX12_digest_207 at hw
    refine q_iload_n F 2 dX12_digest_207 rfl rfl ?_
    refine q_aload_n F 0 dX12_digest_208 rfl rfl ?_
    refine s_g_papered F ib12 wd883 dX12_digest_209 ?_
    refine q_icmp_ge F hx3 (hm _ _) 235 dX12_digest_212 (by decide) (fun hc => ?_) (fun hc => ?_)
    · have hw := hw.1 hc
      refine q_lload_n F 1 dX12_digest_235 rfl rfl ?_
      exact hret _ _ _ _ _ dX12_digest_236 hm hw
    · have hw := hw.2 hc
      refine q_lload_n F 1 dX12_digest_215 rfl rfl ?_
      refine q_ldc2 F (n := 31) wd1192 dX12_digest_216 ?_
      refine q_lmul F dX12_digest_219 ?_
      refine q_aload_n F 0 dX12_digest_220 rfl rfl ?_
      refine s_g_paper F ib12 wd882 dX12_digest_221 ?_
      refine q_iload_n F 2 dX12_digest_224 rfl rfl ?_
      obtain ⟨k1, hw⟩ := hw
      refine s_ald F 4000 kM_paper k1 (by decide) dX12_digest_225 ?_
      refine q_i2l F (hm _ _) dX12_digest_226 ?_
      refine q_ladd F dX12_digest_227 ?_
      refine q_lstore_n (lv' := [(0, .ref (E.1 1000)), (1, jV (((x1 * 31) + (J 1009 x3)))), (3, iV x3)]) F [1, 0, 2] dX12_digest_228 rfl (q_n hN (by decide)) rfl ?_
      obtain ⟨k4, hw⟩ := hw
      obtain ⟨z2, e3⟩ := ex1 (x3 + 1)
      have hw := hw z2 e3
      have hz2 : inR z2 := by rw [e3]; exact k4
      refine q_iinc (lv' := [(0, .ref (E.1 1000)), (1, jV (((x1 * 31) + (J 1009 x3)))), (3, iV z2)]) F 2 [1, 2, 0] dX12_digest_229 rfl (q_n hN (by decide)) e3.symm rfl ?_
      refine q_goto F 207 dX12_digest_232 (by decide) ?_
      exact ih (((x1 * 31) + (J 1009 x3))) z2 J hz2 hm hw
set_option maxHeartbeats 4000000 in
set_option maxRecDepth 100000 in
theorem bX12_digest_181 {X : xC} {E : cE} (F : mF X E RX12 cX12_digest bG) (hR : X.1.2.2.2 = rmK 6 (12) (132)) (hN : X.2.2.1.2.2.2 = 5) {Q : Int → cI → Prop} (hret : rJM X E cX12_digest (12) (132) Q)   : ∀ n181 : Nat, ∀ (x1 : Int) (x3 : Int) (J : cI), inR x3 → mM J → wX12_digest_181 Q n181 x1 x3 J → cW X (12) (132) 181 [(0, .ref (E.1 1000)), (1, jV x1), (3, iV x3)] [] (gw E.1 mIds (mef E J) ++ []) := by
  intro n181
  induction n181 with
  | zero => intro x1 x3 J hx3 hm hw; exact hw.elim
  | succ n181 ih =>
    intro x1 x3 J hx3 hm hw
    change wbX12_digest_181 Q (wX12_digest_181 Q n181) x1 x3 J at hw
    unfold wbX12_digest_181 at hw
    refine q_iload_n F 2 dX12_digest_181 rfl rfl ?_
    refine q_iconst F dX12_digest_182 ?_
    refine q_icmp_ge F hx3 (⟨by decide, by decide⟩ : inR (4)) 205 dX12_digest_183 (by decide) (fun hc => ?_) (fun hc => ?_)
    · have hw := hw.1 hc
      refine q_iconst F dX12_digest_205 ?_
      refine q_istore_n (lv' := [(0, .ref (E.1 1000)), (1, jV x1), (3, iV 0)]) F [1, 2, 0] dX12_digest_206 rfl (q_n hN (by decide)) rfl ?_
      obtain ⟨n1, hw⟩ := hw
      exact bX12_digest_207 F hR hN hret n1 x1 0 J (⟨by decide, by decide⟩ : inR (0)) hm hw
    · have hw := hw.2 hc
      refine q_lload_n F 1 dX12_digest_186 rfl rfl ?_
      refine q_ldc2 F (n := 31) wd1192 dX12_digest_187 ?_
      refine q_lmul F dX12_digest_190 ?_
      refine q_aload_n F 0 dX12_digest_191 rfl rfl ?_
      refine q_iload_n F 2 dX12_digest_192 rfl rfl ?_
      refine q_ViM F (kcX12_reasonTold hm hx3 hw) (by decide) meObj (ci := 10) rfl (bV wd1161 wd1162 wd1332 wd13 wd1163) rfl ⟨rfl, rfl⟩ ydX12_reasonTold (rmK_le hR (by omega) (by decide)) (av := [iV x3]) rfl rfl (Nat.le_of_ble_eq_true rfl) dX12_digest_193 (rmK_cs hR (by omega) (by omega)) (fun r2 J3 h4 m5 hw => ?_)
      refine q_i2l F h4 dX12_digest_196 ?_
      refine q_ladd F dX12_digest_197 ?_
      refine q_lstore_n (lv' := [(0, .ref (E.1 1000)), (1, jV (((x1 * 31) + r2))), (3, iV x3)]) F [1, 0, 2] dX12_digest_198 rfl (q_n hN (by decide)) rfl ?_
      obtain ⟨k8, hw⟩ := hw
      obtain ⟨z6, e7⟩ := ex1 (x3 + 1)
      have hw := hw z6 e7
      have hz6 : inR z6 := by rw [e7]; exact k8
      refine q_iinc (lv' := [(0, .ref (E.1 1000)), (1, jV (((x1 * 31) + r2))), (3, iV z6)]) F 2 [1, 2, 0] dX12_digest_199 rfl (q_n hN (by decide)) e7.symm rfl ?_
      refine q_goto F 181 dX12_digest_202 (by decide) ?_
      exact ih (((x1 * 31) + r2)) z6 J3 hz6 m5 hw
set_option maxHeartbeats 4000000 in
set_option maxRecDepth 100000 in
theorem bX12_digest_138 {X : xC} {E : cE} (F : mF X E RX12 cX12_digest bG) (hR : X.1.2.2.2 = rmK 6 (12) (132)) (hN : X.2.2.1.2.2.2 = 5) {Q : Int → cI → Prop} (hret : rJM X E cX12_digest (12) (132) Q)   {K127 : Int → Int → cI → Prop} (hK127 : ∀ (x1 : Int) (x3 : Int) (J : cI), inR x3 → mM J → K127 x1 x3 J → cW X (12) (132) 127 [(0, .ref (E.1 1000)), (1, jV x1), (3, iV x3)] [] (gw E.1 mIds (mef E J) ++ [])) : ∀ n138 : Nat, ∀ (x1 : Int) (x3 : Int) (x4 : Int) (J : cI), inR x3 → inR x4 → mM J → wX12_digest_138 Q K127 n138 x1 x3 x4 J → cW X (12) (132) 138 [(0, .ref (E.1 1000)), (1, jV x1), (3, iV x3), (4, iV x4)] [] (gw E.1 mIds (mef E J) ++ []) := by
  intro n138
  induction n138 with
  | zero => intro x1 x3 x4 J hx3 hx4 hm hw; exact hw.elim
  | succ n138 ih =>
    intro x1 x3 x4 J hx3 hx4 hm hw
    change wbX12_digest_138 Q K127 (wX12_digest_138 Q K127 n138) x1 x3 x4 J at hw
    unfold wbX12_digest_138 at hw
    refine q_iload F 3 dX12_digest_138 rfl ?_
    refine q_aload_n F 0 dX12_digest_140 rfl rfl ?_
    refine q_ViM F (kcX12_cells hm hw) (by decide) meObj (ci := 10) rfl (bV wd1003 wd1004 wd1305 wd13 wd1005) rfl ⟨rfl, rfl⟩ ydX12_cells (rmK_le hR (by omega) (by decide)) (av := []) rfl rfl (Nat.le_of_ble_eq_true rfl) dX12_digest_141 (rmK_cs hR (by omega) (by omega)) (fun r1 J2 h3 m4 hw => ?_)
    refine q_icmp_ge F hx4 h3 173 dX12_digest_144 (by decide) (fun hc => ?_) (fun hc => ?_)
    · have hw := hw.1 hc
      obtain ⟨k7, hw⟩ := hw
      obtain ⟨z5, e6⟩ := ex1 (x3 + 1)
      have hw := hw z5 e6
      have hz5 : inR z5 := by rw [e6]; exact k7
      refine q_iinc (lv' := [(0, .ref (E.1 1000)), (1, jV x1), (3, iV z5), (4, iV x4)]) F 2 [1, 2, 0, 3] dX12_digest_173 rfl (q_n hN (by decide)) e6.symm rfl ?_
      refine q_goto F 127 dX12_digest_176 (by decide) ?_
      refine q_lv [0, 1, 2] rfl ?_
      exact hK127 x1 z5 J2 hz5 m4 hw
    · have hw := hw.2 hc
      refine q_lload_n F 1 dX12_digest_147 rfl rfl ?_
      refine q_ldc2 F (n := 31) wd1192 dX12_digest_148 ?_
      refine q_lmul F dX12_digest_151 ?_
      refine q_aload_n F 0 dX12_digest_152 rfl rfl ?_
      refine s_g_keptValues F ib12 wd902 dX12_digest_153 ?_
      refine q_bipush F dX12_digest_156 (by decide) ?_
      refine q_iload_n F 2 dX12_digest_158 rfl rfl ?_
      refine q_imul F dX12_digest_159 ?_
      refine q_iload F 3 dX12_digest_160 rfl ?_
      refine q_iadd F dX12_digest_162 ?_
      obtain ⟨k8, hw⟩ := hw
      refine s_ald F 750 kM_keptValues k8 (by decide) dX12_digest_163 ?_
      refine q_i2l F (m4 _ _) dX12_digest_164 ?_
      refine q_ladd F dX12_digest_165 ?_
      refine q_lstore_n (lv' := [(0, .ref (E.1 1000)), (1, jV (((x1 * 31) + (J2 1029 (((25 * x3) + x4)))))), (3, iV x3), (4, iV x4)]) F [1, 0, 2, 3] dX12_digest_166 rfl (q_n hN (by decide)) rfl ?_
      obtain ⟨k11, hw⟩ := hw
      obtain ⟨z9, e10⟩ := ex1 (x4 + 1)
      have hw := hw z9 e10
      have hz9 : inR z9 := by rw [e10]; exact k11
      refine q_iinc (lv' := [(0, .ref (E.1 1000)), (1, jV (((x1 * 31) + (J2 1029 (((25 * x3) + x4)))))), (3, iV x3), (4, iV z9)]) F 3 [1, 2, 3, 0] dX12_digest_167 rfl (q_n hN (by decide)) e10.symm rfl ?_
      refine q_goto F 138 dX12_digest_170 (by decide) ?_
      exact ih (((x1 * 31) + (J2 1029 (((25 * x3) + x4))))) x3 z9 J2 hx3 hz9 m4 hw
set_option maxHeartbeats 4000000 in
set_option maxRecDepth 100000 in
theorem bX12_digest_127 {X : xC} {E : cE} (F : mF X E RX12 cX12_digest bG) (hR : X.1.2.2.2 = rmK 6 (12) (132)) (hN : X.2.2.1.2.2.2 = 5) {Q : Int → cI → Prop} (hret : rJM X E cX12_digest (12) (132) Q)   : ∀ n127 : Nat, ∀ (x1 : Int) (x3 : Int) (J : cI), inR x3 → mM J → wX12_digest_127 Q n127 x1 x3 J → cW X (12) (132) 127 [(0, .ref (E.1 1000)), (1, jV x1), (3, iV x3)] [] (gw E.1 mIds (mef E J) ++ []) := by
  intro n127
  induction n127 with
  | zero => intro x1 x3 J hx3 hm hw; exact hw.elim
  | succ n127 ih =>
    intro x1 x3 J hx3 hm hw
    change wbX12_digest_127 Q (wX12_digest_127 Q n127) x1 x3 J at hw
    unfold wbX12_digest_127 at hw
    refine q_iload_n F 2 dX12_digest_127 rfl rfl ?_
    refine q_aload_n F 0 dX12_digest_128 rfl rfl ?_
    refine s_g_kept F ib12 wd901 dX12_digest_129 ?_
    refine q_icmp_ge F hx3 (hm _ _) 179 dX12_digest_132 (by decide) (fun hc => ?_) (fun hc => ?_)
    · have hw := hw.1 hc
      refine q_iconst F dX12_digest_179 ?_
      refine q_istore_n (lv' := [(0, .ref (E.1 1000)), (1, jV x1), (3, iV 0)]) F [1, 2, 0] dX12_digest_180 rfl (q_n hN (by decide)) rfl ?_
      obtain ⟨n1, hw⟩ := hw
      exact bX12_digest_181 F hR hN hret n1 x1 0 J (⟨by decide, by decide⟩ : inR (0)) hm hw
    · have hw := hw.2 hc
      refine q_iconst F dX12_digest_135 ?_
      refine q_istore (lv' := [(0, .ref (E.1 1000)), (1, jV x1), (3, iV x3), (4, iV 0)]) F [1, 2, 3, 0] dX12_digest_136 (q_n hN (by decide)) rfl ?_
      obtain ⟨n2, hw⟩ := hw
      exact bX12_digest_138 F hR hN hret ih n2 x1 x3 0 J hx3 (⟨by decide, by decide⟩ : inR (0)) hm hw
set_option maxHeartbeats 4000000 in
set_option maxRecDepth 100000 in
theorem bX12_digest_85 {X : xC} {E : cE} (F : mF X E RX12 cX12_digest bG) (hR : X.1.2.2.2 = rmK 6 (12) (132)) (hN : X.2.2.1.2.2.2 = 5) {Q : Int → cI → Prop} (hret : rJM X E cX12_digest (12) (132) Q)   : ∀ n85 : Nat, ∀ (x1 : Int) (x3 : Int) (J : cI), inR x3 → mM J → wX12_digest_85 Q n85 x1 x3 J → cW X (12) (132) 85 [(0, .ref (E.1 1000)), (1, jV x1), (3, iV x3)] [] (gw E.1 mIds (mef E J) ++ []) := by
  intro n85
  induction n85 with
  | zero => intro x1 x3 J hx3 hm hw; exact hw.elim
  | succ n85 ih =>
    intro x1 x3 J hx3 hm hw
    change wbX12_digest_85 Q (wX12_digest_85 Q n85) x1 x3 J at hw
    unfold wbX12_digest_85 at hw
    refine q_iload_n F 2 dX12_digest_85 rfl rfl ?_
    refine q_aload_n F 0 dX12_digest_86 rfl rfl ?_
    refine q_ViM F (kcX12_cells hm hw) (by decide) meObj (ci := 10) rfl (bV wd1003 wd1004 wd1305 wd13 wd1005) rfl ⟨rfl, rfl⟩ ydX12_cells (rmK_le hR (by omega) (by decide)) (av := []) rfl rfl (Nat.le_of_ble_eq_true rfl) dX12_digest_87 (rmK_cs hR (by omega) (by omega)) (fun r1 J2 h3 m4 hw => ?_)
    refine q_icmp_ge F hx3 h3 125 dX12_digest_90 (by decide) (fun hc => ?_) (fun hc => ?_)
    · have hw := hw.1 hc
      refine q_iconst F dX12_digest_125 ?_
      refine q_istore_n (lv' := [(0, .ref (E.1 1000)), (1, jV x1), (3, iV 0)]) F [1, 2, 0] dX12_digest_126 rfl (q_n hN (by decide)) rfl ?_
      obtain ⟨n5, hw⟩ := hw
      exact bX12_digest_127 F hR hN hret n5 x1 0 J2 (⟨by decide, by decide⟩ : inR (0)) m4 hw
    · have hw := hw.2 hc
      refine q_lload_n F 1 dX12_digest_93 rfl rfl ?_
      refine q_ldc2 F (n := 31) wd1192 dX12_digest_94 ?_
      refine q_lmul F dX12_digest_97 ?_
      refine q_aload_n F 0 dX12_digest_98 rfl rfl ?_
      refine s_g_grid F ib12 wd893 dX12_digest_99 ?_
      refine q_iload_n F 2 dX12_digest_102 rfl rfl ?_
      obtain ⟨k6, hw⟩ := hw
      refine s_ald F 25 kM_grid k6 (by decide) dX12_digest_103 ?_
      refine q_i2l F (m4 _ _) dX12_digest_104 ?_
      refine q_ladd F dX12_digest_105 ?_
      refine q_ldc2 F (n := 31) wd1192 dX12_digest_106 ?_
      refine q_lmul F dX12_digest_109 ?_
      refine q_aload_n F 0 dX12_digest_110 rfl rfl ?_
      refine s_g_sets F ib12 wd903 dX12_digest_111 ?_
      refine q_iload_n F 2 dX12_digest_114 rfl rfl ?_
      obtain ⟨k7, hw⟩ := hw
      refine s_ald F 25 kM_sets k7 (by decide) dX12_digest_115 ?_
      refine q_i2l F (m4 _ _) dX12_digest_116 ?_
      refine q_ladd F dX12_digest_117 ?_
      refine q_lstore_n (lv' := [(0, .ref (E.1 1000)), (1, jV (((((x1 * 31) + (J2 1020 x3)) * 31) + (J2 1030 x3)))), (3, iV x3)]) F [1, 0, 2] dX12_digest_118 rfl (q_n hN (by decide)) rfl ?_
      obtain ⟨k10, hw⟩ := hw
      obtain ⟨z8, e9⟩ := ex1 (x3 + 1)
      have hw := hw z8 e9
      have hz8 : inR z8 := by rw [e9]; exact k10
      refine q_iinc (lv' := [(0, .ref (E.1 1000)), (1, jV (((((x1 * 31) + (J2 1020 x3)) * 31) + (J2 1030 x3)))), (3, iV z8)]) F 2 [1, 2, 0] dX12_digest_119 rfl (q_n hN (by decide)) e9.symm rfl ?_
      refine q_goto F 85 dX12_digest_122 (by decide) ?_
      exact ih (((((x1 * 31) + (J2 1020 x3)) * 31) + (J2 1030 x3))) z8 J2 hz8 m4 hw
set_option maxHeartbeats 4000000 in
set_option maxRecDepth 100000 in
theorem bX12_digest_49 {X : xC} {E : cE} (F : mF X E RX12 cX12_digest bG) (hR : X.1.2.2.2 = rmK 6 (12) (132)) (hN : X.2.2.1.2.2.2 = 5) {Q : Int → cI → Prop} (hret : rJM X E cX12_digest (12) (132) Q)   {K38 : Int → Int → cI → Prop} (hK38 : ∀ (x1 : Int) (x3 : Int) (J : cI), inR x3 → mM J → K38 x1 x3 J → cW X (12) (132) 38 [(0, .ref (E.1 1000)), (1, jV x1), (3, iV x3)] [] (gw E.1 mIds (mef E J) ++ [])) : ∀ n49 : Nat, ∀ (x1 : Int) (x3 : Int) (x4 : Int) (J : cI), inR x3 → inR x4 → mM J → wX12_digest_49 Q K38 n49 x1 x3 x4 J → cW X (12) (132) 49 [(0, .ref (E.1 1000)), (1, jV x1), (3, iV x3), (4, iV x4)] [] (gw E.1 mIds (mef E J) ++ []) := by
  intro n49
  induction n49 with
  | zero => intro x1 x3 x4 J hx3 hx4 hm hw; exact hw.elim
  | succ n49 ih =>
    intro x1 x3 x4 J hx3 hx4 hm hw
    change wbX12_digest_49 Q K38 (wX12_digest_49 Q K38 n49) x1 x3 x4 J at hw
    unfold wbX12_digest_49 at hw
    refine q_iload F 3 dX12_digest_49 rfl ?_
    refine q_bipush F dX12_digest_51 (by decide) ?_
    refine q_icmp_ge F hx4 (⟨by decide, by decide⟩ : inR (10)) 77 dX12_digest_53 (by decide) (fun hc => ?_) (fun hc => ?_)
    · have hw := hw.1 hc
      obtain ⟨k3, hw⟩ := hw
      obtain ⟨z1, e2⟩ := ex1 (x3 + 1)
      have hw := hw z1 e2
      have hz1 : inR z1 := by rw [e2]; exact k3
      refine q_iinc (lv' := [(0, .ref (E.1 1000)), (1, jV x1), (3, iV z1), (4, iV x4)]) F 2 [1, 2, 0, 3] dX12_digest_77 rfl (q_n hN (by decide)) e2.symm rfl ?_
      refine q_goto F 38 dX12_digest_80 (by decide) ?_
      refine q_lv [0, 1, 2] rfl ?_
      exact hK38 x1 z1 J hz1 hm hw
    · have hw := hw.2 hc
      refine q_lload_n F 1 dX12_digest_56 rfl rfl ?_
      refine q_ldc2 F (n := 31) wd1192 dX12_digest_57 ?_
      refine q_lmul F dX12_digest_60 ?_
      refine q_aload_n F 0 dX12_digest_61 rfl rfl ?_
      refine q_iload_n F 2 dX12_digest_62 rfl rfl ?_
      refine q_iload F 3 dX12_digest_63 rfl ?_
      refine q_ViM F (kcX12_ruleTold hm hx3 hx4 hw) (by decide) meObj (ci := 10) rfl (bV wd1050 wd1051 wd1315 wd13 wd1052) rfl ⟨rfl, rfl⟩ ydX12_ruleTold (rmK_le hR (by omega) (by decide)) (av := [iV x3, iV x4]) rfl rfl (Nat.le_of_ble_eq_true rfl) dX12_digest_65 (rmK_cs hR (by omega) (by omega)) (fun r4 J5 h6 m7 hw => ?_)
      refine q_i2l F h6 dX12_digest_68 ?_
      refine q_ladd F dX12_digest_69 ?_
      refine q_lstore_n (lv' := [(0, .ref (E.1 1000)), (1, jV (((x1 * 31) + r4))), (3, iV x3), (4, iV x4)]) F [1, 0, 2, 3] dX12_digest_70 rfl (q_n hN (by decide)) rfl ?_
      obtain ⟨k10, hw⟩ := hw
      obtain ⟨z8, e9⟩ := ex1 (x4 + 1)
      have hw := hw z8 e9
      have hz8 : inR z8 := by rw [e9]; exact k10
      refine q_iinc (lv' := [(0, .ref (E.1 1000)), (1, jV (((x1 * 31) + r4))), (3, iV x3), (4, iV z8)]) F 3 [1, 2, 3, 0] dX12_digest_71 rfl (q_n hN (by decide)) e9.symm rfl ?_
      refine q_goto F 49 dX12_digest_74 (by decide) ?_
      exact ih (((x1 * 31) + r4)) x3 z8 J5 hx3 hz8 m7 hw
set_option maxHeartbeats 4000000 in
set_option maxRecDepth 100000 in
theorem bX12_digest_38 {X : xC} {E : cE} (F : mF X E RX12 cX12_digest bG) (hR : X.1.2.2.2 = rmK 6 (12) (132)) (hN : X.2.2.1.2.2.2 = 5) {Q : Int → cI → Prop} (hret : rJM X E cX12_digest (12) (132) Q)   : ∀ n38 : Nat, ∀ (x1 : Int) (x3 : Int) (J : cI), inR x3 → mM J → wX12_digest_38 Q n38 x1 x3 J → cW X (12) (132) 38 [(0, .ref (E.1 1000)), (1, jV x1), (3, iV x3)] [] (gw E.1 mIds (mef E J) ++ []) := by
  intro n38
  induction n38 with
  | zero => intro x1 x3 J hx3 hm hw; exact hw.elim
  | succ n38 ih =>
    intro x1 x3 J hx3 hm hw
    change wbX12_digest_38 Q (wX12_digest_38 Q n38) x1 x3 J at hw
    unfold wbX12_digest_38 at hw
    refine q_iload_n F 2 dX12_digest_38 rfl rfl ?_
    refine q_aload_n F 0 dX12_digest_39 rfl rfl ?_
    refine s_g_rules F ib12 wd887 dX12_digest_40 ?_
    refine q_icmp_ge F hx3 (hm _ _) 83 dX12_digest_43 (by decide) (fun hc => ?_) (fun hc => ?_)
    · have hw := hw.1 hc
      refine q_iconst F dX12_digest_83 ?_
      refine q_istore_n (lv' := [(0, .ref (E.1 1000)), (1, jV x1), (3, iV 0)]) F [1, 2, 0] dX12_digest_84 rfl (q_n hN (by decide)) rfl ?_
      obtain ⟨n1, hw⟩ := hw
      exact bX12_digest_85 F hR hN hret n1 x1 0 J (⟨by decide, by decide⟩ : inR (0)) hm hw
    · have hw := hw.2 hc
      refine q_iconst F dX12_digest_46 ?_
      refine q_istore (lv' := [(0, .ref (E.1 1000)), (1, jV x1), (3, iV x3), (4, iV 0)]) F [1, 2, 3, 0] dX12_digest_47 (q_n hN (by decide)) rfl ?_
      obtain ⟨n2, hw⟩ := hw
      exact bX12_digest_49 F hR hN hret ih n2 x1 x3 0 J hx3 (⟨by decide, by decide⟩ : inR (0)) hm hw
set_option maxHeartbeats 4000000 in
set_option maxRecDepth 100000 in
theorem bX12_digest_11 {X : xC} {E : cE} (F : mF X E RX12 cX12_digest bG) (hR : X.1.2.2.2 = rmK 6 (12) (132)) (hN : X.2.2.1.2.2.2 = 5) {Q : Int → cI → Prop} (hret : rJM X E cX12_digest (12) (132) Q)   : ∀ n11 : Nat, n11 ≤ 12 → ∀ (x1 : Int) (x3 : Int) (J : cI), inR x3 → mM J → wX12_digest_11 Q n11 x1 x3 J → cW X (0 + (12 - n11) * 1) (0 + (12 - n11) * 11) 11 [(0, .ref (E.1 1000)), (1, jV x1), (3, iV x3)] [] (gw E.1 mIds (mef E J) ++ []) := by
  intro n11
  induction n11 with
  | zero => intro hn11 x1 x3 J hx3 hm hw; exact hw.elim
  | succ n11 ih =>
    intro hn11 x1 x3 J hx3 hm hw
    change wbX12_digest_11 Q (wX12_digest_11 Q n11) x1 x3 J at hw
    unfold wbX12_digest_11 at hw
    refine q_iload_n F 2 dX12_digest_11 rfl rfl ?_
    refine q_bipush F dX12_digest_12 (by decide) ?_
    refine q_icmp_ge F hx3 (⟨by decide, by decide⟩ : inR (11)) 36 dX12_digest_14 (by decide) (fun hc => ?_) (fun hc => ?_)
    · have hw := hw.1 hc
      refine q_iconst F dX12_digest_36 ?_
      refine q_istore_n (lv' := [(0, .ref (E.1 1000)), (1, jV x1), (3, iV 0)]) F [1, 2, 0] dX12_digest_37 rfl (q_n hN (by decide)) rfl ?_
      obtain ⟨n1, hw⟩ := hw
      refine q_wide (nc' := ?w8a) (ns' := ?w8b) ?w8c ?w8d ?w8e
      case w8e => exact bX12_digest_38 F hR hN hret n1 x1 0 J (⟨by decide, by decide⟩ : inR (0)) hm hw
      all_goals omega
    · have hw := hw.2 hc
      refine q_lload_n F 1 dX12_digest_17 rfl rfl ?_
      refine q_ldc2 F (n := 31) wd1192 dX12_digest_18 ?_
      refine q_lmul F dX12_digest_21 ?_
      refine q_aload_n F 0 dX12_digest_22 rfl rfl ?_
      refine q_iload_n F 2 dX12_digest_23 rfl rfl ?_
      refine q_ViM F (kcX12_counted hm hx3 hw) (by decide) meObj (ci := 10) rfl (bV wd1015 wd1016 wd1306 wd13 wd1017) rfl ⟨rfl, rfl⟩ ydX12_counted (rmK_le hR (by omega) (by decide)) (av := [iV x3]) rfl rfl (Nat.le_of_ble_eq_true rfl) dX12_digest_24 (rmK_cs hR (by omega) (by omega)) (fun r2 J3 h4 m5 hw => ?_)
      refine q_i2l F h4 dX12_digest_27 ?_
      refine q_ladd F dX12_digest_28 ?_
      refine q_lstore_n (lv' := [(0, .ref (E.1 1000)), (1, jV (((x1 * 31) + r2))), (3, iV x3)]) F [1, 0, 2] dX12_digest_29 rfl (q_n hN (by decide)) rfl ?_
      obtain ⟨k8, hw⟩ := hw
      obtain ⟨z6, e7⟩ := ex1 (x3 + 1)
      have hw := hw z6 e7
      have hz6 : inR z6 := by rw [e7]; exact k8
      refine q_iinc (lv' := [(0, .ref (E.1 1000)), (1, jV (((x1 * 31) + r2))), (3, iV z6)]) F 2 [1, 2, 0] dX12_digest_30 rfl (q_n hN (by decide)) e7.symm rfl ?_
      refine q_goto F 11 dX12_digest_33 (by decide) ?_
      refine q_wide (nc' := ?w9a) (ns' := ?w9b) ?w9c ?w9d ?w9e
      case w9e => exact ih (by omega) (((x1 * 31) + r2)) z6 J3 hz6 m5 hw
      all_goals omega
set_option maxHeartbeats 4000000 in
set_option maxRecDepth 100000 in
theorem kcX12_digest {l : Launch} {D : va_G} {E : cE} {J : cI} (hm : mM J)  {Q : Int → cI → Prop} (hw : wX12_digest  J Q) : gM l D E mIds yX12_digest vX12_digest (rmK 6 (12) (132)) [.ref (E.1 1000)] (mef E J) (mef E) (oJ Q) (12) (132) := by
  unfold wX12_digest at hw
  refine k_ofW (own := RX12) (cc := cX12_digest) (maxL := 5) (ret := (some .long)) (lv := [(0, .ref (E.1 1000))]) (by decide) rfl rfl (Nat.le_of_ble_eq_true rfl) rfl ?_
  intro X hl hR hN hD F K
  subst hl; subst hD
  have hret := mk_rJM (Q := Q) F K
  refine q_aload_n F 0 dX12_digest_0 rfl rfl ?_
  refine q_iconst F dX12_digest_1 ?_
  obtain ⟨J1, e2⟩ := ex1 (up2 J 1000 0 0)
  have hw := hw J1 e2
  have m3 : mM J1 := mM_I hm e2 (⟨by decide, by decide⟩ : inR (0))
  refine s_p_thrown F ib12 wd873 e2 dX12_digest_2 ?_
  refine q_ldc2 F (n := 457) wd1191 dX12_digest_5 ?_
  refine q_lstore_n (lv' := [(0, .ref (E.1 1000)), (1, jV 457)]) F [1, 0] dX12_digest_8 rfl (q_n hN (by decide)) rfl ?_
  refine q_iconst F dX12_digest_9 ?_
  refine q_istore_n (lv' := [(0, .ref (E.1 1000)), (1, jV 457), (3, iV 0)]) F [1, 2, 0] dX12_digest_10 rfl (q_n hN (by decide)) rfl ?_
  obtain ⟨n4, hB, hw⟩ := hw
  refine q_wide (nc' := ?w10a) (ns' := ?w10b) ?w10c ?w10d ?w10e
  case w10e => exact bX12_digest_11 F hR hN hret n4 hB 457 0 J1 (⟨by decide, by decide⟩ : inR (0)) m3 hw
  all_goals omega
