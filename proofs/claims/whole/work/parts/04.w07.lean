/-! ===== walks: X11_digest ===== -/
theorem ydX11_digest : yX11_digest.cls = RX11 ∧ yX11_digest.cls ≠ "java/lang/invoke/MethodHandle" ∧ yX11_digest.cls ≠ "java/lang/invoke/VarHandle" ∧ (parseMethodDescriptor yX11_digest.desc).map (fun d => d.parameters.length) = some 0 := by decide +kernel
def vX11_digest : List Cond := Cond.code yX11_digest cX11_digest 5 (some .long) :: bG
set_option maxHeartbeats 4000000 in
set_option maxRecDepth 100000 in
theorem bX11_digest_222 {X : xC} {E : cE} (F : mF X E RX11 cX11_digest bG) (hR : X.1.2.2.2 = rmK 9 (0) (0)) (hN : X.2.2.1.2.2.2 = 5) {Q : Int → cI → cR → Prop} (hret : rJ X E cX11_digest (0) (0) Q) (hfl : X.1.2.1.stackTraces = false)   : ∀ n222 : Nat, ∀ (x1 : Int) (x3 : Int) (I : cI) (R : cR), inR x3 → cM I R → wX11_digest_222 Q n222 x1 x3 I R → cW X (0) (0) 222 [(0, .ref (E.1 0)), (1, jV x1), (3, iV x3)] [] (gw E.1 cIds (cef E (I, R)) ++ []) := by
  intro n222
  induction n222 with
  | zero => intro x1 x3 I R hx3 hm hw; exact hw.elim
  | succ n222 ih =>
    intro x1 x3 I R hx3 hm hw
    change wbX11_digest_222 Q (wX11_digest_222 Q n222) x1 x3 I R at hw
    unfold wbX11_digest_222 at hw
    refine q_iload_n F 2 dX11_digest_222 rfl rfl ?_
    refine q_aload_n F 0 dX11_digest_223 rfl rfl ?_
    refine t_g_Mill_paper F (by decide) ib11 wd198 dX11_digest_224 ?_
    refine t_g_Paper_length F (by decide) ib3 wd78 dX11_digest_227 ?_
    refine q_icmp_ge F hx3 (hm.1 _ _) 256 dX11_digest_230 (by decide) (fun hc => ?_) (fun hc => ?_)
    · have hw := hw.1 hc
      refine q_lload_n F 1 dX11_digest_256 rfl rfl ?_
      exact hret _ _ _ _ _ _ dX11_digest_257 hm hw
    · have hw := hw.2 hc
      refine q_lload_n F 1 dX11_digest_233 rfl rfl ?_
      refine q_ldc2 F (n := 31) wd523 dX11_digest_234 ?_
      refine q_lmul F dX11_digest_237 ?_
      refine q_aload_n F 0 dX11_digest_238 rfl rfl ?_
      refine t_g_Mill_paper F (by decide) ib11 wd198 dX11_digest_239 ?_
      refine t_g_Paper_bytes F (by decide) ib3 wd76 9 rfl dX11_digest_242 ?_
      refine q_iload_n F 2 dX11_digest_245 rfl rfl ?_
      obtain ⟨k1, hw⟩ := hw
      refine t_ald F 1980 kA_9 k1 (by decide) dX11_digest_246 ?_
      refine q_i2l F (hm.1 _ _) dX11_digest_247 ?_
      refine q_ladd F dX11_digest_248 ?_
      refine q_lstore_n (lv' := [(0, .ref (E.1 0)), (1, jV (((x1 * 31) + (I 9 x3)))), (3, iV x3)]) F [1, 0, 2] dX11_digest_249 rfl (q_n hN (by decide)) rfl ?_
      obtain ⟨k4, hw⟩ := hw
      obtain ⟨z2, e3⟩ := ex1 (x3 + 1)
      have hw := hw z2 e3
      have hz2 : inR z2 := by rw [e3]; exact k4
      refine q_iinc (lv' := [(0, .ref (E.1 0)), (1, jV (((x1 * 31) + (I 9 x3)))), (3, iV z2)]) F 2 [1, 2, 0] dX11_digest_250 rfl (q_n hN (by decide)) e3.symm rfl ?_
      refine q_goto F 222 dX11_digest_253 (by decide) ?_
      exact ih (((x1 * 31) + (I 9 x3))) z2 I R hz2 hm hw
set_option maxHeartbeats 4000000 in
set_option maxRecDepth 100000 in
theorem bX11_digest_196 {X : xC} {E : cE} (F : mF X E RX11 cX11_digest bG) (hR : X.1.2.2.2 = rmK 9 (0) (0)) (hN : X.2.2.1.2.2.2 = 5) {Q : Int → cI → cR → Prop} (hret : rJ X E cX11_digest (0) (0) Q) (hfl : X.1.2.1.stackTraces = false)   : ∀ n196 : Nat, ∀ (x1 : Int) (x3 : Int) (I : cI) (R : cR), inR x3 → cM I R → wX11_digest_196 Q n196 x1 x3 I R → cW X (0) (0) 196 [(0, .ref (E.1 0)), (1, jV x1), (3, iV x3)] [] (gw E.1 cIds (cef E (I, R)) ++ []) := by
  intro n196
  induction n196 with
  | zero => intro x1 x3 I R hx3 hm hw; exact hw.elim
  | succ n196 ih =>
    intro x1 x3 I R hx3 hm hw
    change wbX11_digest_196 Q (wX11_digest_196 Q n196) x1 x3 I R at hw
    unfold wbX11_digest_196 at hw
    refine q_iload_n F 2 dX11_digest_196 rfl rfl ?_
    refine q_iconst F dX11_digest_197 ?_
    refine q_icmp_gt F hx3 (⟨by decide, by decide⟩ : inR (3)) 220 dX11_digest_198 (by decide) (fun hc => ?_) (fun hc => ?_)
    · have hw := hw.1 hc
      refine q_iconst F dX11_digest_220 ?_
      refine q_istore_n (lv' := [(0, .ref (E.1 0)), (1, jV x1), (3, iV 0)]) F [1, 2, 0] dX11_digest_221 rfl (q_n hN (by decide)) rfl ?_
      obtain ⟨n1, hw⟩ := hw
      exact bX11_digest_222 F hR hN hret hfl n1 x1 0 I R (⟨by decide, by decide⟩ : inR (0)) hm hw
    · have hw := hw.2 hc
      refine q_lload_n F 1 dX11_digest_201 rfl rfl ?_
      refine q_ldc2 F (n := 31) wd523 dX11_digest_202 ?_
      refine q_lmul F dX11_digest_205 ?_
      refine q_aload_n F 0 dX11_digest_206 rfl rfl ?_
      refine q_iload_n F 2 dX11_digest_207 rfl rfl ?_
      refine q_Vin F (kcX11_reasoned hfl 0 (Or.inr (fun _ _ _ h => h)) hm hx3 hw) (cIds_in (show ckd 0 = 9 ∧ 0 < 353 by decide).2) (ceMill (show ckd 0 = 9 ∧ 0 < 353 by decide).1) (ci := 9) rfl (bV wd596 wd597 wd598 wd1 wd599) rfl ⟨rfl, rfl⟩ ydX11_reasoned (rmK_le hR (by omega) (by decide)) (av := [iV x3]) rfl rfl (Nat.le_of_ble_eq_true rfl) dX11_digest_208 (rmK_cs hR (by omega) (by omega)) (fun r2 I3 R4 h5 m6 hw => ?_)
      refine q_i2l F h5 dX11_digest_211 ?_
      refine q_ladd F dX11_digest_212 ?_
      refine q_lstore_n (lv' := [(0, .ref (E.1 0)), (1, jV (((x1 * 31) + r2))), (3, iV x3)]) F [1, 0, 2] dX11_digest_213 rfl (q_n hN (by decide)) rfl ?_
      obtain ⟨k9, hw⟩ := hw
      obtain ⟨z7, e8⟩ := ex1 (x3 + 1)
      have hw := hw z7 e8
      have hz7 : inR z7 := by rw [e8]; exact k9
      refine q_iinc (lv' := [(0, .ref (E.1 0)), (1, jV (((x1 * 31) + r2))), (3, iV z7)]) F 2 [1, 2, 0] dX11_digest_214 rfl (q_n hN (by decide)) e8.symm rfl ?_
      refine q_goto F 196 dX11_digest_217 (by decide) ?_
      exact ih (((x1 * 31) + r2)) z7 I3 R4 hz7 m6 hw
set_option maxHeartbeats 4000000 in
set_option maxRecDepth 100000 in
theorem bX11_digest_150 {X : xC} {E : cE} (F : mF X E RX11 cX11_digest bG) (hR : X.1.2.2.2 = rmK 9 (0) (0)) (hN : X.2.2.1.2.2.2 = 5) {Q : Int → cI → cR → Prop} (hret : rJ X E cX11_digest (0) (0) Q) (hfl : X.1.2.1.stackTraces = false)   {K136 : Int → Int → cI → cR → Prop} (hK136 : ∀ (x1 : Int) (x3 : Int) (I : cI) (R : cR), inR x3 → cM I R → K136 x1 x3 I R → cW X (0) (0) 136 [(0, .ref (E.1 0)), (1, jV x1), (3, iV x3)] [] (gw E.1 cIds (cef E (I, R)) ++ [])) : ∀ n150 : Nat, ∀ (x1 : Int) (x3 : Int) (x4 : Int) (I : cI) (R : cR), inR x3 → inR x4 → cM I R → wX11_digest_150 Q K136 n150 x1 x3 x4 I R → cW X (0) (0) 150 [(0, .ref (E.1 0)), (1, jV x1), (3, iV x3), (4, iV x4)] [] (gw E.1 cIds (cef E (I, R)) ++ []) := by
  intro n150
  induction n150 with
  | zero => intro x1 x3 x4 I R hx3 hx4 hm hw; exact hw.elim
  | succ n150 ih =>
    intro x1 x3 x4 I R hx3 hx4 hm hw
    change wbX11_digest_150 Q K136 (wX11_digest_150 Q K136 n150) x1 x3 x4 I R at hw
    unfold wbX11_digest_150 at hw
    refine q_iload F 3 dX11_digest_150 rfl ?_
    refine q_aload_n F 0 dX11_digest_152 rfl rfl ?_
    refine t_g_Mill_puzzle F (by decide) ib11 wd203 dX11_digest_153 ?_
    refine q_Vi F (kcX4_cellCount hm (hm.2.1) hw) (cIds_in (kP0 (hm.2.1)).2) (cePuzzle (kP0 (hm.2.1)).1) (ci := 2) rfl (bV wd517 wd406 wd407 wd9 wd408) rfl ⟨rfl, rfl⟩ ydX4_cellCount (rmK_le hR (by omega) (by decide)) (av := []) rfl rfl (Nat.le_of_ble_eq_true rfl) dX11_digest_156 (rmK_cs hR (by omega) (by omega)) (fun r1 I2 R3 h4 m5 hw => ?_)
    refine q_icmp_ge F hx4 h4 188 dX11_digest_159 (by decide) (fun hc => ?_) (fun hc => ?_)
    · have hw := hw.1 hc
      obtain ⟨k8, hw⟩ := hw
      obtain ⟨z6, e7⟩ := ex1 (x3 + 1)
      have hw := hw z6 e7
      have hz6 : inR z6 := by rw [e7]; exact k8
      refine q_iinc (lv' := [(0, .ref (E.1 0)), (1, jV x1), (3, iV z6), (4, iV x4)]) F 2 [1, 2, 0, 3] dX11_digest_188 rfl (q_n hN (by decide)) e7.symm rfl ?_
      refine q_goto F 136 dX11_digest_191 (by decide) ?_
      refine q_lv [0, 1, 2] rfl ?_
      exact hK136 x1 z6 I2 R3 hz6 m5 hw
    · have hw := hw.2 hc
      refine q_lload_n F 1 dX11_digest_162 rfl rfl ?_
      refine q_ldc2 F (n := 31) wd523 dX11_digest_163 ?_
      refine q_lmul F dX11_digest_166 ?_
      refine q_aload_n F 0 dX11_digest_167 rfl rfl ?_
      refine t_g_Mill_kept F (by decide) ib11 wd199 dX11_digest_168 ?_
      refine t_g_Search_solutions F (kS0 (Or.inl rfl)) ib8 wd89 11 rfl dX11_digest_171 ?_
      refine q_iload_n F 2 dX11_digest_174 rfl rfl ?_
      obtain ⟨k9, hw⟩ := hw
      refine t_qld F (kS1 (Or.inl rfl)) k9 (15 + Int.toNat (x3)) (by omega) dX11_digest_175 ?_
      refine q_iload F 3 dX11_digest_176 rfl ?_
      obtain ⟨k10, hw⟩ := hw
      refine t_ald F 25 (kS5 (Or.inl rfl) k9) k10 (by decide) dX11_digest_178 ?_
      refine q_i2l F (m5.1 _ _) dX11_digest_179 ?_
      refine q_ladd F dX11_digest_180 ?_
      refine q_lstore_n (lv' := [(0, .ref (E.1 0)), (1, jV (((x1 * 31) + (I2 ((15 + Int.toNat (x3))) x4)))), (3, iV x3), (4, iV x4)]) F [1, 0, 2, 3] dX11_digest_181 rfl (q_n hN (by decide)) rfl ?_
      obtain ⟨k13, hw⟩ := hw
      obtain ⟨z11, e12⟩ := ex1 (x4 + 1)
      have hw := hw z11 e12
      have hz11 : inR z11 := by rw [e12]; exact k13
      refine q_iinc (lv' := [(0, .ref (E.1 0)), (1, jV (((x1 * 31) + (I2 ((15 + Int.toNat (x3))) x4)))), (3, iV x3), (4, iV z11)]) F 3 [1, 2, 3, 0] dX11_digest_182 rfl (q_n hN (by decide)) e12.symm rfl ?_
      refine q_goto F 150 dX11_digest_185 (by decide) ?_
      exact ih (((x1 * 31) + (I2 ((15 + Int.toNat (x3))) x4))) x3 z11 I2 R3 hx3 hz11 m5 hw
set_option maxHeartbeats 4000000 in
set_option maxRecDepth 100000 in
theorem bX11_digest_136 {X : xC} {E : cE} (F : mF X E RX11 cX11_digest bG) (hR : X.1.2.2.2 = rmK 9 (0) (0)) (hN : X.2.2.1.2.2.2 = 5) {Q : Int → cI → cR → Prop} (hret : rJ X E cX11_digest (0) (0) Q) (hfl : X.1.2.1.stackTraces = false)   : ∀ n136 : Nat, ∀ (x1 : Int) (x3 : Int) (I : cI) (R : cR), inR x3 → cM I R → wX11_digest_136 Q n136 x1 x3 I R → cW X (0) (0) 136 [(0, .ref (E.1 0)), (1, jV x1), (3, iV x3)] [] (gw E.1 cIds (cef E (I, R)) ++ []) := by
  intro n136
  induction n136 with
  | zero => intro x1 x3 I R hx3 hm hw; exact hw.elim
  | succ n136 ih =>
    intro x1 x3 I R hx3 hm hw
    change wbX11_digest_136 Q (wX11_digest_136 Q n136) x1 x3 I R at hw
    unfold wbX11_digest_136 at hw
    refine q_iload_n F 2 dX11_digest_136 rfl rfl ?_
    refine q_aload_n F 0 dX11_digest_137 rfl rfl ?_
    refine t_g_Mill_kept F (by decide) ib11 wd199 dX11_digest_138 ?_
    refine t_g_Search_found F (kS0 (Or.inl rfl)) ib8 wd91 dX11_digest_141 ?_
    refine q_icmp_ge F hx3 (hm.1 _ _) 194 dX11_digest_144 (by decide) (fun hc => ?_) (fun hc => ?_)
    · have hw := hw.1 hc
      refine q_iconst F dX11_digest_194 ?_
      refine q_istore_n (lv' := [(0, .ref (E.1 0)), (1, jV x1), (3, iV 0)]) F [1, 2, 0] dX11_digest_195 rfl (q_n hN (by decide)) rfl ?_
      obtain ⟨n1, hw⟩ := hw
      exact bX11_digest_196 F hR hN hret hfl n1 x1 0 I R (⟨by decide, by decide⟩ : inR (0)) hm hw
    · have hw := hw.2 hc
      refine q_iconst F dX11_digest_147 ?_
      refine q_istore (lv' := [(0, .ref (E.1 0)), (1, jV x1), (3, iV x3), (4, iV 0)]) F [1, 2, 3, 0] dX11_digest_148 (q_n hN (by decide)) rfl ?_
      obtain ⟨n2, hw⟩ := hw
      exact bX11_digest_150 F hR hN hret hfl ih n2 x1 x3 0 I R hx3 (⟨by decide, by decide⟩ : inR (0)) hm hw
set_option maxHeartbeats 4000000 in
set_option maxRecDepth 100000 in
theorem bX11_digest_83 {X : xC} {E : cE} (F : mF X E RX11 cX11_digest bG) (hR : X.1.2.2.2 = rmK 9 (0) (0)) (hN : X.2.2.1.2.2.2 = 5) {Q : Int → cI → cR → Prop} (hret : rJ X E cX11_digest (0) (0) Q) (hfl : X.1.2.1.stackTraces = false)   : ∀ n83 : Nat, ∀ (x1 : Int) (x3 : Int) (I : cI) (R : cR), inR x3 → cM I R → wX11_digest_83 Q n83 x1 x3 I R → cW X (0) (0) 83 [(0, .ref (E.1 0)), (1, jV x1), (3, iV x3)] [] (gw E.1 cIds (cef E (I, R)) ++ []) := by
  intro n83
  induction n83 with
  | zero => intro x1 x3 I R hx3 hm hw; exact hw.elim
  | succ n83 ih =>
    intro x1 x3 I R hx3 hm hw
    change wbX11_digest_83 Q (wX11_digest_83 Q n83) x1 x3 I R at hw
    unfold wbX11_digest_83 at hw
    refine q_iload_n F 2 dX11_digest_83 rfl rfl ?_
    refine q_aload_n F 0 dX11_digest_84 rfl rfl ?_
    refine t_g_Mill_puzzle F (by decide) ib11 wd203 dX11_digest_85 ?_
    refine q_Vi F (kcX4_cellCount hm (hm.2.1) hw) (cIds_in (kP0 (hm.2.1)).2) (cePuzzle (kP0 (hm.2.1)).1) (ci := 2) rfl (bV wd517 wd406 wd407 wd9 wd408) rfl ⟨rfl, rfl⟩ ydX4_cellCount (rmK_le hR (by omega) (by decide)) (av := []) rfl rfl (Nat.le_of_ble_eq_true rfl) dX11_digest_88 (rmK_cs hR (by omega) (by omega)) (fun r1 I2 R3 h4 m5 hw => ?_)
    refine q_icmp_ge F hx3 h4 134 dX11_digest_91 (by decide) (fun hc => ?_) (fun hc => ?_)
    · have hw := hw.1 hc
      refine q_iconst F dX11_digest_134 ?_
      refine q_istore_n (lv' := [(0, .ref (E.1 0)), (1, jV x1), (3, iV 0)]) F [1, 2, 0] dX11_digest_135 rfl (q_n hN (by decide)) rfl ?_
      obtain ⟨n6, hw⟩ := hw
      exact bX11_digest_136 F hR hN hret hfl n6 x1 0 I2 R3 (⟨by decide, by decide⟩ : inR (0)) m5 hw
    · have hw := hw.2 hc
      refine q_lload_n F 1 dX11_digest_94 rfl rfl ?_
      refine q_ldc2 F (n := 31) wd523 dX11_digest_95 ?_
      refine q_lmul F dX11_digest_98 ?_
      refine q_aload_n F 0 dX11_digest_99 rfl rfl ?_
      refine t_g_Mill_puzzle F (by decide) ib11 wd203 dX11_digest_100 ?_
      refine t_g_Puzzle_grid F (kP0 (m5.2.1)) ib4 wd185 ((R3 0 7) + 1) rfl dX11_digest_103 ?_
      refine q_iload_n F 2 dX11_digest_106 rfl rfl ?_
      obtain ⟨k7, hw⟩ := hw
      refine t_ald F 25 (kP1 (m5.2.1)) k7 (by decide) dX11_digest_107 ?_
      refine q_i2l F (m5.1 _ _) dX11_digest_108 ?_
      refine q_ladd F dX11_digest_109 ?_
      refine q_lstore_n (lv' := [(0, .ref (E.1 0)), (1, jV (((x1 * 31) + (I2 ((R3 0 7) + 1) x3)))), (3, iV x3)]) F [1, 0, 2] dX11_digest_110 rfl (q_n hN (by decide)) rfl ?_
      refine q_lload_n F 1 dX11_digest_111 rfl rfl ?_
      refine q_ldc2 F (n := 31) wd523 dX11_digest_112 ?_
      refine q_lmul F dX11_digest_115 ?_
      refine q_aload_n F 0 dX11_digest_116 rfl rfl ?_
      refine t_g_Mill_reasoner F (by decide) ib11 wd201 dX11_digest_117 ?_
      refine t_g_Reasoner_sets F (by decide) ib6 wd107 81 rfl dX11_digest_120 ?_
      refine q_iload_n F 2 dX11_digest_123 rfl rfl ?_
      obtain ⟨k8, hw⟩ := hw
      refine t_ald F 25 kA_81 k8 (by decide) dX11_digest_124 ?_
      refine q_i2l F (m5.1 _ _) dX11_digest_125 ?_
      refine q_ladd F dX11_digest_126 ?_
      refine q_lstore_n (lv' := [(0, .ref (E.1 0)), (1, jV (((((x1 * 31) + (I2 ((R3 0 7) + 1) x3)) * 31) + (I2 81 x3)))), (3, iV x3)]) F [1, 0, 2] dX11_digest_127 rfl (q_n hN (by decide)) rfl ?_
      obtain ⟨k11, hw⟩ := hw
      obtain ⟨z9, e10⟩ := ex1 (x3 + 1)
      have hw := hw z9 e10
      have hz9 : inR z9 := by rw [e10]; exact k11
      refine q_iinc (lv' := [(0, .ref (E.1 0)), (1, jV (((((x1 * 31) + (I2 ((R3 0 7) + 1) x3)) * 31) + (I2 81 x3)))), (3, iV z9)]) F 2 [1, 2, 0] dX11_digest_128 rfl (q_n hN (by decide)) e10.symm rfl ?_
      refine q_goto F 83 dX11_digest_131 (by decide) ?_
      exact ih (((((x1 * 31) + (I2 ((R3 0 7) + 1) x3)) * 31) + (I2 81 x3))) z9 I2 R3 hz9 m5 hw
set_option maxHeartbeats 4000000 in
set_option maxRecDepth 100000 in
theorem bX11_digest_47 {X : xC} {E : cE} (F : mF X E RX11 cX11_digest bG) (hR : X.1.2.2.2 = rmK 9 (0) (0)) (hN : X.2.2.1.2.2.2 = 5) {Q : Int → cI → cR → Prop} (hret : rJ X E cX11_digest (0) (0) Q) (hfl : X.1.2.1.stackTraces = false)   {K33 : Int → Int → cI → cR → Prop} (hK33 : ∀ (x1 : Int) (x3 : Int) (I : cI) (R : cR), inR x3 → cM I R → K33 x1 x3 I R → cW X (0) (0) 33 [(0, .ref (E.1 0)), (1, jV x1), (3, iV x3)] [] (gw E.1 cIds (cef E (I, R)) ++ [])) : ∀ n47 : Nat, ∀ (x1 : Int) (x3 : Int) (x4 : Int) (I : cI) (R : cR), inR x3 → inR x4 → cM I R → wX11_digest_47 Q K33 n47 x1 x3 x4 I R → cW X (0) (0) 47 [(0, .ref (E.1 0)), (1, jV x1), (3, iV x3), (4, iV x4)] [] (gw E.1 cIds (cef E (I, R)) ++ []) := by
  intro n47
  induction n47 with
  | zero => intro x1 x3 x4 I R hx3 hx4 hm hw; exact hw.elim
  | succ n47 ih =>
    intro x1 x3 x4 I R hx3 hx4 hm hw
    change wbX11_digest_47 Q K33 (wX11_digest_47 Q K33 n47) x1 x3 x4 I R at hw
    unfold wbX11_digest_47 at hw
    refine q_iload F 3 dX11_digest_47 rfl ?_
    refine q_bipush F dX11_digest_49 (by decide) ?_
    refine q_icmp_gt F hx4 (⟨by decide, by decide⟩ : inR (9)) 75 dX11_digest_51 (by decide) (fun hc => ?_) (fun hc => ?_)
    · have hw := hw.1 hc
      obtain ⟨k3, hw⟩ := hw
      obtain ⟨z1, e2⟩ := ex1 (x3 + 1)
      have hw := hw z1 e2
      have hz1 : inR z1 := by rw [e2]; exact k3
      refine q_iinc (lv' := [(0, .ref (E.1 0)), (1, jV x1), (3, iV z1), (4, iV x4)]) F 2 [1, 2, 0, 3] dX11_digest_75 rfl (q_n hN (by decide)) e2.symm rfl ?_
      refine q_goto F 33 dX11_digest_78 (by decide) ?_
      refine q_lv [0, 1, 2] rfl ?_
      exact hK33 x1 z1 I R hz1 hm hw
    · have hw := hw.2 hc
      refine q_lload_n F 1 dX11_digest_54 rfl rfl ?_
      refine q_ldc2 F (n := 31) wd523 dX11_digest_55 ?_
      refine q_lmul F dX11_digest_58 ?_
      refine q_aload_n F 0 dX11_digest_59 rfl rfl ?_
      refine q_iload_n F 2 dX11_digest_60 rfl rfl ?_
      refine q_iload F 3 dX11_digest_61 rfl ?_
      refine q_Vin F (kcX11_rule hfl 0 (Or.inr (fun _ _ _ h => h)) hm hx3 hx4 hw) (cIds_in (show ckd 0 = 9 ∧ 0 < 353 by decide).2) (ceMill (show ckd 0 = 9 ∧ 0 < 353 by decide).1) (ci := 9) rfl (bV wd582 wd583 wd584 wd1 wd585) rfl ⟨rfl, rfl⟩ ydX11_rule (rmK_le hR (by omega) (by decide)) (av := [iV x3, iV x4]) rfl rfl (Nat.le_of_ble_eq_true rfl) dX11_digest_63 (rmK_cs hR (by omega) (by omega)) (fun r4 I5 R6 h7 m8 hw => ?_)
      refine q_i2l F h7 dX11_digest_66 ?_
      refine q_ladd F dX11_digest_67 ?_
      refine q_lstore_n (lv' := [(0, .ref (E.1 0)), (1, jV (((x1 * 31) + r4))), (3, iV x3), (4, iV x4)]) F [1, 0, 2, 3] dX11_digest_68 rfl (q_n hN (by decide)) rfl ?_
      obtain ⟨k11, hw⟩ := hw
      obtain ⟨z9, e10⟩ := ex1 (x4 + 1)
      have hw := hw z9 e10
      have hz9 : inR z9 := by rw [e10]; exact k11
      refine q_iinc (lv' := [(0, .ref (E.1 0)), (1, jV (((x1 * 31) + r4))), (3, iV x3), (4, iV z9)]) F 3 [1, 2, 3, 0] dX11_digest_69 rfl (q_n hN (by decide)) e10.symm rfl ?_
      refine q_goto F 47 dX11_digest_72 (by decide) ?_
      exact ih (((x1 * 31) + r4)) x3 z9 I5 R6 hx3 hz9 m8 hw
set_option maxHeartbeats 4000000 in
set_option maxRecDepth 100000 in
theorem bX11_digest_33 {X : xC} {E : cE} (F : mF X E RX11 cX11_digest bG) (hR : X.1.2.2.2 = rmK 9 (0) (0)) (hN : X.2.2.1.2.2.2 = 5) {Q : Int → cI → cR → Prop} (hret : rJ X E cX11_digest (0) (0) Q) (hfl : X.1.2.1.stackTraces = false)   : ∀ n33 : Nat, ∀ (x1 : Int) (x3 : Int) (I : cI) (R : cR), inR x3 → cM I R → wX11_digest_33 Q n33 x1 x3 I R → cW X (0) (0) 33 [(0, .ref (E.1 0)), (1, jV x1), (3, iV x3)] [] (gw E.1 cIds (cef E (I, R)) ++ []) := by
  intro n33
  induction n33 with
  | zero => intro x1 x3 I R hx3 hm hw; exact hw.elim
  | succ n33 ih =>
    intro x1 x3 I R hx3 hm hw
    change wbX11_digest_33 Q (wX11_digest_33 Q n33) x1 x3 I R at hw
    unfold wbX11_digest_33 at hw
    refine q_iload_n F 2 dX11_digest_33 rfl rfl ?_
    refine q_aload_n F 0 dX11_digest_34 rfl rfl ?_
    refine t_g_Mill_puzzle F (by decide) ib11 wd203 dX11_digest_35 ?_
    refine t_g_Puzzle_ruleCount F (kP0 (hm.2.1)) ib4 wd193 dX11_digest_38 ?_
    refine q_icmp_ge F hx3 (hm.1 _ _) 81 dX11_digest_41 (by decide) (fun hc => ?_) (fun hc => ?_)
    · have hw := hw.1 hc
      refine q_iconst F dX11_digest_81 ?_
      refine q_istore_n (lv' := [(0, .ref (E.1 0)), (1, jV x1), (3, iV 0)]) F [1, 2, 0] dX11_digest_82 rfl (q_n hN (by decide)) rfl ?_
      obtain ⟨n1, hw⟩ := hw
      exact bX11_digest_83 F hR hN hret hfl n1 x1 0 I R (⟨by decide, by decide⟩ : inR (0)) hm hw
    · have hw := hw.2 hc
      refine q_iconst F dX11_digest_44 ?_
      refine q_istore (lv' := [(0, .ref (E.1 0)), (1, jV x1), (3, iV x3), (4, iV 0)]) F [1, 2, 3, 0] dX11_digest_45 (q_n hN (by decide)) rfl ?_
      obtain ⟨n2, hw⟩ := hw
      exact bX11_digest_47 F hR hN hret hfl ih n2 x1 x3 0 I R hx3 (⟨by decide, by decide⟩ : inR (0)) hm hw
set_option maxHeartbeats 4000000 in
set_option maxRecDepth 100000 in
theorem bX11_digest_6 {X : xC} {E : cE} (F : mF X E RX11 cX11_digest bG) (hR : X.1.2.2.2 = rmK 9 (0) (0)) (hN : X.2.2.1.2.2.2 = 5) {Q : Int → cI → cR → Prop} (hret : rJ X E cX11_digest (0) (0) Q) (hfl : X.1.2.1.stackTraces = false)   : ∀ n6 : Nat, ∀ (x1 : Int) (x3 : Int) (I : cI) (R : cR), inR x3 → cM I R → wX11_digest_6 Q n6 x1 x3 I R → cW X (0) (0) 6 [(0, .ref (E.1 0)), (1, jV x1), (3, iV x3)] [] (gw E.1 cIds (cef E (I, R)) ++ []) := by
  intro n6
  induction n6 with
  | zero => intro x1 x3 I R hx3 hm hw; exact hw.elim
  | succ n6 ih =>
    intro x1 x3 I R hx3 hm hw
    change wbX11_digest_6 Q (wX11_digest_6 Q n6) x1 x3 I R at hw
    unfold wbX11_digest_6 at hw
    refine q_iload_n F 2 dX11_digest_6 rfl rfl ?_
    refine q_bipush F dX11_digest_7 (by decide) ?_
    refine q_icmp_gt F hx3 (⟨by decide, by decide⟩ : inR (10)) 31 dX11_digest_9 (by decide) (fun hc => ?_) (fun hc => ?_)
    · have hw := hw.1 hc
      refine q_iconst F dX11_digest_31 ?_
      refine q_istore_n (lv' := [(0, .ref (E.1 0)), (1, jV x1), (3, iV 0)]) F [1, 2, 0] dX11_digest_32 rfl (q_n hN (by decide)) rfl ?_
      obtain ⟨n1, hw⟩ := hw
      exact bX11_digest_33 F hR hN hret hfl n1 x1 0 I R (⟨by decide, by decide⟩ : inR (0)) hm hw
    · have hw := hw.2 hc
      refine q_lload_n F 1 dX11_digest_12 rfl rfl ?_
      refine q_ldc2 F (n := 31) wd523 dX11_digest_13 ?_
      refine q_lmul F dX11_digest_16 ?_
      refine q_aload_n F 0 dX11_digest_17 rfl rfl ?_
      refine q_iload_n F 2 dX11_digest_18 rfl rfl ?_
      refine q_Vin F (kcX11_count hfl 0 (Or.inr (fun _ _ _ h => h)) hm hx3 hw) (cIds_in (show ckd 0 = 9 ∧ 0 < 353 by decide).2) (ceMill (show ckd 0 = 9 ∧ 0 < 353 by decide).1) (ci := 9) rfl (bV wd524 wd525 wd526 wd1 wd527) rfl ⟨rfl, rfl⟩ ydX11_count (rmK_le hR (by omega) (by decide)) (av := [iV x3]) rfl rfl (Nat.le_of_ble_eq_true rfl) dX11_digest_19 (rmK_cs hR (by omega) (by omega)) (fun r2 I3 R4 h5 m6 hw => ?_)
      refine q_i2l F h5 dX11_digest_22 ?_
      refine q_ladd F dX11_digest_23 ?_
      refine q_lstore_n (lv' := [(0, .ref (E.1 0)), (1, jV (((x1 * 31) + r2))), (3, iV x3)]) F [1, 0, 2] dX11_digest_24 rfl (q_n hN (by decide)) rfl ?_
      obtain ⟨k9, hw⟩ := hw
      obtain ⟨z7, e8⟩ := ex1 (x3 + 1)
      have hw := hw z7 e8
      have hz7 : inR z7 := by rw [e8]; exact k9
      refine q_iinc (lv' := [(0, .ref (E.1 0)), (1, jV (((x1 * 31) + r2))), (3, iV z7)]) F 2 [1, 2, 0] dX11_digest_25 rfl (q_n hN (by decide)) e8.symm rfl ?_
      refine q_goto F 6 dX11_digest_28 (by decide) ?_
      exact ih (((x1 * 31) + r2)) z7 I3 R4 hz7 m6 hw
set_option maxHeartbeats 4000000 in
set_option maxRecDepth 100000 in
theorem kcX11_digest {l : Launch} {D : va_G} {E : cE} (hfl : l.stackTraces = false) {I : cI} {R : cR} (hm : cM I R)  {Q : Int → cI → cR → Prop} (hw : wX11_digest  I R Q) : gM l D E cIds yX11_digest vX11_digest (rmK 9 (0) (0)) [.ref (E.1 0)] (cef E (I, R)) (cef E) (pJ Q) (0) (0) := by
  unfold wX11_digest at hw
  refine k_ofW (own := RX11) (cc := cX11_digest) (maxL := 5) (ret := (some .long)) (lv := [(0, .ref (E.1 0))]) (by decide) rfl rfl (Nat.le_of_ble_eq_true rfl) rfl ?_
  intro X hl hR hN hD F K
  subst hl; subst hD
  have hret := mk_rJ (Q := Q) F K
  refine q_ldc2 F (n := 457) wd522 dX11_digest_0 ?_
  refine q_lstore_n (lv' := [(0, .ref (E.1 0)), (1, jV 457)]) F [1, 0] dX11_digest_3 rfl (q_n hN (by decide)) rfl ?_
  refine q_iconst F dX11_digest_4 ?_
  refine q_istore_n (lv' := [(0, .ref (E.1 0)), (1, jV 457), (3, iV 0)]) F [1, 2, 0] dX11_digest_5 rfl (q_n hN (by decide)) rfl ?_
  obtain ⟨n1, hw⟩ := hw
  exact bX11_digest_6 F hR hN hret hfl n1 457 0 I R (⟨by decide, by decide⟩ : inR (0)) hm hw
