/-! ===== walks: X12_isBroken, X12_filled, X12_broken, X12_rulesIs, X12_counted, X12_count, X12_ruleTold, X12_rule, X12_dropRule ===== -/
theorem ydX12_isBroken : yX12_isBroken.cls = RX12 ∧ yX12_isBroken.cls ≠ "java/lang/invoke/MethodHandle" ∧ yX12_isBroken.cls ≠ "java/lang/invoke/VarHandle" ∧ (parseMethodDescriptor yX12_isBroken.desc).map (fun d => d.parameters.length) = some 2 := by decide +kernel
def vX12_isBroken : List Cond := Cond.code yX12_isBroken cX12_isBroken 10 (some .boolean) :: bG
set_option maxHeartbeats 4000000 in
set_option maxRecDepth 100000 in
theorem bX12_isBroken_151 {X : xC} {E : cE} (F : mF X E RX12 cX12_isBroken bG) (hR : X.1.2.2.2 = rmK 3 (0) (0)) (hN : X.2.2.1.2.2.2 = 10) {Q : Int → cI → Prop} (hret : rZM X E cX12_isBroken (0) (0) Q) {a1 : Int} {a2 : Nat} (ha1 : inR a1) (ha2 : isM 25 a2) {K121 : Int → Int → Int → Int → Int → cI → Prop} (hK121 : ∀ (x3 : Int) (x4 : Int) (x6 : Int) (x7 : Int) (x8 : Int) (J : cI), inR x3 → inR x4 → inR x6 → inR x7 → inR x8 → mM J → K121 x3 x4 x6 x7 x8 J → cW X (0) (0) 121 [(0, .ref (E.1 1000)), (1, iV a1), (2, .ref (E.1 a2)), (3, iV x3), (4, iV x4), (6, iV x6), (7, iV x7), (8, iV x8)] [] (gw E.1 mIds (mef E J) ++ [])) : ∀ (x3 : Int) (x4 : Int) (x7 : Int) (x8 : Int) (x9 : Int) (y0 : Int) (y1 : Int) (J : cI), inR x3 → inR x4 → inR x7 → inR x8 → inR x9 → inR y0 → inR y1 → mM J → wX12_isBroken_151 Q a1 a2 K121 x3 x4 x7 x8 x9 y0 y1 J → cW X (0) (0) 151 [(0, .ref (E.1 1000)), (1, iV a1), (2, .ref (E.1 a2)), (3, iV x3), (4, iV x4), (7, iV x7), (8, iV x8), (9, iV x9)] [iV y1, iV y0] (gw E.1 mIds (mef E J) ++ []) := by
  intro x3 x4 x7 x8 x9 y0 y1 J hx3 hx4 hx7 hx8 hx9 hy0 hy1 hm hw
  unfold wX12_isBroken_151 at hw
  refine q_iadd F dX12_isBroken_151 ?_
  obtain ⟨k1, hw⟩ := hw
  obtain ⟨z2, e3⟩ := ex1 ((y0 + y1))
  have hw := hw z2 e3
  have hz2 : inR z2 := by rw [e3]; exact k1
  refine q_top e3 ?_
  refine q_istore (lv' := [(0, .ref (E.1 1000)), (1, iV a1), (2, .ref (E.1 a2)), (3, iV x3), (4, iV x4), (6, iV z2), (7, iV x7), (8, iV x8), (9, iV x9)]) F [1, 2, 3, 4, 5, 0, 6, 7, 8] dX12_isBroken_152 (q_n hN (by decide)) rfl ?_
  refine q_iload F 6 dX12_isBroken_154 rfl ?_
  refine q_iload F 8 dX12_isBroken_156 rfl ?_
  refine q_if_ne F hx9 168 dX12_isBroken_158 (by decide) (fun hc => ?_) (fun hc => ?_)
  · have hw := hw.1 hc
    refine q_iload F 8 dX12_isBroken_168 rfl ?_
    refine q_iadd F dX12_isBroken_170 ?_
    obtain ⟨k4, hw⟩ := hw
    obtain ⟨z5, e6⟩ := ex1 ((x7 + x9))
    have hw := hw z5 e6
    have hz5 : inR z5 := by rw [e6]; exact k4
    refine q_top e6 ?_
    refine q_istore (lv' := [(0, .ref (E.1 1000)), (1, iV a1), (2, .ref (E.1 a2)), (3, iV x3), (4, iV x4), (6, iV z2), (7, iV z5), (8, iV x8), (9, iV x9)]) F [1, 2, 3, 4, 5, 6, 0, 7, 8] dX12_isBroken_171 (q_n hN (by decide)) rfl ?_
    obtain ⟨k9, hw⟩ := hw
    obtain ⟨z7, e8⟩ := ex1 (x8 + 1)
    have hw := hw z7 e8
    have hz7 : inR z7 := by rw [e8]; exact k9
    refine q_iinc (lv' := [(0, .ref (E.1 1000)), (1, iV a1), (2, .ref (E.1 a2)), (3, iV x3), (4, iV x4), (6, iV z2), (7, iV z5), (8, iV z7), (9, iV x9)]) F 7 [1, 2, 3, 4, 5, 6, 7, 0, 8] dX12_isBroken_173 rfl (q_n hN (by decide)) e8.symm rfl ?_
    refine q_goto F 121 dX12_isBroken_176 (by decide) ?_
    refine q_lv [0, 1, 2, 3, 4, 5, 6, 7] rfl ?_
    exact hK121 x3 x4 z2 z5 z7 J hx3 hx4 hz2 hz5 hz7 hm hw
  · have hw := hw.2 hc
    refine q_aload_n F 0 dX12_isBroken_161 rfl rfl ?_
    refine s_g_k F ib12 wd886 dX12_isBroken_162 ?_
    refine q_goto F 170 dX12_isBroken_165 (by decide) ?_
    refine q_iadd F dX12_isBroken_170 ?_
    obtain ⟨k10, hw⟩ := hw
    obtain ⟨z11, e12⟩ := ex1 ((x7 + (J 1000 13)))
    have hw := hw z11 e12
    have hz11 : inR z11 := by rw [e12]; exact k10
    refine q_top e12 ?_
    refine q_istore (lv' := [(0, .ref (E.1 1000)), (1, iV a1), (2, .ref (E.1 a2)), (3, iV x3), (4, iV x4), (6, iV z2), (7, iV z11), (8, iV x8), (9, iV x9)]) F [1, 2, 3, 4, 5, 6, 0, 7, 8] dX12_isBroken_171 (q_n hN (by decide)) rfl ?_
    obtain ⟨k15, hw⟩ := hw
    obtain ⟨z13, e14⟩ := ex1 (x8 + 1)
    have hw := hw z13 e14
    have hz13 : inR z13 := by rw [e14]; exact k15
    refine q_iinc (lv' := [(0, .ref (E.1 1000)), (1, iV a1), (2, .ref (E.1 a2)), (3, iV x3), (4, iV x4), (6, iV z2), (7, iV z11), (8, iV z13), (9, iV x9)]) F 7 [1, 2, 3, 4, 5, 6, 7, 0, 8] dX12_isBroken_173 rfl (q_n hN (by decide)) e14.symm rfl ?_
    refine q_goto F 121 dX12_isBroken_176 (by decide) ?_
    refine q_lv [0, 1, 2, 3, 4, 5, 6, 7] rfl ?_
    exact hK121 x3 x4 z2 z11 z13 J hx3 hx4 hz2 hz11 hz13 hm hw
set_option maxHeartbeats 4000000 in
set_option maxRecDepth 100000 in
theorem bX12_isBroken_121 {X : xC} {E : cE} (F : mF X E RX12 cX12_isBroken bG) (hR : X.1.2.2.2 = rmK 3 (0) (0)) (hN : X.2.2.1.2.2.2 = 10) {Q : Int → cI → Prop} (hret : rZM X E cX12_isBroken (0) (0) Q) {a1 : Int} {a2 : Nat} (ha1 : inR a1) (ha2 : isM 25 a2) : ∀ n121 : Nat, ∀ (x3 : Int) (x4 : Int) (x6 : Int) (x7 : Int) (x8 : Int) (J : cI), inR x3 → inR x4 → inR x6 → inR x7 → inR x8 → mM J → wX12_isBroken_121 Q a1 a2 n121 x3 x4 x6 x7 x8 J → cW X (0) (0) 121 [(0, .ref (E.1 1000)), (1, iV a1), (2, .ref (E.1 a2)), (3, iV x3), (4, iV x4), (6, iV x6), (7, iV x7), (8, iV x8)] [] (gw E.1 mIds (mef E J) ++ []) := by
  intro n121
  induction n121 with
  | zero => intro x3 x4 x6 x7 x8 J hx3 hx4 hx6 hx7 hx8 hm hw; exact hw.elim
  | succ n121 ih =>
    intro x3 x4 x6 x7 x8 J hx3 hx4 hx6 hx7 hx8 hm hw
    change wbX12_isBroken_121 Q a1 a2 (wX12_isBroken_121 Q a1 a2 n121) x3 x4 x6 x7 x8 J at hw
    unfold wbX12_isBroken_121 at hw
    refine q_iload F 7 dX12_isBroken_121 rfl ?_
    refine q_iload_n F 3 dX12_isBroken_123 rfl rfl ?_
    refine q_icmp_ge F hx8 hx3 179 dX12_isBroken_124 (by decide) (fun hc => ?_) (fun hc => ?_)
    · have hw := hw.1 hc
      refine q_iload F 5 dX12_isBroken_179 rfl ?_
      refine q_iload F 4 dX12_isBroken_181 rfl ?_
      refine q_icmp_gt F hx6 hx4 193 dX12_isBroken_183 (by decide) (fun hc => ?_) (fun hc => ?_)
      · have hw := hw.1 hc
        refine q_iconst F dX12_isBroken_193 ?_
        refine q_goto F 198 dX12_isBroken_194 (by decide) ?_
        exact hret _ _ _ _ _ dX12_isBroken_198 (Or.inr rfl) (⟨by decide, by decide⟩ : inR (1)) hm hw
      · have hw := hw.2 hc
        refine q_iload F 6 dX12_isBroken_186 rfl ?_
        refine q_iload F 4 dX12_isBroken_188 rfl ?_
        refine q_icmp_ge F hx7 hx4 197 dX12_isBroken_190 (by decide) (fun hc => ?_) (fun hc => ?_)
        · have hw := hw.1 hc
          refine q_iconst F dX12_isBroken_197 ?_
          exact hret _ _ _ _ _ dX12_isBroken_198 (Or.inl rfl) (⟨by decide, by decide⟩ : inR (0)) hm hw
        · have hw := hw.2 hc
          refine q_iconst F dX12_isBroken_193 ?_
          refine q_goto F 198 dX12_isBroken_194 (by decide) ?_
          exact hret _ _ _ _ _ dX12_isBroken_198 (Or.inr rfl) (⟨by decide, by decide⟩ : inR (1)) hm hw
    · have hw := hw.2 hc
      refine q_aload_n F 2 dX12_isBroken_127 rfl rfl ?_
      refine q_aload_n F 0 dX12_isBroken_128 rfl rfl ?_
      refine q_iload_n F 1 dX12_isBroken_129 rfl rfl ?_
      refine q_iload F 7 dX12_isBroken_130 rfl ?_
      refine q_ViM F (kcX12_cellOf hm ha1 hx8 hw) (by decide) meObj (ci := 10) rfl (bV wd1030 wd1031 wd1311 wd13 wd1032) rfl ⟨rfl, rfl⟩ ydX12_cellOf (rmK_le hR (by omega) (by decide)) (av := [iV a1, iV x8]) rfl rfl (Nat.le_of_ble_eq_true rfl) dX12_isBroken_132 (rmK_cs hR (by omega) (by omega)) (fun r1 J2 h3 m4 hw => ?_)
      obtain ⟨k5, hw⟩ := hw
      refine s_ald F 25 ha2 k5 (by decide) dX12_isBroken_135 ?_
      obtain ⟨z6, e7⟩ := ex1 ((J2 a2 r1))
      have hw := hw z6 e7
      have hz6 : inR z6 := by rw [e7]; exact (m4 _ _)
      refine q_top e7 ?_
      refine q_istore (lv' := [(0, .ref (E.1 1000)), (1, iV a1), (2, .ref (E.1 a2)), (3, iV x3), (4, iV x4), (6, iV x6), (7, iV x7), (8, iV x8), (9, iV z6)]) F [1, 2, 3, 4, 5, 6, 7, 8, 0] dX12_isBroken_136 (q_n hN (by decide)) rfl ?_
      refine q_iload F 5 dX12_isBroken_138 rfl ?_
      refine q_iload F 8 dX12_isBroken_140 rfl ?_
      refine q_if_ne F hz6 149 dX12_isBroken_142 (by decide) (fun hc => ?_) (fun hc => ?_)
      · have hw := hw.1 hc
        refine q_iload F 8 dX12_isBroken_149 rfl ?_
        refine q_lv [0, 1, 2, 3, 4, 6, 7, 8] rfl ?_
        exact bX12_isBroken_151 F hR hN hret ha1 ha2 ih x3 x4 x7 x8 z6 x6 z6 J2 hx3 hx4 hx7 hx8 hz6 hx6 hz6 m4 hw
      · have hw := hw.2 hc
        refine q_iconst F dX12_isBroken_145 ?_
        refine q_goto F 151 dX12_isBroken_146 (by decide) ?_
        refine q_lv [0, 1, 2, 3, 4, 6, 7, 8] rfl ?_
        exact bX12_isBroken_151 F hR hN hret ha1 ha2 ih x3 x4 x7 x8 z6 x6 1 J2 hx3 hx4 hx7 hx8 hz6 hx6 (⟨by decide, by decide⟩ : inR (1)) m4 hw
set_option maxHeartbeats 4000000 in
set_option maxRecDepth 100000 in
theorem bX12_isBroken_205 {X : xC} {E : cE} (F : mF X E RX12 cX12_isBroken bG) (hR : X.1.2.2.2 = rmK 3 (0) (0)) (hN : X.2.2.1.2.2.2 = 10) {Q : Int → cI → Prop} (hret : rZM X E cX12_isBroken (0) (0) Q) {a1 : Int} {a2 : Nat} (ha1 : inR a1) (ha2 : isM 25 a2) : ∀ n205 : Nat, ∀ (x3 : Int) (x4 : Int) (x5 : Int) (x6 : Int) (x7 : Int) (J : cI), inR x3 → inR x4 → inR x5 → inR x6 → inR x7 → mM J → wX12_isBroken_205 Q a1 a2 n205 x3 x4 x5 x6 x7 J → cW X (0) (0) 205 [(0, .ref (E.1 1000)), (1, iV a1), (2, .ref (E.1 a2)), (3, iV x3), (4, iV x4), (5, iV x5), (6, iV x6), (7, iV x7)] [] (gw E.1 mIds (mef E J) ++ []) := by
  intro n205
  induction n205 with
  | zero => intro x3 x4 x5 x6 x7 J hx3 hx4 hx5 hx6 hx7 hm hw; exact hw.elim
  | succ n205 ih =>
    intro x3 x4 x5 x6 x7 J hx3 hx4 hx5 hx6 hx7 hm hw
    change wbX12_isBroken_205 Q a1 a2 (wX12_isBroken_205 Q a1 a2 n205) x3 x4 x5 x6 x7 J at hw
    unfold wbX12_isBroken_205 at hw
    refine q_iload F 7 dX12_isBroken_205 rfl ?_
    refine q_iload_n F 3 dX12_isBroken_207 rfl rfl ?_
    refine q_icmp_ge F hx7 hx3 235 dX12_isBroken_208 (by decide) (fun hc => ?_) (fun hc => ?_)
    · have hw := hw.1 hc
      refine q_iload F 4 dX12_isBroken_235 rfl ?_
      refine q_iload F 6 dX12_isBroken_237 rfl ?_
      obtain ⟨k1, hw⟩ := hw
      refine q_irem F ⟨⟨k1.1, (hx4).2⟩, k1.2, (hx6).2⟩ dX12_isBroken_239 ?_
      obtain ⟨k2, hw⟩ := hw
      refine q_if_ne F k2 255 dX12_isBroken_240 (by decide) (fun hc => ?_) (fun hc => ?_)
      · have hw := hw.1 hc
        refine q_iconst F dX12_isBroken_255 ?_
        refine q_goto F 260 dX12_isBroken_256 (by decide) ?_
        exact hret _ _ _ _ _ dX12_isBroken_260 (Or.inr rfl) (⟨by decide, by decide⟩ : inR (1)) hm hw
      · have hw := hw.2 hc
        refine q_iload F 5 dX12_isBroken_243 rfl ?_
        refine q_if_ne F hx5 259 dX12_isBroken_245 (by decide) (fun hc => ?_) (fun hc => ?_)
        · have hw := hw.1 hc
          refine q_iconst F dX12_isBroken_259 ?_
          exact hret _ _ _ _ _ dX12_isBroken_260 (Or.inl rfl) (⟨by decide, by decide⟩ : inR (0)) hm hw
        · have hw := hw.2 hc
          refine q_iload F 6 dX12_isBroken_248 rfl ?_
          refine q_iload F 4 dX12_isBroken_250 rfl ?_
          refine q_icmp_eq F hx6 hx4 259 dX12_isBroken_252 (by decide) (fun hc => ?_) (fun hc => ?_)
          · have hw := hw.1 hc
            refine q_iconst F dX12_isBroken_259 ?_
            exact hret _ _ _ _ _ dX12_isBroken_260 (Or.inl rfl) (⟨by decide, by decide⟩ : inR (0)) hm hw
          · have hw := hw.2 hc
            refine q_iconst F dX12_isBroken_255 ?_
            refine q_goto F 260 dX12_isBroken_256 (by decide) ?_
            exact hret _ _ _ _ _ dX12_isBroken_260 (Or.inr rfl) (⟨by decide, by decide⟩ : inR (1)) hm hw
    · have hw := hw.2 hc
      refine q_iload F 6 dX12_isBroken_211 rfl ?_
      refine q_iconst F dX12_isBroken_213 ?_
      refine q_aload_n F 2 dX12_isBroken_214 rfl rfl ?_
      refine q_aload_n F 0 dX12_isBroken_215 rfl rfl ?_
      refine q_iload_n F 1 dX12_isBroken_216 rfl rfl ?_
      refine q_iload F 7 dX12_isBroken_217 rfl ?_
      refine q_ViM F (kcX12_cellOf hm ha1 hx7 hw) (by decide) meObj (ci := 10) rfl (bV wd1030 wd1031 wd1311 wd13 wd1032) rfl ⟨rfl, rfl⟩ ydX12_cellOf (rmK_le hR (by omega) (by decide)) (av := [iV a1, iV x7]) rfl rfl (Nat.le_of_ble_eq_true rfl) dX12_isBroken_219 (rmK_cs hR (by omega) (by omega)) (fun r3 J4 h5 m6 hw => ?_)
      obtain ⟨k7, hw⟩ := hw
      refine s_ald F 25 ha2 k7 (by decide) dX12_isBroken_222 ?_
      refine q_max F hR (by omega) (⟨by decide, by decide⟩ : inR (1)) (m6 _ _) wd1033 dX12_isBroken_223 (Nat.le_of_ble_eq_true rfl) ?_
      refine q_imul F dX12_isBroken_226 ?_
      obtain ⟨k8, hw⟩ := hw
      obtain ⟨z9, e10⟩ := ex1 ((x6 * (imax 1 ((J4 a2 r3)))))
      have hw := hw z9 e10
      have hz9 : inR z9 := by rw [e10]; exact k8
      refine q_top e10 ?_
      refine q_istore (lv' := [(0, .ref (E.1 1000)), (1, iV a1), (2, .ref (E.1 a2)), (3, iV x3), (4, iV x4), (5, iV x5), (6, iV z9), (7, iV x7)]) F [1, 2, 3, 4, 5, 6, 0, 7] dX12_isBroken_227 (q_n hN (by decide)) rfl ?_
      obtain ⟨k13, hw⟩ := hw
      obtain ⟨z11, e12⟩ := ex1 (x7 + 1)
      have hw := hw z11 e12
      have hz11 : inR z11 := by rw [e12]; exact k13
      refine q_iinc (lv' := [(0, .ref (E.1 1000)), (1, iV a1), (2, .ref (E.1 a2)), (3, iV x3), (4, iV x4), (5, iV x5), (6, iV z9), (7, iV z11)]) F 7 [1, 2, 3, 4, 5, 6, 7, 0] dX12_isBroken_229 rfl (q_n hN (by decide)) e12.symm rfl ?_
      refine q_goto F 205 dX12_isBroken_232 (by decide) ?_
      exact ih x3 x4 x5 z9 z11 J4 hx3 hx4 hx5 hz9 hz11 m6 hw
set_option maxHeartbeats 4000000 in
set_option maxRecDepth 100000 in
theorem bX12_isBroken_430 {X : xC} {E : cE} (F : mF X E RX12 cX12_isBroken bG) (hR : X.1.2.2.2 = rmK 3 (0) (0)) (hN : X.2.2.1.2.2.2 = 10) {Q : Int → cI → Prop} (hret : rZM X E cX12_isBroken (0) (0) Q) {a1 : Int} {a2 : Nat} (ha1 : inR a1) (ha2 : isM 25 a2) {K362 : Int → Int → Int → Int → cI → Prop} (hK362 : ∀ (x3 : Int) (x4 : Int) (x6 : Int) (x7 : Int) (J : cI), inR x3 → inR x4 → inR x6 → inR x7 → mM J → K362 x3 x4 x6 x7 J → cW X (0) (0) 362 [(0, .ref (E.1 1000)), (1, iV a1), (2, .ref (E.1 a2)), (3, iV x3), (4, iV x4), (6, iV x6), (7, iV x7)] [] (gw E.1 mIds (mef E J) ++ [])) : ∀ (x3 : Int) (x4 : Int) (x7 : Int) (y0 : Int) (y1 : Int) (J : cI), inR x3 → inR x4 → inR x7 → inR y0 → inR y1 → mM J → wX12_isBroken_430 Q a1 a2 K362 x3 x4 x7 y0 y1 J → cW X (0) (0) 430 [(0, .ref (E.1 1000)), (1, iV a1), (2, .ref (E.1 a2)), (3, iV x3), (4, iV x4), (7, iV x7)] [iV y1, iV y0] (gw E.1 mIds (mef E J) ++ []) := by
  intro x3 x4 x7 y0 y1 J hx3 hx4 hx7 hy0 hy1 hm hw
  unfold wX12_isBroken_430 at hw
  refine q_icmp_eq F hy0 hy1 437 dX12_isBroken_430 (by decide) (fun hc => ?_) (fun hc => ?_)
  · have hw := hw.1 hc
    refine q_iconst F dX12_isBroken_437 ?_
    refine q_istore (lv' := [(0, .ref (E.1 1000)), (1, iV a1), (2, .ref (E.1 a2)), (3, iV x3), (4, iV x4), (6, iV 0), (7, iV x7)]) F [1, 2, 3, 4, 5, 0, 6] dX12_isBroken_438 (q_n hN (by decide)) rfl ?_
    obtain ⟨k3, hw⟩ := hw
    obtain ⟨z1, e2⟩ := ex1 (x7 + 1)
    have hw := hw z1 e2
    have hz1 : inR z1 := by rw [e2]; exact k3
    refine q_iinc (lv' := [(0, .ref (E.1 1000)), (1, iV a1), (2, .ref (E.1 a2)), (3, iV x3), (4, iV x4), (6, iV 0), (7, iV z1)]) F 6 [1, 2, 3, 4, 5, 6, 0] dX12_isBroken_440 rfl (q_n hN (by decide)) e2.symm rfl ?_
    refine q_goto F 362 dX12_isBroken_443 (by decide) ?_
    exact hK362 x3 x4 0 z1 J hx3 hx4 (⟨by decide, by decide⟩ : inR (0)) hz1 hm hw
  · have hw := hw.2 hc
    refine q_iconst F dX12_isBroken_433 ?_
    refine q_goto F 438 dX12_isBroken_434 (by decide) ?_
    refine q_istore (lv' := [(0, .ref (E.1 1000)), (1, iV a1), (2, .ref (E.1 a2)), (3, iV x3), (4, iV x4), (6, iV 1), (7, iV x7)]) F [1, 2, 3, 4, 5, 0, 6] dX12_isBroken_438 (q_n hN (by decide)) rfl ?_
    obtain ⟨k6, hw⟩ := hw
    obtain ⟨z4, e5⟩ := ex1 (x7 + 1)
    have hw := hw z4 e5
    have hz4 : inR z4 := by rw [e5]; exact k6
    refine q_iinc (lv' := [(0, .ref (E.1 1000)), (1, iV a1), (2, .ref (E.1 a2)), (3, iV x3), (4, iV x4), (6, iV 1), (7, iV z4)]) F 6 [1, 2, 3, 4, 5, 6, 0] dX12_isBroken_440 rfl (q_n hN (by decide)) e5.symm rfl ?_
    refine q_goto F 362 dX12_isBroken_443 (by decide) ?_
    exact hK362 x3 x4 1 z4 J hx3 hx4 (⟨by decide, by decide⟩ : inR (1)) hz4 hm hw
set_option maxHeartbeats 4000000 in
set_option maxRecDepth 100000 in
theorem bX12_isBroken_362 {X : xC} {E : cE} (F : mF X E RX12 cX12_isBroken bG) (hR : X.1.2.2.2 = rmK 3 (0) (0)) (hN : X.2.2.1.2.2.2 = 10) {Q : Int → cI → Prop} (hret : rZM X E cX12_isBroken (0) (0) Q) {a1 : Int} {a2 : Nat} (ha1 : inR a1) (ha2 : isM 25 a2) : ∀ n362 : Nat, ∀ (x3 : Int) (x4 : Int) (x6 : Int) (x7 : Int) (J : cI), inR x3 → inR x4 → inR x6 → inR x7 → mM J → wX12_isBroken_362 Q a1 a2 n362 x3 x4 x6 x7 J → cW X (0) (0) 362 [(0, .ref (E.1 1000)), (1, iV a1), (2, .ref (E.1 a2)), (3, iV x3), (4, iV x4), (6, iV x6), (7, iV x7)] [] (gw E.1 mIds (mef E J) ++ []) := by
  intro n362
  induction n362 with
  | zero => intro x3 x4 x6 x7 J hx3 hx4 hx6 hx7 hm hw; exact hw.elim
  | succ n362 ih =>
    intro x3 x4 x6 x7 J hx3 hx4 hx6 hx7 hm hw
    change wbX12_isBroken_362 Q a1 a2 (wX12_isBroken_362 Q a1 a2 n362) x3 x4 x6 x7 J at hw
    unfold wbX12_isBroken_362 at hw
    refine q_iload F 6 dX12_isBroken_362 rfl ?_
    refine q_iload_n F 3 dX12_isBroken_364 rfl rfl ?_
    refine q_icmp_ge F hx7 hx3 446 dX12_isBroken_365 (by decide) (fun hc => ?_) (fun hc => ?_)
    · have hw := hw.1 hc
      refine q_iload F 5 dX12_isBroken_446 rfl ?_
      obtain ⟨k1, hw⟩ := hw
      exact hret _ _ _ _ _ dX12_isBroken_448 k1 hx6 hm hw
    · have hw := hw.2 hc
      refine q_aload_n F 2 dX12_isBroken_368 rfl rfl ?_
      refine q_aload_n F 0 dX12_isBroken_369 rfl rfl ?_
      refine q_iload_n F 1 dX12_isBroken_370 rfl rfl ?_
      refine q_iload F 6 dX12_isBroken_371 rfl ?_
      refine q_ViM F (kcX12_cellOf hm ha1 hx7 hw) (by decide) meObj (ci := 10) rfl (bV wd1030 wd1031 wd1311 wd13 wd1032) rfl ⟨rfl, rfl⟩ ydX12_cellOf (rmK_le hR (by omega) (by decide)) (av := [iV a1, iV x7]) rfl rfl (Nat.le_of_ble_eq_true rfl) dX12_isBroken_373 (rmK_cs hR (by omega) (by omega)) (fun r2 J3 h4 m5 hw => ?_)
      obtain ⟨k6, hw⟩ := hw
      refine s_ald F 25 ha2 k6 (by decide) dX12_isBroken_376 ?_
      obtain ⟨z7, e8⟩ := ex1 ((J3 a2 r2))
      have hw := hw z7 e8
      have hz7 : inR z7 := by rw [e8]; exact (m5 _ _)
      refine q_top e8 ?_
      refine q_istore (lv' := [(0, .ref (E.1 1000)), (1, iV a1), (2, .ref (E.1 a2)), (3, iV x3), (4, iV x4), (6, iV x6), (7, iV x7), (8, iV z7)]) F [1, 2, 3, 4, 5, 6, 7, 0] dX12_isBroken_377 (q_n hN (by decide)) rfl ?_
      refine q_iload F 5 dX12_isBroken_379 rfl ?_
      refine q_if_ne F hx6 433 dX12_isBroken_381 (by decide) (fun hc => ?_) (fun hc => ?_)
      · have hw := hw.1 hc
        refine q_iconst F dX12_isBroken_433 ?_
        refine q_goto F 438 dX12_isBroken_434 (by decide) ?_
        refine q_istore (lv' := [(0, .ref (E.1 1000)), (1, iV a1), (2, .ref (E.1 a2)), (3, iV x3), (4, iV x4), (6, iV 1), (7, iV x7), (8, iV z7)]) F [1, 2, 3, 4, 5, 0, 6, 7] dX12_isBroken_438 (q_n hN (by decide)) rfl ?_
        obtain ⟨k11, hw⟩ := hw
        obtain ⟨z9, e10⟩ := ex1 (x7 + 1)
        have hw := hw z9 e10
        have hz9 : inR z9 := by rw [e10]; exact k11
        refine q_iinc (lv' := [(0, .ref (E.1 1000)), (1, iV a1), (2, .ref (E.1 a2)), (3, iV x3), (4, iV x4), (6, iV 1), (7, iV z9), (8, iV z7)]) F 6 [1, 2, 3, 4, 5, 6, 0, 7] dX12_isBroken_440 rfl (q_n hN (by decide)) e10.symm rfl ?_
        refine q_goto F 362 dX12_isBroken_443 (by decide) ?_
        refine q_lv [0, 1, 2, 3, 4, 5, 6] rfl ?_
        exact ih x3 x4 1 z9 J3 hx3 hx4 (⟨by decide, by decide⟩ : inR (1)) hz9 m5 hw
      · have hw := hw.2 hc
        refine q_iload F 7 dX12_isBroken_384 rfl ?_
        refine q_if_eq F hz7 437 dX12_isBroken_386 (by decide) (fun hc => ?_) (fun hc => ?_)
        · have hw := hw.1 hc
          refine q_iconst F dX12_isBroken_437 ?_
          refine q_istore (lv' := [(0, .ref (E.1 1000)), (1, iV a1), (2, .ref (E.1 a2)), (3, iV x3), (4, iV x4), (6, iV 0), (7, iV x7), (8, iV z7)]) F [1, 2, 3, 4, 5, 0, 6, 7] dX12_isBroken_438 (q_n hN (by decide)) rfl ?_
          obtain ⟨k14, hw⟩ := hw
          obtain ⟨z12, e13⟩ := ex1 (x7 + 1)
          have hw := hw z12 e13
          have hz12 : inR z12 := by rw [e13]; exact k14
          refine q_iinc (lv' := [(0, .ref (E.1 1000)), (1, iV a1), (2, .ref (E.1 a2)), (3, iV x3), (4, iV x4), (6, iV 0), (7, iV z12), (8, iV z7)]) F 6 [1, 2, 3, 4, 5, 6, 0, 7] dX12_isBroken_440 rfl (q_n hN (by decide)) e13.symm rfl ?_
          refine q_goto F 362 dX12_isBroken_443 (by decide) ?_
          refine q_lv [0, 1, 2, 3, 4, 5, 6] rfl ?_
          exact ih x3 x4 0 z12 J3 hx3 hx4 (⟨by decide, by decide⟩ : inR (0)) hz12 m5 hw
        · have hw := hw.2 hc
          refine q_aload_n F 0 dX12_isBroken_389 rfl rfl ?_
          refine s_g_ruleKind F ib12 wd888 dX12_isBroken_390 ?_
          refine q_iload_n F 1 dX12_isBroken_393 rfl rfl ?_
          obtain ⟨k15, hw⟩ := hw
          refine s_ald F 70 kM_ruleKind k15 (by decide) dX12_isBroken_394 ?_
          refine q_bipush F dX12_isBroken_395 (by decide) ?_
          refine q_icmp_ne F (m5 _ _) (⟨by decide, by decide⟩ : inR (9)) 410 dX12_isBroken_397 (by decide) (fun hc => ?_) (fun hc => ?_)
          · have hw := hw.1 hc
            refine q_iload F 7 dX12_isBroken_410 rfl ?_
            refine q_iconst F dX12_isBroken_412 ?_
            obtain ⟨k16, hw⟩ := hw
            refine q_irem F ⟨⟨k16, (hz7).2⟩, by decide, by decide⟩ dX12_isBroken_413 ?_
            refine q_aload_n F 0 dX12_isBroken_414 rfl rfl ?_
            refine s_g_ruleKind F ib12 wd888 dX12_isBroken_415 ?_
            refine q_iload_n F 1 dX12_isBroken_418 rfl rfl ?_
            obtain ⟨k17, hw⟩ := hw
            refine s_ald F 70 kM_ruleKind k17 (by decide) dX12_isBroken_419 ?_
            refine q_bipush F dX12_isBroken_420 (by decide) ?_
            refine q_icmp_ne F (m5 _ _) (⟨by decide, by decide⟩ : inR (6)) 429 dX12_isBroken_422 (by decide) (fun hc => ?_) (fun hc => ?_)
            · have hw := hw.1 hc
              refine q_iconst F dX12_isBroken_429 ?_
              obtain ⟨k18, hw⟩ := hw
              refine q_lv [0, 1, 2, 3, 4, 6] rfl ?_
              exact bX12_isBroken_430 F hR hN hret ha1 ha2 ih x3 x4 x7 ((z7 % 2)) 0 J3 hx3 hx4 hx7 k18 (⟨by decide, by decide⟩ : inR (0)) m5 hw
            · have hw := hw.2 hc
              refine q_iconst F dX12_isBroken_425 ?_
              refine q_goto F 430 dX12_isBroken_426 (by decide) ?_
              obtain ⟨k19, hw⟩ := hw
              refine q_lv [0, 1, 2, 3, 4, 6] rfl ?_
              exact bX12_isBroken_430 F hR hN hret ha1 ha2 ih x3 x4 x7 ((z7 % 2)) 1 J3 hx3 hx4 hx7 k19 (⟨by decide, by decide⟩ : inR (1)) m5 hw
          · have hw := hw.2 hc
            refine q_iload F 7 dX12_isBroken_400 rfl ?_
            refine q_iload F 4 dX12_isBroken_402 rfl ?_
            refine q_icmp_eq F hz7 hx4 437 dX12_isBroken_404 (by decide) (fun hc => ?_) (fun hc => ?_)
            · have hw := hw.1 hc
              refine q_iconst F dX12_isBroken_437 ?_
              refine q_istore (lv' := [(0, .ref (E.1 1000)), (1, iV a1), (2, .ref (E.1 a2)), (3, iV x3), (4, iV x4), (6, iV 0), (7, iV x7), (8, iV z7)]) F [1, 2, 3, 4, 5, 0, 6, 7] dX12_isBroken_438 (q_n hN (by decide)) rfl ?_
              obtain ⟨k22, hw⟩ := hw
              obtain ⟨z20, e21⟩ := ex1 (x7 + 1)
              have hw := hw z20 e21
              have hz20 : inR z20 := by rw [e21]; exact k22
              refine q_iinc (lv' := [(0, .ref (E.1 1000)), (1, iV a1), (2, .ref (E.1 a2)), (3, iV x3), (4, iV x4), (6, iV 0), (7, iV z20), (8, iV z7)]) F 6 [1, 2, 3, 4, 5, 6, 0, 7] dX12_isBroken_440 rfl (q_n hN (by decide)) e21.symm rfl ?_
              refine q_goto F 362 dX12_isBroken_443 (by decide) ?_
              refine q_lv [0, 1, 2, 3, 4, 5, 6] rfl ?_
              exact ih x3 x4 0 z20 J3 hx3 hx4 (⟨by decide, by decide⟩ : inR (0)) hz20 m5 hw
            · have hw := hw.2 hc
              refine q_goto F 433 dX12_isBroken_407 (by decide) ?_
              refine q_iconst F dX12_isBroken_433 ?_
              refine q_goto F 438 dX12_isBroken_434 (by decide) ?_
              refine q_istore (lv' := [(0, .ref (E.1 1000)), (1, iV a1), (2, .ref (E.1 a2)), (3, iV x3), (4, iV x4), (6, iV 1), (7, iV x7), (8, iV z7)]) F [1, 2, 3, 4, 5, 0, 6, 7] dX12_isBroken_438 (q_n hN (by decide)) rfl ?_
              obtain ⟨k25, hw⟩ := hw
              obtain ⟨z23, e24⟩ := ex1 (x7 + 1)
              have hw := hw z23 e24
              have hz23 : inR z23 := by rw [e24]; exact k25
              refine q_iinc (lv' := [(0, .ref (E.1 1000)), (1, iV a1), (2, .ref (E.1 a2)), (3, iV x3), (4, iV x4), (6, iV 1), (7, iV z23), (8, iV z7)]) F 6 [1, 2, 3, 4, 5, 6, 0, 7] dX12_isBroken_440 rfl (q_n hN (by decide)) e24.symm rfl ?_
              refine q_goto F 362 dX12_isBroken_443 (by decide) ?_
              refine q_lv [0, 1, 2, 3, 4, 5, 6] rfl ?_
              exact ih x3 x4 1 z23 J3 hx3 hx4 (⟨by decide, by decide⟩ : inR (1)) hz23 m5 hw
set_option maxHeartbeats 4000000 in
set_option maxRecDepth 100000 in
theorem bX12_isBroken_289 {X : xC} {E : cE} (F : mF X E RX12 cX12_isBroken bG) (hR : X.1.2.2.2 = rmK 3 (0) (0)) (hN : X.2.2.1.2.2.2 = 10) {Q : Int → cI → Prop} (hret : rZM X E cX12_isBroken (0) (0) Q) {a1 : Int} {a2 : Nat} (ha1 : inR a1) (ha2 : isM 25 a2) : ∀ n289 : Nat, ∀ (x3 : Int) (x4 : Int) (x5 : Int) (x6 : Int) (x7 : Int) (J : cI), inR x3 → inR x4 → inR x5 → inR x6 → inR x7 → mM J → wX12_isBroken_289 Q a1 a2 n289 x3 x4 x5 x6 x7 J → cW X (0) (0) 289 [(0, .ref (E.1 1000)), (1, iV a1), (2, .ref (E.1 a2)), (3, iV x3), (4, iV x4), (5, iV x5), (6, iV x6), (7, iV x7)] [] (gw E.1 mIds (mef E J) ++ []) := by
  intro n289
  induction n289 with
  | zero => intro x3 x4 x5 x6 x7 J hx3 hx4 hx5 hx6 hx7 hm hw; exact hw.elim
  | succ n289 ih =>
    intro x3 x4 x5 x6 x7 J hx3 hx4 hx5 hx6 hx7 hm hw
    change wbX12_isBroken_289 Q a1 a2 (wX12_isBroken_289 Q a1 a2 n289) x3 x4 x5 x6 x7 J at hw
    unfold wbX12_isBroken_289 at hw
    refine q_iload F 7 dX12_isBroken_289 rfl ?_
    refine q_iload_n F 3 dX12_isBroken_291 rfl rfl ?_
    refine q_icmp_ge F hx7 hx3 325 dX12_isBroken_292 (by decide) (fun hc => ?_) (fun hc => ?_)
    · have hw := hw.1 hc
      refine q_iload F 6 dX12_isBroken_325 rfl ?_
      refine q_aload_n F 0 dX12_isBroken_327 rfl rfl ?_
      refine s_g_ruleOften F ib12 wd890 dX12_isBroken_328 ?_
      refine q_iload_n F 1 dX12_isBroken_331 rfl rfl ?_
      obtain ⟨k1, hw⟩ := hw
      refine s_ald F 70 kM_ruleOften k1 (by decide) dX12_isBroken_332 ?_
      refine q_icmp_gt F hx6 (hm _ _) 350 dX12_isBroken_333 (by decide) (fun hc => ?_) (fun hc => ?_)
      · have hw := hw.1 hc
        refine q_iconst F dX12_isBroken_350 ?_
        refine q_goto F 355 dX12_isBroken_351 (by decide) ?_
        exact hret _ _ _ _ _ dX12_isBroken_355 (Or.inr rfl) (⟨by decide, by decide⟩ : inR (1)) hm hw
      · have hw := hw.2 hc
        refine q_iload F 6 dX12_isBroken_336 rfl ?_
        refine q_iload F 5 dX12_isBroken_338 rfl ?_
        refine q_iadd F dX12_isBroken_340 ?_
        refine q_aload_n F 0 dX12_isBroken_341 rfl rfl ?_
        refine s_g_ruleOften F ib12 wd890 dX12_isBroken_342 ?_
        refine q_iload_n F 1 dX12_isBroken_345 rfl rfl ?_
        obtain ⟨k2, hw⟩ := hw
        refine s_ald F 70 kM_ruleOften k2 (by decide) dX12_isBroken_346 ?_
        obtain ⟨k3, hw⟩ := hw
        refine q_icmp_ge F k3 (hm _ _) 354 dX12_isBroken_347 (by decide) (fun hc => ?_) (fun hc => ?_)
        · have hw := hw.1 hc
          refine q_iconst F dX12_isBroken_354 ?_
          exact hret _ _ _ _ _ dX12_isBroken_355 (Or.inl rfl) (⟨by decide, by decide⟩ : inR (0)) hm hw
        · have hw := hw.2 hc
          refine q_iconst F dX12_isBroken_350 ?_
          refine q_goto F 355 dX12_isBroken_351 (by decide) ?_
          exact hret _ _ _ _ _ dX12_isBroken_355 (Or.inr rfl) (⟨by decide, by decide⟩ : inR (1)) hm hw
    · have hw := hw.2 hc
      refine q_iload F 6 dX12_isBroken_295 rfl ?_
      refine q_aload_n F 2 dX12_isBroken_297 rfl rfl ?_
      refine q_aload_n F 0 dX12_isBroken_298 rfl rfl ?_
      refine q_iload_n F 1 dX12_isBroken_299 rfl rfl ?_
      refine q_iload F 7 dX12_isBroken_300 rfl ?_
      refine q_ViM F (kcX12_cellOf hm ha1 hx7 hw) (by decide) meObj (ci := 10) rfl (bV wd1030 wd1031 wd1311 wd13 wd1032) rfl ⟨rfl, rfl⟩ ydX12_cellOf (rmK_le hR (by omega) (by decide)) (av := [iV a1, iV x7]) rfl rfl (Nat.le_of_ble_eq_true rfl) dX12_isBroken_302 (rmK_cs hR (by omega) (by omega)) (fun r4 J5 h6 m7 hw => ?_)
      obtain ⟨k8, hw⟩ := hw
      refine s_ald F 25 ha2 k8 (by decide) dX12_isBroken_305 ?_
      refine q_iload F 4 dX12_isBroken_306 rfl ?_
      refine q_icmp_ne F (m7 _ _) hx4 315 dX12_isBroken_308 (by decide) (fun hc => ?_) (fun hc => ?_)
      · have hw := hw.1 hc
        refine q_iconst F dX12_isBroken_315 ?_
        refine q_iadd F dX12_isBroken_316 ?_
        obtain ⟨k9, hw⟩ := hw
        obtain ⟨z10, e11⟩ := ex1 ((x6 + 0))
        have hw := hw z10 e11
        have hz10 : inR z10 := by rw [e11]; exact k9
        refine q_top e11 ?_
        refine q_istore (lv' := [(0, .ref (E.1 1000)), (1, iV a1), (2, .ref (E.1 a2)), (3, iV x3), (4, iV x4), (5, iV x5), (6, iV z10), (7, iV x7)]) F [1, 2, 3, 4, 5, 6, 0, 7] dX12_isBroken_317 (q_n hN (by decide)) rfl ?_
        obtain ⟨k14, hw⟩ := hw
        obtain ⟨z12, e13⟩ := ex1 (x7 + 1)
        have hw := hw z12 e13
        have hz12 : inR z12 := by rw [e13]; exact k14
        refine q_iinc (lv' := [(0, .ref (E.1 1000)), (1, iV a1), (2, .ref (E.1 a2)), (3, iV x3), (4, iV x4), (5, iV x5), (6, iV z10), (7, iV z12)]) F 7 [1, 2, 3, 4, 5, 6, 7, 0] dX12_isBroken_319 rfl (q_n hN (by decide)) e13.symm rfl ?_
        refine q_goto F 289 dX12_isBroken_322 (by decide) ?_
        exact ih x3 x4 x5 z10 z12 J5 hx3 hx4 hx5 hz10 hz12 m7 hw
      · have hw := hw.2 hc
        refine q_iconst F dX12_isBroken_311 ?_
        refine q_goto F 316 dX12_isBroken_312 (by decide) ?_
        refine q_iadd F dX12_isBroken_316 ?_
        obtain ⟨k15, hw⟩ := hw
        obtain ⟨z16, e17⟩ := ex1 ((x6 + 1))
        have hw := hw z16 e17
        have hz16 : inR z16 := by rw [e17]; exact k15
        refine q_top e17 ?_
        refine q_istore (lv' := [(0, .ref (E.1 1000)), (1, iV a1), (2, .ref (E.1 a2)), (3, iV x3), (4, iV x4), (5, iV x5), (6, iV z16), (7, iV x7)]) F [1, 2, 3, 4, 5, 6, 0, 7] dX12_isBroken_317 (q_n hN (by decide)) rfl ?_
        obtain ⟨k20, hw⟩ := hw
        obtain ⟨z18, e19⟩ := ex1 (x7 + 1)
        have hw := hw z18 e19
        have hz18 : inR z18 := by rw [e19]; exact k20
        refine q_iinc (lv' := [(0, .ref (E.1 1000)), (1, iV a1), (2, .ref (E.1 a2)), (3, iV x3), (4, iV x4), (5, iV x5), (6, iV z16), (7, iV z18)]) F 7 [1, 2, 3, 4, 5, 6, 7, 0] dX12_isBroken_319 rfl (q_n hN (by decide)) e19.symm rfl ?_
        refine q_goto F 289 dX12_isBroken_322 (by decide) ?_
        exact ih x3 x4 x5 z16 z18 J5 hx3 hx4 hx5 hz16 hz18 m7 hw
set_option maxHeartbeats 4000000 in
set_option maxRecDepth 100000 in
theorem bX12_isBroken_21 {X : xC} {E : cE} (F : mF X E RX12 cX12_isBroken bG) (hR : X.1.2.2.2 = rmK 3 (0) (0)) (hN : X.2.2.1.2.2.2 = 10) {Q : Int → cI → Prop} (hret : rZM X E cX12_isBroken (0) (0) Q) {a1 : Int} {a2 : Nat} (ha1 : inR a1) (ha2 : isM 25 a2) : ∀ n21 : Nat, ∀ (x3 : Int) (x4 : Int) (x5 : Int) (x6 : Int) (J : cI), inR x3 → inR x4 → inR x5 → inR x6 → mM J → wX12_isBroken_21 Q a1 a2 n21 x3 x4 x5 x6 J → cW X (0) (0) 21 [(0, .ref (E.1 1000)), (1, iV a1), (2, .ref (E.1 a2)), (3, iV x3), (4, iV x4), (5, iV x5), (6, iV x6)] [] (gw E.1 mIds (mef E J) ++ []) := by
  intro n21
  induction n21 with
  | zero => intro x3 x4 x5 x6 J hx3 hx4 hx5 hx6 hm hw; exact hw.elim
  | succ n21 ih =>
    intro x3 x4 x5 x6 J hx3 hx4 hx5 hx6 hm hw
    change wbX12_isBroken_21 Q a1 a2 (wX12_isBroken_21 Q a1 a2 n21) x3 x4 x5 x6 J at hw
    unfold wbX12_isBroken_21 at hw
    refine q_iload F 6 dX12_isBroken_21 rfl ?_
    refine q_iload_n F 3 dX12_isBroken_23 rfl rfl ?_
    refine q_icmp_ge F hx6 hx3 55 dX12_isBroken_24 (by decide) (fun hc => ?_) (fun hc => ?_)
    · have hw := hw.1 hc
      refine q_aload_n F 0 dX12_isBroken_55 rfl rfl ?_
      refine s_g_ruleKind F ib12 wd888 dX12_isBroken_56 ?_
      refine q_iload_n F 1 dX12_isBroken_59 rfl rfl ?_
      obtain ⟨k1, hw⟩ := hw
      refine s_ald F 70 kM_ruleKind k1 (by decide) dX12_isBroken_60 ?_
      by_cases c1 : (J 1015 a1) = 1
      · have hw := hw.1 c1
        refine q_swIn F 0 (hm _ _) 112 dX12_isBroken_61 (c1.trans (by decide)) (by decide) rfl (by decide) ?_
        refine q_iconst F dX12_isBroken_112 ?_
        refine q_istore (lv' := [(0, .ref (E.1 1000)), (1, iV a1), (2, .ref (E.1 a2)), (3, iV x3), (4, iV x4), (5, iV x5), (6, iV 0)]) F [1, 2, 3, 4, 5, 6, 0] dX12_isBroken_113 (q_n hN (by decide)) rfl ?_
        refine q_iconst F dX12_isBroken_115 ?_
        refine q_istore (lv' := [(0, .ref (E.1 1000)), (1, iV a1), (2, .ref (E.1 a2)), (3, iV x3), (4, iV x4), (5, iV x5), (6, iV 0), (7, iV 0)]) F [1, 2, 3, 4, 5, 6, 7, 0] dX12_isBroken_116 (q_n hN (by decide)) rfl ?_
        refine q_iconst F dX12_isBroken_118 ?_
        refine q_istore (lv' := [(0, .ref (E.1 1000)), (1, iV a1), (2, .ref (E.1 a2)), (3, iV x3), (4, iV x4), (5, iV x5), (6, iV 0), (7, iV 0), (8, iV 0)]) F [1, 2, 3, 4, 5, 6, 7, 8, 0] dX12_isBroken_119 (q_n hN (by decide)) rfl ?_
        refine q_lv [0, 1, 2, 3, 4, 6, 7, 8] rfl ?_
        obtain ⟨n2, hw⟩ := hw
        exact bX12_isBroken_121 F hR hN hret ha1 ha2 n2 x3 x4 0 0 0 J hx3 hx4 (⟨by decide, by decide⟩ : inR (0)) (⟨by decide, by decide⟩ : inR (0)) (⟨by decide, by decide⟩ : inR (0)) hm hw
      by_cases c2 : (J 1015 a1) = 2
      · have hw := hw.2.1 c2
        refine q_swIn F 1 (hm _ _) 199 dX12_isBroken_61 (c2.trans (by decide)) (by decide) rfl (by decide) ?_
        refine q_iconst F dX12_isBroken_199 ?_
        refine q_istore (lv' := [(0, .ref (E.1 1000)), (1, iV a1), (2, .ref (E.1 a2)), (3, iV x3), (4, iV x4), (5, iV x5), (6, iV 1)]) F [1, 2, 3, 4, 5, 6, 0] dX12_isBroken_200 (q_n hN (by decide)) rfl ?_
        refine q_iconst F dX12_isBroken_202 ?_
        refine q_istore (lv' := [(0, .ref (E.1 1000)), (1, iV a1), (2, .ref (E.1 a2)), (3, iV x3), (4, iV x4), (5, iV x5), (6, iV 1), (7, iV 0)]) F [1, 2, 3, 4, 5, 6, 7, 0] dX12_isBroken_203 (q_n hN (by decide)) rfl ?_
        obtain ⟨n3, hw⟩ := hw
        exact bX12_isBroken_205 F hR hN hret ha1 ha2 n3 x3 x4 x5 1 0 J hx3 hx4 hx5 (⟨by decide, by decide⟩ : inR (1)) (⟨by decide, by decide⟩ : inR (0)) hm hw
      by_cases c3 : (J 1015 a1) = 3
      · have hw := hw.2.2.1 c3
        refine q_swIn F 2 (hm _ _) 449 dX12_isBroken_61 (c3.trans (by decide)) (by decide) rfl (by decide) ?_
        refine q_aload_n F 0 dX12_isBroken_449 rfl rfl ?_
        refine q_iload_n F 1 dX12_isBroken_450 rfl rfl ?_
        refine q_aload_n F 2 dX12_isBroken_451 rfl rfl ?_
        refine q_ViM F (kcX12_isPairBroken hm ha1 ha2 hw) (by decide) meObj (ci := 10) rfl (bV wd1037 wd1038 wd1313 wd13 wd1039) rfl ⟨rfl, rfl⟩ ydX12_isPairBroken (rmK_le hR (by omega) (by decide)) (av := [iV a1, .ref (E.1 a2)]) rfl rfl (Nat.le_of_ble_eq_true rfl) dX12_isBroken_452 (rmK_cs hR (by omega) (by omega)) (fun r4 J5 h6 m7 hw => ?_)
        obtain ⟨k8, hw⟩ := hw
        exact hret _ _ _ _ _ dX12_isBroken_455 k8 h6 m7 hw
      by_cases c4 : (J 1015 a1) = 4
      · have hw := hw.2.2.2.1 c4
        refine q_swIn F 3 (hm _ _) 449 dX12_isBroken_61 (c4.trans (by decide)) (by decide) rfl (by decide) ?_
        refine q_aload_n F 0 dX12_isBroken_449 rfl rfl ?_
        refine q_iload_n F 1 dX12_isBroken_450 rfl rfl ?_
        refine q_aload_n F 2 dX12_isBroken_451 rfl rfl ?_
        refine q_ViM F (kcX12_isPairBroken hm ha1 ha2 hw) (by decide) meObj (ci := 10) rfl (bV wd1037 wd1038 wd1313 wd13 wd1039) rfl ⟨rfl, rfl⟩ ydX12_isPairBroken (rmK_le hR (by omega) (by decide)) (av := [iV a1, .ref (E.1 a2)]) rfl rfl (Nat.le_of_ble_eq_true rfl) dX12_isBroken_452 (rmK_cs hR (by omega) (by omega)) (fun r9 J10 h11 m12 hw => ?_)
        obtain ⟨k13, hw⟩ := hw
        exact hret _ _ _ _ _ dX12_isBroken_455 k13 h11 m12 hw
      by_cases c5 : (J 1015 a1) = 5
      · have hw := hw.2.2.2.2.1 c5
        refine q_swIn F 4 (hm _ _) 261 dX12_isBroken_61 (c5.trans (by decide)) (by decide) rfl (by decide) ?_
        refine q_iload F 5 dX12_isBroken_261 rfl ?_
        refine q_if_ne F hx5 281 dX12_isBroken_263 (by decide) (fun hc => ?_) (fun hc => ?_)
        · have hw := hw.1 hc
          refine q_iconst F dX12_isBroken_281 ?_
          exact hret _ _ _ _ _ dX12_isBroken_282 (Or.inl rfl) (⟨by decide, by decide⟩ : inR (0)) hm hw
        · have hw := hw.2 hc
          refine q_aload_n F 0 dX12_isBroken_266 rfl rfl ?_
          refine q_iload_n F 1 dX12_isBroken_267 rfl rfl ?_
          refine q_aload_n F 2 dX12_isBroken_268 rfl rfl ?_
          refine q_ViM F (kcX12_seen hm ha1 ha2 hw) (by decide) meObj (ci := 10) rfl (bV wd1034 wd1035 wd1312 wd13 wd1036) rfl ⟨rfl, rfl⟩ ydX12_seen (rmK_le hR (by omega) (by decide)) (av := [iV a1, .ref (E.1 a2)]) rfl rfl (Nat.le_of_ble_eq_true rfl) dX12_isBroken_269 (rmK_cs hR (by omega) (by omega)) (fun r14 J15 h16 m17 hw => ?_)
          refine q_iload F 4 dX12_isBroken_272 rfl ?_
          refine q_icmp_eq F h16 hx4 281 dX12_isBroken_274 (by decide) (fun hc => ?_) (fun hc => ?_)
          · have hw := hw.1 hc
            refine q_iconst F dX12_isBroken_281 ?_
            exact hret _ _ _ _ _ dX12_isBroken_282 (Or.inl rfl) (⟨by decide, by decide⟩ : inR (0)) m17 hw
          · have hw := hw.2 hc
            refine q_iconst F dX12_isBroken_277 ?_
            refine q_goto F 282 dX12_isBroken_278 (by decide) ?_
            exact hret _ _ _ _ _ dX12_isBroken_282 (Or.inr rfl) (⟨by decide, by decide⟩ : inR (1)) m17 hw
      by_cases c6 : (J 1015 a1) = 6
      · have hw := hw.2.2.2.2.2.1 c6
        refine q_swIn F 5 (hm _ _) 356 dX12_isBroken_61 (c6.trans (by decide)) (by decide) rfl (by decide) ?_
        refine q_iconst F dX12_isBroken_356 ?_
        refine q_istore (lv' := [(0, .ref (E.1 1000)), (1, iV a1), (2, .ref (E.1 a2)), (3, iV x3), (4, iV x4), (5, iV x5), (6, iV 0)]) F [1, 2, 3, 4, 5, 6, 0] dX12_isBroken_357 (q_n hN (by decide)) rfl ?_
        refine q_iconst F dX12_isBroken_359 ?_
        refine q_istore (lv' := [(0, .ref (E.1 1000)), (1, iV a1), (2, .ref (E.1 a2)), (3, iV x3), (4, iV x4), (5, iV x5), (6, iV 0), (7, iV 0)]) F [1, 2, 3, 4, 5, 6, 7, 0] dX12_isBroken_360 (q_n hN (by decide)) rfl ?_
        refine q_lv [0, 1, 2, 3, 4, 6, 7] rfl ?_
        obtain ⟨n18, hw⟩ := hw
        exact bX12_isBroken_362 F hR hN hret ha1 ha2 n18 x3 x4 0 0 J hx3 hx4 (⟨by decide, by decide⟩ : inR (0)) (⟨by decide, by decide⟩ : inR (0)) hm hw
      by_cases c7 : (J 1015 a1) = 7
      · have hw := hw.2.2.2.2.2.2.1 c7
        refine q_swIn F 6 (hm _ _) 356 dX12_isBroken_61 (c7.trans (by decide)) (by decide) rfl (by decide) ?_
        refine q_iconst F dX12_isBroken_356 ?_
        refine q_istore (lv' := [(0, .ref (E.1 1000)), (1, iV a1), (2, .ref (E.1 a2)), (3, iV x3), (4, iV x4), (5, iV x5), (6, iV 0)]) F [1, 2, 3, 4, 5, 6, 0] dX12_isBroken_357 (q_n hN (by decide)) rfl ?_
        refine q_iconst F dX12_isBroken_359 ?_
        refine q_istore (lv' := [(0, .ref (E.1 1000)), (1, iV a1), (2, .ref (E.1 a2)), (3, iV x3), (4, iV x4), (5, iV x5), (6, iV 0), (7, iV 0)]) F [1, 2, 3, 4, 5, 6, 7, 0] dX12_isBroken_360 (q_n hN (by decide)) rfl ?_
        refine q_lv [0, 1, 2, 3, 4, 6, 7] rfl ?_
        obtain ⟨n19, hw⟩ := hw
        exact bX12_isBroken_362 F hR hN hret ha1 ha2 n19 x3 x4 0 0 J hx3 hx4 (⟨by decide, by decide⟩ : inR (0)) (⟨by decide, by decide⟩ : inR (0)) hm hw
      by_cases c8 : (J 1015 a1) = 8
      · have hw := hw.2.2.2.2.2.2.2.1 c8
        refine q_swIn F 7 (hm _ _) 283 dX12_isBroken_61 (c8.trans (by decide)) (by decide) rfl (by decide) ?_
        refine q_iconst F dX12_isBroken_283 ?_
        refine q_istore (lv' := [(0, .ref (E.1 1000)), (1, iV a1), (2, .ref (E.1 a2)), (3, iV x3), (4, iV x4), (5, iV x5), (6, iV 0)]) F [1, 2, 3, 4, 5, 6, 0] dX12_isBroken_284 (q_n hN (by decide)) rfl ?_
        refine q_iconst F dX12_isBroken_286 ?_
        refine q_istore (lv' := [(0, .ref (E.1 1000)), (1, iV a1), (2, .ref (E.1 a2)), (3, iV x3), (4, iV x4), (5, iV x5), (6, iV 0), (7, iV 0)]) F [1, 2, 3, 4, 5, 6, 7, 0] dX12_isBroken_287 (q_n hN (by decide)) rfl ?_
        obtain ⟨n20, hw⟩ := hw
        exact bX12_isBroken_289 F hR hN hret ha1 ha2 n20 x3 x4 x5 0 0 J hx3 hx4 hx5 (⟨by decide, by decide⟩ : inR (0)) (⟨by decide, by decide⟩ : inR (0)) hm hw
      by_cases c9 : (J 1015 a1) = 9
      · have hw := hw.2.2.2.2.2.2.2.2.1 c9
        refine q_swIn F 8 (hm _ _) 356 dX12_isBroken_61 (c9.trans (by decide)) (by decide) rfl (by decide) ?_
        refine q_iconst F dX12_isBroken_356 ?_
        refine q_istore (lv' := [(0, .ref (E.1 1000)), (1, iV a1), (2, .ref (E.1 a2)), (3, iV x3), (4, iV x4), (5, iV x5), (6, iV 0)]) F [1, 2, 3, 4, 5, 6, 0] dX12_isBroken_357 (q_n hN (by decide)) rfl ?_
        refine q_iconst F dX12_isBroken_359 ?_
        refine q_istore (lv' := [(0, .ref (E.1 1000)), (1, iV a1), (2, .ref (E.1 a2)), (3, iV x3), (4, iV x4), (5, iV x5), (6, iV 0), (7, iV 0)]) F [1, 2, 3, 4, 5, 6, 7, 0] dX12_isBroken_360 (q_n hN (by decide)) rfl ?_
        refine q_lv [0, 1, 2, 3, 4, 6, 7] rfl ?_
        obtain ⟨n21, hw⟩ := hw
        exact bX12_isBroken_362 F hR hN hret ha1 ha2 n21 x3 x4 0 0 J hx3 hx4 (⟨by decide, by decide⟩ : inR (0)) (⟨by decide, by decide⟩ : inR (0)) hm hw
      have hw := hw.2.2.2.2.2.2.2.2.2 c1 c2 c3 c4 c5 c6 c7 c8 c9
      refine q_swOut F (hm _ _) 449 dX12_isBroken_61 (by omega) (by decide) ?_
      refine q_aload_n F 0 dX12_isBroken_449 rfl rfl ?_
      refine q_iload_n F 1 dX12_isBroken_450 rfl rfl ?_
      refine q_aload_n F 2 dX12_isBroken_451 rfl rfl ?_
      refine q_ViM F (kcX12_isPairBroken hm ha1 ha2 hw) (by decide) meObj (ci := 10) rfl (bV wd1037 wd1038 wd1313 wd13 wd1039) rfl ⟨rfl, rfl⟩ ydX12_isPairBroken (rmK_le hR (by omega) (by decide)) (av := [iV a1, .ref (E.1 a2)]) rfl rfl (Nat.le_of_ble_eq_true rfl) dX12_isBroken_452 (rmK_cs hR (by omega) (by omega)) (fun r22 J23 h24 m25 hw => ?_)
      obtain ⟨k26, hw⟩ := hw
      exact hret _ _ _ _ _ dX12_isBroken_455 k26 h24 m25 hw
    · have hw := hw.2 hc
      refine q_iload F 5 dX12_isBroken_27 rfl ?_
      refine q_aload_n F 2 dX12_isBroken_29 rfl rfl ?_
      refine q_aload_n F 0 dX12_isBroken_30 rfl rfl ?_
      refine q_iload_n F 1 dX12_isBroken_31 rfl rfl ?_
      refine q_iload F 6 dX12_isBroken_32 rfl ?_
      refine q_ViM F (kcX12_cellOf hm ha1 hx6 hw) (by decide) meObj (ci := 10) rfl (bV wd1030 wd1031 wd1311 wd13 wd1032) rfl ⟨rfl, rfl⟩ ydX12_cellOf (rmK_le hR (by omega) (by decide)) (av := [iV a1, iV x6]) rfl rfl (Nat.le_of_ble_eq_true rfl) dX12_isBroken_34 (rmK_cs hR (by omega) (by omega)) (fun r27 J28 h29 m30 hw => ?_)
      obtain ⟨k31, hw⟩ := hw
      refine s_ald F 25 ha2 k31 (by decide) dX12_isBroken_37 ?_
      refine q_if_ne F (m30 _ _) 45 dX12_isBroken_38 (by decide) (fun hc => ?_) (fun hc => ?_)
      · have hw := hw.1 hc
        refine q_iconst F dX12_isBroken_45 ?_
        refine q_iadd F dX12_isBroken_46 ?_
        obtain ⟨k32, hw⟩ := hw
        obtain ⟨z33, e34⟩ := ex1 ((x5 + 0))
        have hw := hw z33 e34
        have hz33 : inR z33 := by rw [e34]; exact k32
        refine q_top e34 ?_
        refine q_istore (lv' := [(0, .ref (E.1 1000)), (1, iV a1), (2, .ref (E.1 a2)), (3, iV x3), (4, iV x4), (5, iV z33), (6, iV x6)]) F [1, 2, 3, 4, 5, 0, 6] dX12_isBroken_47 (q_n hN (by decide)) rfl ?_
        obtain ⟨k37, hw⟩ := hw
        obtain ⟨z35, e36⟩ := ex1 (x6 + 1)
        have hw := hw z35 e36
        have hz35 : inR z35 := by rw [e36]; exact k37
        refine q_iinc (lv' := [(0, .ref (E.1 1000)), (1, iV a1), (2, .ref (E.1 a2)), (3, iV x3), (4, iV x4), (5, iV z33), (6, iV z35)]) F 6 [1, 2, 3, 4, 5, 6, 0] dX12_isBroken_49 rfl (q_n hN (by decide)) e36.symm rfl ?_
        refine q_goto F 21 dX12_isBroken_52 (by decide) ?_
        exact ih x3 x4 z33 z35 J28 hx3 hx4 hz33 hz35 m30 hw
      · have hw := hw.2 hc
        refine q_iconst F dX12_isBroken_41 ?_
        refine q_goto F 46 dX12_isBroken_42 (by decide) ?_
        refine q_iadd F dX12_isBroken_46 ?_
        obtain ⟨k38, hw⟩ := hw
        obtain ⟨z39, e40⟩ := ex1 ((x5 + 1))
        have hw := hw z39 e40
        have hz39 : inR z39 := by rw [e40]; exact k38
        refine q_top e40 ?_
        refine q_istore (lv' := [(0, .ref (E.1 1000)), (1, iV a1), (2, .ref (E.1 a2)), (3, iV x3), (4, iV x4), (5, iV z39), (6, iV x6)]) F [1, 2, 3, 4, 5, 0, 6] dX12_isBroken_47 (q_n hN (by decide)) rfl ?_
        obtain ⟨k43, hw⟩ := hw
        obtain ⟨z41, e42⟩ := ex1 (x6 + 1)
        have hw := hw z41 e42
        have hz41 : inR z41 := by rw [e42]; exact k43
        refine q_iinc (lv' := [(0, .ref (E.1 1000)), (1, iV a1), (2, .ref (E.1 a2)), (3, iV x3), (4, iV x4), (5, iV z39), (6, iV z41)]) F 6 [1, 2, 3, 4, 5, 6, 0] dX12_isBroken_49 rfl (q_n hN (by decide)) e42.symm rfl ?_
        refine q_goto F 21 dX12_isBroken_52 (by decide) ?_
        exact ih x3 x4 z39 z41 J28 hx3 hx4 hz39 hz41 m30 hw
set_option maxHeartbeats 4000000 in
set_option maxRecDepth 100000 in
theorem kcX12_isBroken {l : Launch} {D : va_G} {E : cE} {a1 : Int} {a2 : Nat} {J : cI} (hm : mM J) (ha1 : inR a1) (ha2 : isM 25 a2) {Q : Int → cI → Prop} (hw : wX12_isBroken a1 a2 J Q) : gM l D E mIds yX12_isBroken vX12_isBroken (rmK 3 (0) (0)) [.ref (E.1 1000), iV a1, .ref (E.1 a2)] (mef E J) (mef E) (oI Q) (0) (0) := by
  unfold wX12_isBroken at hw
  refine k_ofW (own := RX12) (cc := cX12_isBroken) (maxL := 10) (ret := (some .boolean)) (lv := [(0, .ref (E.1 1000)), (1, iV a1), (2, .ref (E.1 a2))]) (by decide) rfl rfl (Nat.le_of_ble_eq_true rfl) rfl ?_
  intro X hl hR hN hD F K
  subst hl; subst hD
  have hret := mk_rZM (Q := Q) F K
  refine q_aload_n F 0 dX12_isBroken_0 rfl rfl ?_
  refine s_g_ruleSize F ib12 wd891 dX12_isBroken_1 ?_
  refine q_iload_n F 1 dX12_isBroken_4 rfl rfl ?_
  obtain ⟨k1, hw⟩ := hw
  refine s_ald F 70 kM_ruleSize k1 (by decide) dX12_isBroken_5 ?_
  obtain ⟨z2, e3⟩ := ex1 ((J 1018 a1))
  have hw := hw z2 e3
  have hz2 : inR z2 := by rw [e3]; exact (hm _ _)
  refine q_top e3 ?_
  refine q_istore_n (lv' := [(0, .ref (E.1 1000)), (1, iV a1), (2, .ref (E.1 a2)), (3, iV z2)]) F [1, 2, 3, 0] dX12_isBroken_6 rfl (q_n hN (by decide)) rfl ?_
  refine q_aload_n F 0 dX12_isBroken_7 rfl rfl ?_
  refine s_g_ruleNumber F ib12 wd889 dX12_isBroken_8 ?_
  refine q_iload_n F 1 dX12_isBroken_11 rfl rfl ?_
  obtain ⟨k4, hw⟩ := hw
  refine s_ald F 70 kM_ruleNumber k4 (by decide) dX12_isBroken_12 ?_
  obtain ⟨z5, e6⟩ := ex1 ((J 1016 a1))
  have hw := hw z5 e6
  have hz5 : inR z5 := by rw [e6]; exact (hm _ _)
  refine q_top e6 ?_
  refine q_istore (lv' := [(0, .ref (E.1 1000)), (1, iV a1), (2, .ref (E.1 a2)), (3, iV z2), (4, iV z5)]) F [1, 2, 3, 4, 0] dX12_isBroken_13 (q_n hN (by decide)) rfl ?_
  refine q_iconst F dX12_isBroken_15 ?_
  refine q_istore (lv' := [(0, .ref (E.1 1000)), (1, iV a1), (2, .ref (E.1 a2)), (3, iV z2), (4, iV z5), (5, iV 0)]) F [1, 2, 3, 4, 5, 0] dX12_isBroken_16 (q_n hN (by decide)) rfl ?_
  refine q_iconst F dX12_isBroken_18 ?_
  refine q_istore (lv' := [(0, .ref (E.1 1000)), (1, iV a1), (2, .ref (E.1 a2)), (3, iV z2), (4, iV z5), (5, iV 0), (6, iV 0)]) F [1, 2, 3, 4, 5, 6, 0] dX12_isBroken_19 (q_n hN (by decide)) rfl ?_
  obtain ⟨n7, hw⟩ := hw
  exact bX12_isBroken_21 F hR hN hret ha1 ha2 n7 z2 z5 0 0 J hz2 hz5 (⟨by decide, by decide⟩ : inR (0)) (⟨by decide, by decide⟩ : inR (0)) hm hw
theorem ydX12_filled : yX12_filled.cls = RX12 ∧ yX12_filled.cls ≠ "java/lang/invoke/MethodHandle" ∧ yX12_filled.cls ≠ "java/lang/invoke/VarHandle" ∧ (parseMethodDescriptor yX12_filled.desc).map (fun d => d.parameters.length) = some 0 := by decide +kernel
def vX12_filled : List Cond := Cond.code yX12_filled cX12_filled 3 (some .int) :: bG
set_option maxHeartbeats 4000000 in
set_option maxRecDepth 100000 in
theorem bX12_filled_4 {X : xC} {E : cE} (F : mF X E RX12 cX12_filled bG) (hR : X.1.2.2.2 = rmK 2 (0) (0)) (hN : X.2.2.1.2.2.2 = 3) {Q : Int → cI → Prop} (hret : rIM X E cX12_filled (0) (0) Q)   : ∀ n4 : Nat, ∀ (x1 : Int) (x2 : Int) (J : cI), inR x1 → inR x2 → mM J → wX12_filled_4 Q n4 x1 x2 J → cW X (0) (0) 4 [(0, .ref (E.1 1000)), (1, iV x1), (2, iV x2)] [] (gw E.1 mIds (mef E J) ++ []) := by
  intro n4
  induction n4 with
  | zero => intro x1 x2 J hx1 hx2 hm hw; exact hw.elim
  | succ n4 ih =>
    intro x1 x2 J hx1 hx2 hm hw
    change wbX12_filled_4 Q (wX12_filled_4 Q n4) x1 x2 J at hw
    unfold wbX12_filled_4 at hw
    refine q_iload_n F 2 dX12_filled_4 rfl rfl ?_
    refine q_aload_n F 0 dX12_filled_5 rfl rfl ?_
    refine q_ViM F (kcX12_cells hm hw) (by decide) meObj (ci := 10) rfl (bV wd1003 wd1004 wd1305 wd13 wd1005) rfl ⟨rfl, rfl⟩ ydX12_cells (rmK_le hR (by omega) (by decide)) (av := []) rfl rfl (Nat.le_of_ble_eq_true rfl) dX12_filled_6 (rmK_cs hR (by omega) (by omega)) (fun r1 J2 h3 m4 hw => ?_)
    refine q_icmp_ge F hx2 h3 35 dX12_filled_9 (by decide) (fun hc => ?_) (fun hc => ?_)
    · have hw := hw.1 hc
      refine q_iload_n F 1 dX12_filled_35 rfl rfl ?_
      exact hret _ _ _ _ _ dX12_filled_36 hx1 m4 hw
    · have hw := hw.2 hc
      refine q_iload_n F 1 dX12_filled_12 rfl rfl ?_
      refine q_aload_n F 0 dX12_filled_13 rfl rfl ?_
      refine s_g_grid F ib12 wd893 dX12_filled_14 ?_
      refine q_iload_n F 2 dX12_filled_17 rfl rfl ?_
      obtain ⟨k5, hw⟩ := hw
      refine s_ald F 25 kM_grid k5 (by decide) dX12_filled_18 ?_
      refine q_if_le F (m4 _ _) 26 dX12_filled_19 (by decide) (fun hc => ?_) (fun hc => ?_)
      · have hw := hw.1 hc
        refine q_iconst F dX12_filled_26 ?_
        refine q_iadd F dX12_filled_27 ?_
        obtain ⟨k6, hw⟩ := hw
        obtain ⟨z7, e8⟩ := ex1 ((x1 + 0))
        have hw := hw z7 e8
        have hz7 : inR z7 := by rw [e8]; exact k6
        refine q_top e8 ?_
        refine q_istore_n (lv' := [(0, .ref (E.1 1000)), (1, iV z7), (2, iV x2)]) F [1, 0, 2] dX12_filled_28 rfl (q_n hN (by decide)) rfl ?_
        obtain ⟨k11, hw⟩ := hw
        obtain ⟨z9, e10⟩ := ex1 (x2 + 1)
        have hw := hw z9 e10
        have hz9 : inR z9 := by rw [e10]; exact k11
        refine q_iinc (lv' := [(0, .ref (E.1 1000)), (1, iV z7), (2, iV z9)]) F 2 [1, 2, 0] dX12_filled_29 rfl (q_n hN (by decide)) e10.symm rfl ?_
        refine q_goto F 4 dX12_filled_32 (by decide) ?_
        exact ih z7 z9 J2 hz7 hz9 m4 hw
      · have hw := hw.2 hc
        refine q_iconst F dX12_filled_22 ?_
        refine q_goto F 27 dX12_filled_23 (by decide) ?_
        refine q_iadd F dX12_filled_27 ?_
        obtain ⟨k12, hw⟩ := hw
        obtain ⟨z13, e14⟩ := ex1 ((x1 + 1))
        have hw := hw z13 e14
        have hz13 : inR z13 := by rw [e14]; exact k12
        refine q_top e14 ?_
        refine q_istore_n (lv' := [(0, .ref (E.1 1000)), (1, iV z13), (2, iV x2)]) F [1, 0, 2] dX12_filled_28 rfl (q_n hN (by decide)) rfl ?_
        obtain ⟨k17, hw⟩ := hw
        obtain ⟨z15, e16⟩ := ex1 (x2 + 1)
        have hw := hw z15 e16
        have hz15 : inR z15 := by rw [e16]; exact k17
        refine q_iinc (lv' := [(0, .ref (E.1 1000)), (1, iV z13), (2, iV z15)]) F 2 [1, 2, 0] dX12_filled_29 rfl (q_n hN (by decide)) e16.symm rfl ?_
        refine q_goto F 4 dX12_filled_32 (by decide) ?_
        exact ih z13 z15 J2 hz13 hz15 m4 hw
set_option maxHeartbeats 4000000 in
set_option maxRecDepth 100000 in
theorem kcX12_filled {l : Launch} {D : va_G} {E : cE} {J : cI} (hm : mM J)  {Q : Int → cI → Prop} (hw : wX12_filled  J Q) : gM l D E mIds yX12_filled vX12_filled (rmK 2 (0) (0)) [.ref (E.1 1000)] (mef E J) (mef E) (oI Q) (0) (0) := by
  unfold wX12_filled at hw
  refine k_ofW (own := RX12) (cc := cX12_filled) (maxL := 3) (ret := (some .int)) (lv := [(0, .ref (E.1 1000))]) (by decide) rfl rfl (Nat.le_of_ble_eq_true rfl) rfl ?_
  intro X hl hR hN hD F K
  subst hl; subst hD
  have hret := mk_rIM (Q := Q) F K
  refine q_iconst F dX12_filled_0 ?_
  refine q_istore_n (lv' := [(0, .ref (E.1 1000)), (1, iV 0)]) F [1, 0] dX12_filled_1 rfl (q_n hN (by decide)) rfl ?_
  refine q_iconst F dX12_filled_2 ?_
  refine q_istore_n (lv' := [(0, .ref (E.1 1000)), (1, iV 0), (2, iV 0)]) F [1, 2, 0] dX12_filled_3 rfl (q_n hN (by decide)) rfl ?_
  obtain ⟨n1, hw⟩ := hw
  exact bX12_filled_4 F hR hN hret n1 0 0 J (⟨by decide, by decide⟩ : inR (0)) (⟨by decide, by decide⟩ : inR (0)) hm hw
theorem ydX12_broken : yX12_broken.cls = RX12 ∧ yX12_broken.cls ≠ "java/lang/invoke/MethodHandle" ∧ yX12_broken.cls ≠ "java/lang/invoke/VarHandle" ∧ (parseMethodDescriptor yX12_broken.desc).map (fun d => d.parameters.length) = some 0 := by decide +kernel
def vX12_broken : List Cond := Cond.code yX12_broken cX12_broken 3 (some .int) :: bG
set_option maxHeartbeats 4000000 in
set_option maxRecDepth 100000 in
theorem bX12_broken_4 {X : xC} {E : cE} (F : mF X E RX12 cX12_broken bG) (hR : X.1.2.2.2 = rmK 4 (0) (0)) (hN : X.2.2.1.2.2.2 = 3) {Q : Int → cI → Prop} (hret : rIM X E cX12_broken (0) (0) Q)   : ∀ n4 : Nat, ∀ (x1 : Int) (x2 : Int) (J : cI), inR x1 → inR x2 → mM J → wX12_broken_4 Q n4 x1 x2 J → cW X (0) (0) 4 [(0, .ref (E.1 1000)), (1, iV x1), (2, iV x2)] [] (gw E.1 mIds (mef E J) ++ []) := by
  intro n4
  induction n4 with
  | zero => intro x1 x2 J hx1 hx2 hm hw; exact hw.elim
  | succ n4 ih =>
    intro x1 x2 J hx1 hx2 hm hw
    change wbX12_broken_4 Q (wX12_broken_4 Q n4) x1 x2 J at hw
    unfold wbX12_broken_4 at hw
    refine q_iload_n F 2 dX12_broken_4 rfl rfl ?_
    refine q_aload_n F 0 dX12_broken_5 rfl rfl ?_
    refine s_g_rules F ib12 wd887 dX12_broken_6 ?_
    refine q_icmp_ge F hx2 (hm _ _) 38 dX12_broken_9 (by decide) (fun hc => ?_) (fun hc => ?_)
    · have hw := hw.1 hc
      refine q_iload_n F 1 dX12_broken_38 rfl rfl ?_
      exact hret _ _ _ _ _ dX12_broken_39 hx1 hm hw
    · have hw := hw.2 hc
      refine q_iload_n F 1 dX12_broken_12 rfl rfl ?_
      refine q_aload_n F 0 dX12_broken_13 rfl rfl ?_
      refine q_iload_n F 2 dX12_broken_14 rfl rfl ?_
      refine q_aload_n F 0 dX12_broken_15 rfl rfl ?_
      refine s_g_grid F ib12 wd893 dX12_broken_16 ?_
      refine q_ViM F (kcX12_isBroken hm hx2 kM_grid hw) (by decide) meObj (ci := 10) rfl (bV wd1027 wd1028 wd1310 wd13 wd1029) rfl ⟨rfl, rfl⟩ ydX12_isBroken (rmK_le hR (by omega) (by decide)) (av := [iV x2, .ref (E.1 1020)]) rfl rfl (Nat.le_of_ble_eq_true rfl) dX12_broken_19 (rmK_cs hR (by omega) (by omega)) (fun r1 J2 h3 m4 hw => ?_)
      refine q_if_eq F h3 29 dX12_broken_22 (by decide) (fun hc => ?_) (fun hc => ?_)
      · have hw := hw.1 hc
        refine q_iconst F dX12_broken_29 ?_
        refine q_iadd F dX12_broken_30 ?_
        obtain ⟨k5, hw⟩ := hw
        obtain ⟨z6, e7⟩ := ex1 ((x1 + 0))
        have hw := hw z6 e7
        have hz6 : inR z6 := by rw [e7]; exact k5
        refine q_top e7 ?_
        refine q_istore_n (lv' := [(0, .ref (E.1 1000)), (1, iV z6), (2, iV x2)]) F [1, 0, 2] dX12_broken_31 rfl (q_n hN (by decide)) rfl ?_
        obtain ⟨k10, hw⟩ := hw
        obtain ⟨z8, e9⟩ := ex1 (x2 + 1)
        have hw := hw z8 e9
        have hz8 : inR z8 := by rw [e9]; exact k10
        refine q_iinc (lv' := [(0, .ref (E.1 1000)), (1, iV z6), (2, iV z8)]) F 2 [1, 2, 0] dX12_broken_32 rfl (q_n hN (by decide)) e9.symm rfl ?_
        refine q_goto F 4 dX12_broken_35 (by decide) ?_
        exact ih z6 z8 J2 hz6 hz8 m4 hw
      · have hw := hw.2 hc
        refine q_iconst F dX12_broken_25 ?_
        refine q_goto F 30 dX12_broken_26 (by decide) ?_
        refine q_iadd F dX12_broken_30 ?_
        obtain ⟨k11, hw⟩ := hw
        obtain ⟨z12, e13⟩ := ex1 ((x1 + 1))
        have hw := hw z12 e13
        have hz12 : inR z12 := by rw [e13]; exact k11
        refine q_top e13 ?_
        refine q_istore_n (lv' := [(0, .ref (E.1 1000)), (1, iV z12), (2, iV x2)]) F [1, 0, 2] dX12_broken_31 rfl (q_n hN (by decide)) rfl ?_
        obtain ⟨k16, hw⟩ := hw
        obtain ⟨z14, e15⟩ := ex1 (x2 + 1)
        have hw := hw z14 e15
        have hz14 : inR z14 := by rw [e15]; exact k16
        refine q_iinc (lv' := [(0, .ref (E.1 1000)), (1, iV z12), (2, iV z14)]) F 2 [1, 2, 0] dX12_broken_32 rfl (q_n hN (by decide)) e15.symm rfl ?_
        refine q_goto F 4 dX12_broken_35 (by decide) ?_
        exact ih z12 z14 J2 hz12 hz14 m4 hw
set_option maxHeartbeats 4000000 in
set_option maxRecDepth 100000 in
theorem kcX12_broken {l : Launch} {D : va_G} {E : cE} {J : cI} (hm : mM J)  {Q : Int → cI → Prop} (hw : wX12_broken  J Q) : gM l D E mIds yX12_broken vX12_broken (rmK 4 (0) (0)) [.ref (E.1 1000)] (mef E J) (mef E) (oI Q) (0) (0) := by
  unfold wX12_broken at hw
  refine k_ofW (own := RX12) (cc := cX12_broken) (maxL := 3) (ret := (some .int)) (lv := [(0, .ref (E.1 1000))]) (by decide) rfl rfl (Nat.le_of_ble_eq_true rfl) rfl ?_
  intro X hl hR hN hD F K
  subst hl; subst hD
  have hret := mk_rIM (Q := Q) F K
  refine q_iconst F dX12_broken_0 ?_
  refine q_istore_n (lv' := [(0, .ref (E.1 1000)), (1, iV 0)]) F [1, 0] dX12_broken_1 rfl (q_n hN (by decide)) rfl ?_
  refine q_iconst F dX12_broken_2 ?_
  refine q_istore_n (lv' := [(0, .ref (E.1 1000)), (1, iV 0), (2, iV 0)]) F [1, 2, 0] dX12_broken_3 rfl (q_n hN (by decide)) rfl ?_
  obtain ⟨n1, hw⟩ := hw
  exact bX12_broken_4 F hR hN hret n1 0 0 J (⟨by decide, by decide⟩ : inR (0)) (⟨by decide, by decide⟩ : inR (0)) hm hw
theorem ydX12_rulesIs : yX12_rulesIs.cls = RX12 ∧ yX12_rulesIs.cls ≠ "java/lang/invoke/MethodHandle" ∧ yX12_rulesIs.cls ≠ "java/lang/invoke/VarHandle" ∧ (parseMethodDescriptor yX12_rulesIs.desc).map (fun d => d.parameters.length) = some 0 := by decide +kernel
def vX12_rulesIs : List Cond := Cond.code yX12_rulesIs cX12_rulesIs 3 (some .int) :: bG
set_option maxHeartbeats 4000000 in
set_option maxRecDepth 100000 in
theorem bX12_rulesIs_4 {X : xC} {E : cE} (F : mF X E RX12 cX12_rulesIs bG) (hR : X.1.2.2.2 = rmK 1 (0) (0)) (hN : X.2.2.1.2.2.2 = 3) {Q : Int → cI → Prop} (hret : rIM X E cX12_rulesIs (0) (0) Q)   : ∀ n4 : Nat, ∀ (x1 : Int) (x2 : Int) (J : cI), inR x1 → inR x2 → mM J → wX12_rulesIs_4 Q n4 x1 x2 J → cW X (0) (0) 4 [(0, .ref (E.1 1000)), (1, iV x1), (2, iV x2)] [] (gw E.1 mIds (mef E J) ++ []) := by
  intro n4
  induction n4 with
  | zero => intro x1 x2 J hx1 hx2 hm hw; exact hw.elim
  | succ n4 ih =>
    intro x1 x2 J hx1 hx2 hm hw
    change wbX12_rulesIs_4 Q (wX12_rulesIs_4 Q n4) x1 x2 J at hw
    unfold wbX12_rulesIs_4 at hw
    refine q_iload_n F 2 dX12_rulesIs_4 rfl rfl ?_
    refine q_aload_n F 0 dX12_rulesIs_5 rfl rfl ?_
    refine s_g_rules F ib12 wd887 dX12_rulesIs_6 ?_
    refine q_icmp_ge F hx2 (hm _ _) 37 dX12_rulesIs_9 (by decide) (fun hc => ?_) (fun hc => ?_)
    · have hw := hw.1 hc
      refine q_iload_n F 1 dX12_rulesIs_37 rfl rfl ?_
      exact hret _ _ _ _ _ dX12_rulesIs_38 hx1 hm hw
    · have hw := hw.2 hc
      refine q_iload_n F 1 dX12_rulesIs_12 rfl rfl ?_
      refine q_aload_n F 0 dX12_rulesIs_13 rfl rfl ?_
      refine s_g_ruleKind F ib12 wd888 dX12_rulesIs_14 ?_
      refine q_iload_n F 2 dX12_rulesIs_17 rfl rfl ?_
      obtain ⟨k1, hw⟩ := hw
      refine s_ald F 70 kM_ruleKind k1 (by decide) dX12_rulesIs_18 ?_
      refine q_bipush F dX12_rulesIs_19 (by decide) ?_
      refine q_icmp_ne F (hm _ _) (⟨by decide, by decide⟩ : inR (9)) 28 dX12_rulesIs_21 (by decide) (fun hc => ?_) (fun hc => ?_)
      · have hw := hw.1 hc
        refine q_iconst F dX12_rulesIs_28 ?_
        refine q_iadd F dX12_rulesIs_29 ?_
        obtain ⟨k2, hw⟩ := hw
        obtain ⟨z3, e4⟩ := ex1 ((x1 + 0))
        have hw := hw z3 e4
        have hz3 : inR z3 := by rw [e4]; exact k2
        refine q_top e4 ?_
        refine q_istore_n (lv' := [(0, .ref (E.1 1000)), (1, iV z3), (2, iV x2)]) F [1, 0, 2] dX12_rulesIs_30 rfl (q_n hN (by decide)) rfl ?_
        obtain ⟨k7, hw⟩ := hw
        obtain ⟨z5, e6⟩ := ex1 (x2 + 1)
        have hw := hw z5 e6
        have hz5 : inR z5 := by rw [e6]; exact k7
        refine q_iinc (lv' := [(0, .ref (E.1 1000)), (1, iV z3), (2, iV z5)]) F 2 [1, 2, 0] dX12_rulesIs_31 rfl (q_n hN (by decide)) e6.symm rfl ?_
        refine q_goto F 4 dX12_rulesIs_34 (by decide) ?_
        exact ih z3 z5 J hz3 hz5 hm hw
      · have hw := hw.2 hc
        refine q_iconst F dX12_rulesIs_24 ?_
        refine q_goto F 29 dX12_rulesIs_25 (by decide) ?_
        refine q_iadd F dX12_rulesIs_29 ?_
        obtain ⟨k8, hw⟩ := hw
        obtain ⟨z9, e10⟩ := ex1 ((x1 + 1))
        have hw := hw z9 e10
        have hz9 : inR z9 := by rw [e10]; exact k8
        refine q_top e10 ?_
        refine q_istore_n (lv' := [(0, .ref (E.1 1000)), (1, iV z9), (2, iV x2)]) F [1, 0, 2] dX12_rulesIs_30 rfl (q_n hN (by decide)) rfl ?_
        obtain ⟨k13, hw⟩ := hw
        obtain ⟨z11, e12⟩ := ex1 (x2 + 1)
        have hw := hw z11 e12
        have hz11 : inR z11 := by rw [e12]; exact k13
        refine q_iinc (lv' := [(0, .ref (E.1 1000)), (1, iV z9), (2, iV z11)]) F 2 [1, 2, 0] dX12_rulesIs_31 rfl (q_n hN (by decide)) e12.symm rfl ?_
        refine q_goto F 4 dX12_rulesIs_34 (by decide) ?_
        exact ih z9 z11 J hz9 hz11 hm hw
set_option maxHeartbeats 4000000 in
set_option maxRecDepth 100000 in
theorem kcX12_rulesIs {l : Launch} {D : va_G} {E : cE} {J : cI} (hm : mM J)  {Q : Int → cI → Prop} (hw : wX12_rulesIs  J Q) : gM l D E mIds yX12_rulesIs vX12_rulesIs (rmK 1 (0) (0)) [.ref (E.1 1000)] (mef E J) (mef E) (oI Q) (0) (0) := by
  unfold wX12_rulesIs at hw
  refine k_ofW (own := RX12) (cc := cX12_rulesIs) (maxL := 3) (ret := (some .int)) (lv := [(0, .ref (E.1 1000))]) (by decide) rfl rfl (Nat.le_of_ble_eq_true rfl) rfl ?_
  intro X hl hR hN hD F K
  subst hl; subst hD
  have hret := mk_rIM (Q := Q) F K
  refine q_iconst F dX12_rulesIs_0 ?_
  refine q_istore_n (lv' := [(0, .ref (E.1 1000)), (1, iV 0)]) F [1, 0] dX12_rulesIs_1 rfl (q_n hN (by decide)) rfl ?_
  refine q_iconst F dX12_rulesIs_2 ?_
  refine q_istore_n (lv' := [(0, .ref (E.1 1000)), (1, iV 0), (2, iV 0)]) F [1, 2, 0] dX12_rulesIs_3 rfl (q_n hN (by decide)) rfl ?_
  obtain ⟨n1, hw⟩ := hw
  exact bX12_rulesIs_4 F hR hN hret n1 0 0 J (⟨by decide, by decide⟩ : inR (0)) (⟨by decide, by decide⟩ : inR (0)) hm hw
theorem ydX12_counted : yX12_counted.cls = RX12 ∧ yX12_counted.cls ≠ "java/lang/invoke/MethodHandle" ∧ yX12_counted.cls ≠ "java/lang/invoke/VarHandle" ∧ (parseMethodDescriptor yX12_counted.desc).map (fun d => d.parameters.length) = some 1 := by decide +kernel
def vX12_counted : List Cond := Cond.code yX12_counted cX12_counted 3 (some .int) :: bG
set_option maxHeartbeats 4000000 in
set_option maxRecDepth 100000 in
theorem kcX12_counted {l : Launch} {D : va_G} {E : cE} {a1 : Int} {J : cI} (hm : mM J) (ha1 : inR a1) {Q : Int → cI → Prop} (hw : wX12_counted a1 J Q) : gM l D E mIds yX12_counted vX12_counted (rmK 5 (1) (11)) [.ref (E.1 1000), iV a1] (mef E J) (mef E) (oI Q) (1) (11) := by
  unfold wX12_counted at hw
  refine k_ofW (own := RX12) (cc := cX12_counted) (maxL := 3) (ret := (some .int)) (lv := [(0, .ref (E.1 1000)), (1, iV a1)]) (by decide) rfl rfl (Nat.le_of_ble_eq_true rfl) rfl ?_
  intro X hl hR hN hD F K
  subst hl; subst hD
  have hret := mk_rIM (Q := Q) F K
  refine q_bipush F dX12_counted_0 (by decide) ?_
  obtain ⟨f2, e3⟩ := ex1 (fun _ : Int => (0 : Int))
  have hw := hw f2 e3
  have gf2 : ∀ x, inR (f2 x) := by rw [e3]; exact fun _ => ti_0
  refine g_tnew F wd45 11 rfl (by decide) (rmK_cs (a := 1) (b := 0) (ns := 0) hR (by omega) (by omega)).1 (rmK_cs (a := 0) (nc := 0) hR (by omega) (by omega)).2 dX12_counted_2 (T' := fun q1 => [(q1, iA E 11 f2)]) (fun q1 => by rw [e3]; rfl) (fun q1 => ?_)
  refine q_dup F dX12_counted_4 rfl ?_
  refine q_iconst F dX12_counted_5 ?_
  refine q_aload_n F 0 dX12_counted_6 rfl rfl ?_
  refine s_g_w F ib12 wd884 dX12_counted_7 ?_
  obtain ⟨f4, e5⟩ := ex1 (upF f2 0 ((J 1000 11)))
  have hw := hw f4 e5
  have gf4 : ∀ x, inR (f4 x) := upF_in gf2 e5 (hm _ _)
  refine g_tast F 0 rfl (⟨by decide, by decide⟩ : 0 ≤ (0 : Int) ∧ (0 : Int) < 11) (by decide) (T' := [(q1, iA E 11 f4)]) (by rw [e5]; rfl) dX12_counted_10 ?_
  refine q_dup F dX12_counted_11 rfl ?_
  refine q_iconst F dX12_counted_12 ?_
  refine q_aload_n F 0 dX12_counted_13 rfl rfl ?_
  refine s_g_h F ib12 wd885 dX12_counted_14 ?_
  obtain ⟨f6, e7⟩ := ex1 (upF f4 1 ((J 1000 12)))
  have hw := hw f6 e7
  have gf6 : ∀ x, inR (f6 x) := upF_in gf4 e7 (hm _ _)
  refine g_tast F 0 rfl (⟨by decide, by decide⟩ : 0 ≤ (1 : Int) ∧ (1 : Int) < 11) (by decide) (T' := [(q1, iA E 11 f6)]) (by rw [e7]; rfl) dX12_counted_17 ?_
  refine q_dup F dX12_counted_18 rfl ?_
  refine q_iconst F dX12_counted_19 ?_
  refine q_aload_n F 0 dX12_counted_20 rfl rfl ?_
  refine s_g_k F ib12 wd886 dX12_counted_21 ?_
  obtain ⟨f8, e9⟩ := ex1 (upF f6 2 ((J 1000 13)))
  have hw := hw f8 e9
  have gf8 : ∀ x, inR (f8 x) := upF_in gf6 e9 (hm _ _)
  refine g_tast F 0 rfl (⟨by decide, by decide⟩ : 0 ≤ (2 : Int) ∧ (2 : Int) < 11) (by decide) (T' := [(q1, iA E 11 f8)]) (by rw [e9]; rfl) dX12_counted_24 ?_
  refine q_dup F dX12_counted_25 rfl ?_
  refine q_iconst F dX12_counted_26 ?_
  refine q_aload_n F 0 dX12_counted_27 rfl rfl ?_
  refine s_g_rules F ib12 wd887 dX12_counted_28 ?_
  obtain ⟨f10, e11⟩ := ex1 (upF f8 3 ((J 1000 14)))
  have hw := hw f10 e11
  have gf10 : ∀ x, inR (f10 x) := upF_in gf8 e11 (hm _ _)
  refine g_tast F 0 rfl (⟨by decide, by decide⟩ : 0 ≤ (3 : Int) ∧ (3 : Int) < 11) (by decide) (T' := [(q1, iA E 11 f10)]) (by rw [e11]; rfl) dX12_counted_31 ?_
  refine q_dup F dX12_counted_32 rfl ?_
  refine q_iconst F dX12_counted_33 ?_
  refine q_aload_n F 0 dX12_counted_34 rfl rfl ?_
  refine q_ViM F (kcX12_rulesIs hm hw) (by decide) meObj (ci := 10) rfl (bV wd1018 wd1019 wd1307 wd13 wd1020) rfl ⟨rfl, rfl⟩ ydX12_rulesIs (rmK_le hR (by omega) (by decide)) (av := []) rfl rfl (Nat.le_of_ble_eq_true rfl) dX12_counted_35 (rmK_cs hR (by omega) (by omega)) (fun r12 J13 h14 m15 hw => ?_)
  obtain ⟨f16, e17⟩ := ex1 (upF f10 4 r12)
  have hw := hw f16 e17
  have gf16 : ∀ x, inR (f16 x) := upF_in gf10 e17 h14
  refine g_tast F 0 rfl (⟨by decide, by decide⟩ : 0 ≤ (4 : Int) ∧ (4 : Int) < 11) (by decide) (T' := [(q1, iA E 11 f16)]) (by rw [e17]; rfl) dX12_counted_38 ?_
  refine q_dup F dX12_counted_39 rfl ?_
  refine q_iconst F dX12_counted_40 ?_
  refine q_aload_n F 0 dX12_counted_41 rfl rfl ?_
  refine q_ViM F (kcX12_filled m15 hw) (by decide) meObj (ci := 10) rfl (bV wd1021 wd1022 wd1308 wd13 wd1023) rfl ⟨rfl, rfl⟩ ydX12_filled (rmK_le hR (by omega) (by decide)) (av := []) rfl rfl (Nat.le_of_ble_eq_true rfl) dX12_counted_42 (rmK_cs hR (by omega) (by omega)) (fun r18 J19 h20 m21 hw => ?_)
  obtain ⟨f22, e23⟩ := ex1 (upF f16 5 r18)
  have hw := hw f22 e23
  have gf22 : ∀ x, inR (f22 x) := upF_in gf16 e23 h20
  refine g_tast F 0 rfl (⟨by decide, by decide⟩ : 0 ≤ (5 : Int) ∧ (5 : Int) < 11) (by decide) (T' := [(q1, iA E 11 f22)]) (by rw [e23]; rfl) dX12_counted_45 ?_
  refine q_dup F dX12_counted_46 rfl ?_
  refine q_bipush F dX12_counted_47 (by decide) ?_
  refine q_aload_n F 0 dX12_counted_49 rfl rfl ?_
  refine q_ViM F (kcX12_broken m21 hw) (by decide) meObj (ci := 10) rfl (bV wd1024 wd1025 wd1309 wd13 wd1026) rfl ⟨rfl, rfl⟩ ydX12_broken (rmK_le hR (by omega) (by decide)) (av := []) rfl rfl (Nat.le_of_ble_eq_true rfl) dX12_counted_50 (rmK_cs hR (by omega) (by omega)) (fun r24 J25 h26 m27 hw => ?_)
  obtain ⟨f28, e29⟩ := ex1 (upF f22 6 r24)
  have hw := hw f28 e29
  have gf28 : ∀ x, inR (f28 x) := upF_in gf22 e29 h26
  refine g_tast F 0 rfl (⟨by decide, by decide⟩ : 0 ≤ (6 : Int) ∧ (6 : Int) < 11) (by decide) (T' := [(q1, iA E 11 f28)]) (by rw [e29]; rfl) dX12_counted_53 ?_
  refine q_dup F dX12_counted_54 rfl ?_
  refine q_bipush F dX12_counted_55 (by decide) ?_
  refine q_aload_n F 0 dX12_counted_57 rfl rfl ?_
  refine s_g_kept F ib12 wd901 dX12_counted_58 ?_
  obtain ⟨f30, e31⟩ := ex1 (upF f28 7 ((J25 1000 28)))
  have hw := hw f30 e31
  have gf30 : ∀ x, inR (f30 x) := upF_in gf28 e31 (m27 _ _)
  refine g_tast F 0 rfl (⟨by decide, by decide⟩ : 0 ≤ (7 : Int) ∧ (7 : Int) < 11) (by decide) (T' := [(q1, iA E 11 f30)]) (by rw [e31]; rfl) dX12_counted_61 ?_
  refine q_dup F dX12_counted_62 rfl ?_
  refine q_bipush F dX12_counted_63 (by decide) ?_
  refine q_aload_n F 0 dX12_counted_65 rfl rfl ?_
  refine s_g_searched F ib12 wd900 dX12_counted_66 ?_
  obtain ⟨f32, e33⟩ := ex1 (upF f30 8 ((J25 1000 27)))
  have hw := hw f32 e33
  have gf32 : ∀ x, inR (f32 x) := upF_in gf30 e33 (m27 _ _)
  refine g_tast F 0 rfl (⟨by decide, by decide⟩ : 0 ≤ (8 : Int) ∧ (8 : Int) < 11) (by decide) (T' := [(q1, iA E 11 f32)]) (by rw [e33]; rfl) dX12_counted_69 ?_
  refine q_dup F dX12_counted_70 rfl ?_
  refine q_bipush F dX12_counted_71 (by decide) ?_
  refine q_aload_n F 0 dX12_counted_73 rfl rfl ?_
  refine s_g_length F ib12 wd875 dX12_counted_74 ?_
  obtain ⟨f34, e35⟩ := ex1 (upF f32 9 ((J25 1000 2)))
  have hw := hw f34 e35
  have gf34 : ∀ x, inR (f34 x) := upF_in gf32 e35 (m27 _ _)
  refine g_tast F 0 rfl (⟨by decide, by decide⟩ : 0 ≤ (9 : Int) ∧ (9 : Int) < 11) (by decide) (T' := [(q1, iA E 11 f34)]) (by rw [e35]; rfl) dX12_counted_77 ?_
  refine q_dup F dX12_counted_78 rfl ?_
  refine q_bipush F dX12_counted_79 (by decide) ?_
  refine q_aload_n F 0 dX12_counted_81 rfl rfl ?_
  refine s_g_papered F ib12 wd883 dX12_counted_82 ?_
  obtain ⟨f36, e37⟩ := ex1 (upF f34 10 ((J25 1000 10)))
  have hw := hw f36 e37
  have gf36 : ∀ x, inR (f36 x) := upF_in gf34 e37 (m27 _ _)
  refine g_tast F 0 rfl (⟨by decide, by decide⟩ : 0 ≤ (10 : Int) ∧ (10 : Int) < 11) (by decide) (T' := [(q1, iA E 11 f36)]) (by rw [e37]; rfl) dX12_counted_85 ?_
  refine q_astore_n (lv' := [(0, .ref (E.1 1000)), (1, iV a1), (2, .ref q1)]) F [1, 2, 0] dX12_counted_86 rfl (q_n hN (by decide)) rfl ?_
  refine q_aload_n F 2 dX12_counted_87 rfl rfl ?_
  refine q_iload_n F 1 dX12_counted_88 rfl rfl ?_
  obtain ⟨k38, hw⟩ := hw
  refine g_tald F 0 rfl k38 (by decide) dX12_counted_89 ?_
  exact hret _ _ _ _ _ dX12_counted_90 (gf36 _) m27 hw
theorem ydX12_count : yX12_count.cls = RX12 ∧ yX12_count.cls ≠ "java/lang/invoke/MethodHandle" ∧ yX12_count.cls ≠ "java/lang/invoke/VarHandle" ∧ (parseMethodDescriptor yX12_count.desc).map (fun d => d.parameters.length) = some 1 := by decide +kernel
def vX12_count : List Cond := Cond.code yX12_count cX12_count 2 (some .int) :: bG
set_option maxHeartbeats 4000000 in
set_option maxRecDepth 100000 in
theorem kcX12_count {l : Launch} {D : va_G} {E : cE} {a1 : Int} {J : cI} (hm : mM J) (ha1 : inR a1) {Q : Int → cI → Prop} (hw : wX12_count a1 J Q) : gM l D E mIds yX12_count vX12_count (rmK 6 (1) (11)) [.ref (E.1 1000), iV a1] (mef E J) (mef E) (oI Q) (1) (11) := by
  unfold wX12_count at hw
  refine k_ofW (own := RX12) (cc := cX12_count) (maxL := 2) (ret := (some .int)) (lv := [(0, .ref (E.1 1000)), (1, iV a1)]) (by decide) rfl rfl (Nat.le_of_ble_eq_true rfl) rfl ?_
  intro X hl hR hN hD F K
  subst hl; subst hD
  have hret := mk_rIM (Q := Q) F K
  refine q_aload_n F 0 dX12_count_0 rfl rfl ?_
  refine q_iconst F dX12_count_1 ?_
  obtain ⟨J1, e2⟩ := ex1 (up2 J 1000 0 0)
  have hw := hw J1 e2
  have m3 : mM J1 := mM_I hm e2 (⟨by decide, by decide⟩ : inR (0))
  refine s_p_thrown F ib12 wd873 e2 dX12_count_2 ?_
  refine q_iload_n F 1 dX12_count_5 rfl rfl ?_
  refine q_iconst F dX12_count_6 ?_
  refine q_bipush F dX12_count_7 (by decide) ?_
  refine q_SiM F (kcX12_isIn m3 ha1 (⟨by decide, by decide⟩ : inR (0)) (⟨by decide, by decide⟩ : inR (10)) hw) (bS wd932 wd933 wd13 wd934) rfl ⟨rfl, rfl⟩ ydX12_isIn (rmK_le hR (by omega) (by decide)) (av := [iV a1, iV 0, iV 10]) rfl rfl (Nat.le_of_ble_eq_true rfl) dX12_count_9 (rmK_cs hR (by omega) (by omega)) (fun r4 J5 h6 m7 hw => ?_)
  refine q_if_eq F h6 23 dX12_count_12 (by decide) (fun hc => ?_) (fun hc => ?_)
  · have hw := hw.1 hc
    refine q_aload_n F 0 dX12_count_23 rfl rfl ?_
    refine q_iconst F dX12_count_24 ?_
    refine q_ViM F (kcX12_no m7 (⟨by decide, by decide⟩ : inR (1)) hw) (by decide) meObj (ci := 10) rfl (bV wd925 wd926 wd1285 wd13 wd927) rfl ⟨rfl, rfl⟩ ydX12_no (rmK_le hR (by omega) (by decide)) (av := [iV 1]) rfl rfl (Nat.le_of_ble_eq_true rfl) dX12_count_25 (rmK_cs hR (by omega) (by omega)) (fun r8 J9 h10 m11 hw => ?_)
    refine q_wide (nc' := 1) (ns' := 11) (by omega) (by omega) ?_
    exact hret _ _ _ _ _ dX12_count_28 h10 m11 hw
  · have hw := hw.2 hc
    refine q_aload_n F 0 dX12_count_15 rfl rfl ?_
    refine q_iload_n F 1 dX12_count_16 rfl rfl ?_
    refine q_ViM F (kcX12_counted m7 ha1 hw) (by decide) meObj (ci := 10) rfl (bV wd1015 wd1016 wd1306 wd13 wd1017) rfl ⟨rfl, rfl⟩ ydX12_counted (rmK_le hR (by omega) (by decide)) (av := [iV a1]) rfl rfl (Nat.le_of_ble_eq_true rfl) dX12_count_17 (rmK_cs hR (by omega) (by omega)) (fun r12 J13 h14 m15 hw => ?_)
    refine q_goto F 28 dX12_count_20 (by decide) ?_
    exact hret _ _ _ _ _ dX12_count_28 h14 m15 hw
theorem ydX12_ruleTold : yX12_ruleTold.cls = RX12 ∧ yX12_ruleTold.cls ≠ "java/lang/invoke/MethodHandle" ∧ yX12_ruleTold.cls ≠ "java/lang/invoke/VarHandle" ∧ (parseMethodDescriptor yX12_ruleTold.desc).map (fun d => d.parameters.length) = some 2 := by decide +kernel
def vX12_ruleTold : List Cond := Cond.code yX12_ruleTold cX12_ruleTold 3 (some .int) :: bG
set_option maxHeartbeats 4000000 in
set_option maxRecDepth 100000 in
theorem kcX12_ruleTold {l : Launch} {D : va_G} {E : cE} {a1 : Int} {a2 : Int} {J : cI} (hm : mM J) (ha1 : inR a1) (ha2 : inR a2) {Q : Int → cI → Prop} (hw : wX12_ruleTold a1 a2 J Q) : gM l D E mIds yX12_ruleTold vX12_ruleTold (rmK 4 (0) (0)) [.ref (E.1 1000), iV a1, iV a2] (mef E J) (mef E) (oI Q) (0) (0) := by
  unfold wX12_ruleTold at hw
  refine k_ofW (own := RX12) (cc := cX12_ruleTold) (maxL := 3) (ret := (some .int)) (lv := [(0, .ref (E.1 1000)), (1, iV a1), (2, iV a2)]) (by decide) rfl rfl (Nat.le_of_ble_eq_true rfl) rfl ?_
  intro X hl hR hN hD F K
  subst hl; subst hD
  have hret := mk_rIM (Q := Q) F K
  refine q_iload_n F 2 dX12_ruleTold_0 rfl rfl ?_
  refine q_iconst F dX12_ruleTold_1 ?_
  refine q_icmp_ge F ha2 (⟨by decide, by decide⟩ : inR (4)) 53 dX12_ruleTold_2 (by decide) (fun hc => ?_) (fun hc => ?_)
  · have hw := hw.1 hc
    refine q_iload_n F 2 dX12_ruleTold_53 rfl rfl ?_
    refine q_bipush F dX12_ruleTold_54 (by decide) ?_
    refine q_icmp_ge F ha2 (⟨by decide, by decide⟩ : inR (9)) 84 dX12_ruleTold_56 (by decide) (fun hc => ?_) (fun hc => ?_)
    · have hw := hw.1 hc
      refine q_aload_n F 0 dX12_ruleTold_84 rfl rfl ?_
      refine q_iload_n F 1 dX12_ruleTold_85 rfl rfl ?_
      refine q_aload_n F 0 dX12_ruleTold_86 rfl rfl ?_
      refine s_g_grid F ib12 wd893 dX12_ruleTold_87 ?_
      refine q_ViM F (kcX12_isBroken hm ha1 kM_grid hw) (by decide) meObj (ci := 10) rfl (bV wd1027 wd1028 wd1310 wd13 wd1029) rfl ⟨rfl, rfl⟩ ydX12_isBroken (rmK_le hR (by omega) (by decide)) (av := [iV a1, .ref (E.1 1020)]) rfl rfl (Nat.le_of_ble_eq_true rfl) dX12_ruleTold_90 (rmK_cs hR (by omega) (by omega)) (fun r1 J2 h3 m4 hw => ?_)
      refine q_if_eq F h3 100 dX12_ruleTold_93 (by decide) (fun hc => ?_) (fun hc => ?_)
      · have hw := hw.1 hc
        refine q_iconst F dX12_ruleTold_100 ?_
        exact hret _ _ _ _ _ dX12_ruleTold_101 (⟨by decide, by decide⟩ : inR (0)) m4 hw
      · have hw := hw.2 hc
        refine q_iconst F dX12_ruleTold_96 ?_
        refine q_goto F 101 dX12_ruleTold_97 (by decide) ?_
        exact hret _ _ _ _ _ dX12_ruleTold_101 (⟨by decide, by decide⟩ : inR (1)) m4 hw
    · have hw := hw.2 hc
      refine q_iload_n F 2 dX12_ruleTold_59 rfl rfl ?_
      refine q_iconst F dX12_ruleTold_60 ?_
      refine q_isub F dX12_ruleTold_61 ?_
      refine q_aload_n F 0 dX12_ruleTold_62 rfl rfl ?_
      refine s_g_ruleSize F ib12 wd891 dX12_ruleTold_63 ?_
      refine q_iload_n F 1 dX12_ruleTold_66 rfl rfl ?_
      obtain ⟨k5, hw⟩ := hw
      refine s_ald F 70 kM_ruleSize k5 (by decide) dX12_ruleTold_67 ?_
      obtain ⟨k6, hw⟩ := hw
      refine q_icmp_ge F k6 (hm _ _) 82 dX12_ruleTold_68 (by decide) (fun hc => ?_) (fun hc => ?_)
      · have hw := hw.1 hc
        refine q_iconst F dX12_ruleTold_82 ?_
        exact hret _ _ _ _ _ dX12_ruleTold_83 (⟨by decide, by decide⟩ : inR (-1)) hm hw
      · have hw := hw.2 hc
        refine q_aload_n F 0 dX12_ruleTold_71 rfl rfl ?_
        refine q_iload_n F 1 dX12_ruleTold_72 rfl rfl ?_
        refine q_iload_n F 2 dX12_ruleTold_73 rfl rfl ?_
        refine q_iconst F dX12_ruleTold_74 ?_
        refine q_isub F dX12_ruleTold_75 ?_
        obtain ⟨k7, hw⟩ := hw
        refine q_ViM F (kcX12_cellOf hm ha1 k7 hw) (by decide) meObj (ci := 10) rfl (bV wd1030 wd1031 wd1311 wd13 wd1032) rfl ⟨rfl, rfl⟩ ydX12_cellOf (rmK_le hR (by omega) (by decide)) (av := [iV a1, iV ((a2 - 4))]) rfl rfl (Nat.le_of_ble_eq_true rfl) dX12_ruleTold_76 (rmK_cs hR (by omega) (by omega)) (fun r8 J9 h10 m11 hw => ?_)
        refine q_goto F 83 dX12_ruleTold_79 (by decide) ?_
        exact hret _ _ _ _ _ dX12_ruleTold_83 h10 m11 hw
  · have hw := hw.2 hc
    refine q_iload_n F 2 dX12_ruleTold_5 rfl rfl ?_
    refine q_if_ne F ha2 18 dX12_ruleTold_6 (by decide) (fun hc => ?_) (fun hc => ?_)
    · have hw := hw.1 hc
      refine q_iload_n F 2 dX12_ruleTold_18 rfl rfl ?_
      refine q_iconst F dX12_ruleTold_19 ?_
      refine q_icmp_ne F ha2 (⟨by decide, by decide⟩ : inR (1)) 32 dX12_ruleTold_20 (by decide) (fun hc => ?_) (fun hc => ?_)
      · have hw := hw.1 hc
        refine q_iload_n F 2 dX12_ruleTold_32 rfl rfl ?_
        refine q_iconst F dX12_ruleTold_33 ?_
        refine q_icmp_ne F ha2 (⟨by decide, by decide⟩ : inR (2)) 46 dX12_ruleTold_34 (by decide) (fun hc => ?_) (fun hc => ?_)
        · have hw := hw.1 hc
          refine q_aload_n F 0 dX12_ruleTold_46 rfl rfl ?_
          refine s_g_ruleSize F ib12 wd891 dX12_ruleTold_47 ?_
          refine q_iload_n F 1 dX12_ruleTold_50 rfl rfl ?_
          obtain ⟨k12, hw⟩ := hw
          refine s_ald F 70 kM_ruleSize k12 (by decide) dX12_ruleTold_51 ?_
          exact hret _ _ _ _ _ dX12_ruleTold_52 (hm _ _) hm hw
        · have hw := hw.2 hc
          refine q_aload_n F 0 dX12_ruleTold_37 rfl rfl ?_
          refine s_g_ruleOften F ib12 wd890 dX12_ruleTold_38 ?_
          refine q_iload_n F 1 dX12_ruleTold_41 rfl rfl ?_
          obtain ⟨k13, hw⟩ := hw
          refine s_ald F 70 kM_ruleOften k13 (by decide) dX12_ruleTold_42 ?_
          refine q_goto F 52 dX12_ruleTold_43 (by decide) ?_
          exact hret _ _ _ _ _ dX12_ruleTold_52 (hm _ _) hm hw
      · have hw := hw.2 hc
        refine q_aload_n F 0 dX12_ruleTold_23 rfl rfl ?_
        refine s_g_ruleNumber F ib12 wd889 dX12_ruleTold_24 ?_
        refine q_iload_n F 1 dX12_ruleTold_27 rfl rfl ?_
        obtain ⟨k14, hw⟩ := hw
        refine s_ald F 70 kM_ruleNumber k14 (by decide) dX12_ruleTold_28 ?_
        refine q_goto F 52 dX12_ruleTold_29 (by decide) ?_
        exact hret _ _ _ _ _ dX12_ruleTold_52 (hm _ _) hm hw
    · have hw := hw.2 hc
      refine q_aload_n F 0 dX12_ruleTold_9 rfl rfl ?_
      refine s_g_ruleKind F ib12 wd888 dX12_ruleTold_10 ?_
      refine q_iload_n F 1 dX12_ruleTold_13 rfl rfl ?_
      obtain ⟨k15, hw⟩ := hw
      refine s_ald F 70 kM_ruleKind k15 (by decide) dX12_ruleTold_14 ?_
      refine q_goto F 52 dX12_ruleTold_15 (by decide) ?_
      exact hret _ _ _ _ _ dX12_ruleTold_52 (hm _ _) hm hw
theorem ydX12_rule : yX12_rule.cls = RX12 ∧ yX12_rule.cls ≠ "java/lang/invoke/MethodHandle" ∧ yX12_rule.cls ≠ "java/lang/invoke/VarHandle" ∧ (parseMethodDescriptor yX12_rule.desc).map (fun d => d.parameters.length) = some 2 := by decide +kernel
def vX12_rule : List Cond := Cond.code yX12_rule cX12_rule 3 (some .int) :: bG
set_option maxHeartbeats 4000000 in
set_option maxRecDepth 100000 in
theorem bX12_rule_32 {X : xC} {E : cE} (F : mF X E RX12 cX12_rule bG) (hR : X.1.2.2.2 = rmK 5 (0) (0)) (hN : X.2.2.1.2.2.2 = 3) {Q : Int → cI → Prop} (hret : rIM X E cX12_rule (0) (0) Q) {a1 : Int} {a2 : Int} (ha1 : inR a1) (ha2 : inR a2) : ∀ (J : cI), mM J → wX12_rule_32 Q a1 a2 J → cW X (0) (0) 32 [(0, .ref (E.1 1000))] [] (gw E.1 mIds (mef E J) ++ []) := by
  intro J hm hw
  unfold wX12_rule_32 at hw
  refine q_aload_n F 0 dX12_rule_32 rfl rfl ?_
  refine q_iconst F dX12_rule_33 ?_
  refine q_ViM F (kcX12_no hm (⟨by decide, by decide⟩ : inR (1)) hw) (by decide) meObj (ci := 10) rfl (bV wd925 wd926 wd1285 wd13 wd927) rfl ⟨rfl, rfl⟩ ydX12_no (rmK_le hR (by omega) (by decide)) (av := [iV 1]) rfl rfl (Nat.le_of_ble_eq_true rfl) dX12_rule_34 (rmK_cs hR (by omega) (by omega)) (fun r1 J2 h3 m4 hw => ?_)
  exact hret _ _ _ _ _ dX12_rule_37 h3 m4 hw
set_option maxHeartbeats 4000000 in
set_option maxRecDepth 100000 in
theorem kcX12_rule {l : Launch} {D : va_G} {E : cE} {a1 : Int} {a2 : Int} {J : cI} (hm : mM J) (ha1 : inR a1) (ha2 : inR a2) {Q : Int → cI → Prop} (hw : wX12_rule a1 a2 J Q) : gM l D E mIds yX12_rule vX12_rule (rmK 5 (0) (0)) [.ref (E.1 1000), iV a1, iV a2] (mef E J) (mef E) (oI Q) (0) (0) := by
  unfold wX12_rule at hw
  refine k_ofW (own := RX12) (cc := cX12_rule) (maxL := 3) (ret := (some .int)) (lv := [(0, .ref (E.1 1000)), (1, iV a1), (2, iV a2)]) (by decide) rfl rfl (Nat.le_of_ble_eq_true rfl) rfl ?_
  intro X hl hR hN hD F K
  subst hl; subst hD
  have hret := mk_rIM (Q := Q) F K
  refine q_aload_n F 0 dX12_rule_0 rfl rfl ?_
  refine q_iconst F dX12_rule_1 ?_
  obtain ⟨J1, e2⟩ := ex1 (up2 J 1000 0 0)
  have hw := hw J1 e2
  have m3 : mM J1 := mM_I hm e2 (⟨by decide, by decide⟩ : inR (0))
  refine s_p_thrown F ib12 wd873 e2 dX12_rule_2 ?_
  refine q_aload_n F 0 dX12_rule_5 rfl rfl ?_
  refine q_iload_n F 1 dX12_rule_6 rfl rfl ?_
  refine q_ViM F (kcX12_isRule m3 ha1 hw) (by decide) meObj (ci := 10) rfl (bV wd1047 wd1048 wd1314 wd13 wd1049) rfl ⟨rfl, rfl⟩ ydX12_isRule (rmK_le hR (by omega) (by decide)) (av := [iV a1]) rfl rfl (Nat.le_of_ble_eq_true rfl) dX12_rule_7 (rmK_cs hR (by omega) (by omega)) (fun r4 J5 h6 m7 hw => ?_)
  refine q_if_eq F h6 32 dX12_rule_10 (by decide) (fun hc => ?_) (fun hc => ?_)
  · have hw := hw.1 hc
    refine q_lv [0] rfl ?_
    exact bX12_rule_32 F hR hN hret ha1 ha2 J5 m7 hw
  · have hw := hw.2 hc
    refine q_iload_n F 2 dX12_rule_13 rfl rfl ?_
    refine q_iconst F dX12_rule_14 ?_
    refine q_bipush F dX12_rule_15 (by decide) ?_
    refine q_SiM F (kcX12_isIn m7 ha2 (⟨by decide, by decide⟩ : inR (0)) (⟨by decide, by decide⟩ : inR (9)) hw) (bS wd932 wd933 wd13 wd934) rfl ⟨rfl, rfl⟩ ydX12_isIn (rmK_le hR (by omega) (by decide)) (av := [iV a2, iV 0, iV 9]) rfl rfl (Nat.le_of_ble_eq_true rfl) dX12_rule_17 (rmK_cs hR (by omega) (by omega)) (fun r8 J9 h10 m11 hw => ?_)
    refine q_if_eq F h10 32 dX12_rule_20 (by decide) (fun hc => ?_) (fun hc => ?_)
    · have hw := hw.1 hc
      refine q_lv [0] rfl ?_
      exact bX12_rule_32 F hR hN hret ha1 ha2 J9 m11 hw
    · have hw := hw.2 hc
      refine q_aload_n F 0 dX12_rule_23 rfl rfl ?_
      refine q_iload_n F 1 dX12_rule_24 rfl rfl ?_
      refine q_iload_n F 2 dX12_rule_25 rfl rfl ?_
      refine q_ViM F (kcX12_ruleTold m11 ha1 ha2 hw) (by decide) meObj (ci := 10) rfl (bV wd1050 wd1051 wd1315 wd13 wd1052) rfl ⟨rfl, rfl⟩ ydX12_ruleTold (rmK_le hR (by omega) (by decide)) (av := [iV a1, iV a2]) rfl rfl (Nat.le_of_ble_eq_true rfl) dX12_rule_26 (rmK_cs hR (by omega) (by omega)) (fun r12 J13 h14 m15 hw => ?_)
      refine q_goto F 37 dX12_rule_29 (by decide) ?_
      exact hret _ _ _ _ _ dX12_rule_37 h14 m15 hw
theorem ydX12_dropRule : yX12_dropRule.cls = RX12 ∧ yX12_dropRule.cls ≠ "java/lang/invoke/MethodHandle" ∧ yX12_dropRule.cls ≠ "java/lang/invoke/VarHandle" ∧ (parseMethodDescriptor yX12_dropRule.desc).map (fun d => d.parameters.length) = some 1 := by decide +kernel
def vX12_dropRule : List Cond := Cond.code yX12_dropRule cX12_dropRule 3 none :: bG
set_option maxHeartbeats 4000000 in
set_option maxRecDepth 100000 in
theorem bX12_dropRule_2 {X : xC} {E : cE} (F : mF X E RX12 cX12_dropRule bG) (hR : X.1.2.2.2 = rmK 3 (0) (0)) (hN : X.2.2.1.2.2.2 = 3) {Q : cI → Prop} (hret : rVM X E cX12_dropRule (0) (0) Q) {a1 : Int} (ha1 : inR a1) : ∀ n2 : Nat, ∀ (x2 : Int) (J : cI), inR x2 → mM J → wX12_dropRule_2 Q a1 n2 x2 J → cW X (0) (0) 2 [(0, .ref (E.1 1000)), (2, iV x2)] [] (gw E.1 mIds (mef E J) ++ []) := by
  intro n2
  induction n2 with
  | zero => intro x2 J hx2 hm hw; exact hw.elim
  | succ n2 ih =>
    intro x2 J hx2 hm hw
    change wbX12_dropRule_2 Q a1 (wX12_dropRule_2 Q a1 n2) x2 J at hw
    unfold wbX12_dropRule_2 at hw
    refine q_iload_n F 1 dX12_dropRule_2 rfl rfl ?_
    refine q_iconst F dX12_dropRule_3 ?_
    refine q_iadd F dX12_dropRule_4 ?_
    refine q_aload_n F 0 dX12_dropRule_5 rfl rfl ?_
    refine s_g_rules F ib12 wd887 dX12_dropRule_6 ?_
    obtain ⟨k1, hw⟩ := hw
    refine q_icmp_ge F k1 (hm _ _) 26 dX12_dropRule_9 (by decide) (fun hc => ?_) (fun hc => ?_)
    · have hw := hw.1 hc
      refine q_aload_n F 0 dX12_dropRule_26 rfl rfl ?_
      refine q_dup F dX12_dropRule_27 rfl ?_
      refine s_g_rules F ib12 wd887 dX12_dropRule_28 ?_
      refine q_iconst F dX12_dropRule_31 ?_
      refine q_isub F dX12_dropRule_32 ?_
      obtain ⟨k2, hw⟩ := hw
      obtain ⟨J3, e4⟩ := ex1 (up2 J 1000 14 (((J 1000 14) - 1)))
      have hw := hw J3 e4
      have m5 : mM J3 := mM_I hm e4 k2
      refine s_p_rules F ib12 wd887 e4 dX12_dropRule_33 ?_
      exact hret _ _ _ _ dX12_dropRule_36 m5 hw
    · have hw := hw.2 hc
      refine q_aload_n F 0 dX12_dropRule_12 rfl rfl ?_
      refine q_iload_n F 1 dX12_dropRule_13 rfl rfl ?_
      refine q_iconst F dX12_dropRule_14 ?_
      refine q_iadd F dX12_dropRule_15 ?_
      refine q_iload_n F 1 dX12_dropRule_16 rfl rfl ?_
      obtain ⟨k6, hw⟩ := hw
      refine q_VvM F (kcX12_moveRule hm k6 hx2 hw) (by decide) meObj (ci := 10) rfl (bV wd1060 wd1061 wd1317 wd13 wd1062) rfl ⟨rfl, rfl⟩ ydX12_moveRule (rmK_le hR (by omega) (by decide)) (av := [iV ((x2 + 1)), iV x2]) rfl rfl (Nat.le_of_ble_eq_true rfl) dX12_dropRule_17 (rmK_cs hR (by omega) (by omega)) (fun J8 m10 hw => ?_)
      obtain ⟨k13, hw⟩ := hw
      obtain ⟨z11, e12⟩ := ex1 (x2 + 1)
      have hw := hw z11 e12
      have hz11 : inR z11 := by rw [e12]; exact k13
      refine q_iinc (lv' := [(0, .ref (E.1 1000)), (2, iV z11)]) F 1 [1, 0] dX12_dropRule_20 rfl (q_n hN (by decide)) e12.symm rfl ?_
      refine q_goto F 2 dX12_dropRule_23 (by decide) ?_
      exact ih z11 J8 hz11 m10 hw
set_option maxHeartbeats 4000000 in
set_option maxRecDepth 100000 in
theorem kcX12_dropRule {l : Launch} {D : va_G} {E : cE} {a1 : Int} {J : cI} (hm : mM J) (ha1 : inR a1) {Q : cI → Prop} (hw : wX12_dropRule a1 J Q) : gM l D E mIds yX12_dropRule vX12_dropRule (rmK 3 (0) (0)) [.ref (E.1 1000), iV a1] (mef E J) (mef E) (oV Q) (0) (0) := by
  unfold wX12_dropRule at hw
  refine k_ofW (own := RX12) (cc := cX12_dropRule) (maxL := 3) (ret := none) (lv := [(0, .ref (E.1 1000)), (1, iV a1)]) (by decide) rfl rfl (Nat.le_of_ble_eq_true rfl) rfl ?_
  intro X hl hR hN hD F K
  subst hl; subst hD
  have hret := mk_rVM (Q := Q) F K
  refine q_iload_n F 1 dX12_dropRule_0 rfl rfl ?_
  refine q_istore_n (lv' := [(0, .ref (E.1 1000)), (1, iV a1), (2, iV a1)]) F [1, 2, 0] dX12_dropRule_1 rfl (q_n hN (by decide)) rfl ?_
  refine q_lv [0, 2] rfl ?_
  obtain ⟨n1, hw⟩ := hw
  exact bX12_dropRule_2 F hR hN hret ha1 n1 a1 J ha1 hm hw
