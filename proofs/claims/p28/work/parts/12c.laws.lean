/-! ===== walks: the law's own methods ===== -/
theorem ydL_noneBroken : yL_noneBroken.cls = RL ∧ yL_noneBroken.cls ≠ "java/lang/invoke/MethodHandle" ∧ yL_noneBroken.cls ≠ "java/lang/invoke/VarHandle" ∧ (parseMethodDescriptor yL_noneBroken.desc).map (fun d => d.parameters.length) = some 1 := by decide +kernel
def vL_noneBroken : List Cond := Cond.code yL_noneBroken cL_noneBroken 3 (some .boolean) :: bG
set_option maxHeartbeats 4000000 in
set_option maxRecDepth 100000 in
theorem bL_noneBroken_4 {X : xC} {E : cE} (F : mF X E RL cL_noneBroken bG) (hR : X.1.2.2.2 = rmK 9 (0) (0)) (hN : X.2.2.1.2.2.2 = 3) {Q : Int → cI → cR → Prop} (hret : rZ X E cL_noneBroken (0) (0) Q) (hfl : X.1.2.1.stackTraces = false)   : ∀ n4 : Nat, ∀ (x1 : Int) (x2 : Int) (I : cI) (R : cR), inR x1 → inR x2 → cM I R → wL_noneBroken_4 Q n4 x1 x2 I R → cW X (0) (0) 4 [(0, .ref (E.1 0)), (1, iV x1), (2, iV x2)] [] (gw E.1 cIds (cef E (I, R)) ++ []) := by
  intro n4
  induction n4 with
  | zero => intro x1 x2 I R hx1 hx2 hm hw; exact hw.elim
  | succ n4 ih =>
    intro x1 x2 I R hx1 hx2 hm hw
    change wbL_noneBroken_4 Q (wL_noneBroken_4 Q n4) x1 x2 I R at hw
    unfold wbL_noneBroken_4 at hw
    refine q_iload_n F 2 dL_noneBroken_4 rfl rfl ?_
    refine q_aload_n F 0 dL_noneBroken_5 rfl rfl ?_
    refine q_iconst F dL_noneBroken_6 ?_
    refine q_Vit F (kcX11_count hfl 0 (Or.inr (fun _ _ _ h => h)) hm (⟨by decide, by decide⟩ : inR (3)) hw) (cIds_in (show ckd 0 = 9 ∧ 0 < 353 by decide).2) (ceMill (show ckd 0 = 9 ∧ 0 < 353 by decide).1) (ci := 9) rfl (bV wd408 wd409 wd410 wd1 wd411) rfl ⟨rfl, rfl⟩ ydX11_count (rmK_le hR (by omega) (by decide)) (av := [iV 3]) rfl rfl (Nat.le_of_ble_eq_true rfl) dL_noneBroken_7 (rmK_cs hR (by omega) (by omega)) (fun r1 I2 R3 h4 m5 hw => ?_)
    refine q_icmp_ge F hx2 h4 39 dL_noneBroken_10 (by decide) (fun hc => ?_) (fun hc => ?_)
    · have hw := hw.1 hc
      refine q_iload_n F 1 dL_noneBroken_39 rfl rfl ?_
      obtain ⟨k6, hw⟩ := hw
      exact hret _ _ _ _ _ _ dL_noneBroken_40 k6 hx1 m5 hw
    · have hw := hw.2 hc
      refine q_iload_n F 1 dL_noneBroken_13 rfl rfl ?_
      refine q_if_eq F hx1 31 dL_noneBroken_14 (by decide) (fun hc => ?_) (fun hc => ?_)
      · have hw := hw.1 hc
        refine q_iconst F dL_noneBroken_31 ?_
        refine q_istore_n (lv' := [(0, .ref (E.1 0)), (1, iV 0), (2, iV x2)]) F [1, 0, 2] dL_noneBroken_32 rfl (q_n hN (by decide)) rfl ?_
        obtain ⟨k9, hw⟩ := hw
        obtain ⟨z7, e8⟩ := ex1 (x2 + 1)
        have hw := hw z7 e8
        have hz7 : inR z7 := by rw [e8]; exact k9
        refine q_iinc (lv' := [(0, .ref (E.1 0)), (1, iV 0), (2, iV z7)]) F 2 [1, 2, 0] dL_noneBroken_33 rfl (q_n hN (by decide)) e8.symm rfl ?_
        refine q_goto F 4 dL_noneBroken_36 (by decide) ?_
        exact ih 0 z7 I2 R3 (⟨by decide, by decide⟩ : inR (0)) hz7 m5 hw
      · have hw := hw.2 hc
        refine q_aload_n F 0 dL_noneBroken_17 rfl rfl ?_
        refine q_iload_n F 2 dL_noneBroken_18 rfl rfl ?_
        refine q_bipush F dL_noneBroken_19 (by decide) ?_
        refine q_Vit F (kcX11_rule hfl 0 (Or.inr (fun _ _ _ h => h)) m5 hx2 (⟨by decide, by decide⟩ : inR (9)) hw) (cIds_in (show ckd 0 = 9 ∧ 0 < 353 by decide).2) (ceMill (show ckd 0 = 9 ∧ 0 < 353 by decide).1) (ci := 9) rfl (bV wd503 wd504 wd505 wd1 wd506) rfl ⟨rfl, rfl⟩ ydX11_rule (rmK_le hR (by omega) (by decide)) (av := [iV x2, iV 9]) rfl rfl (Nat.le_of_ble_eq_true rfl) dL_noneBroken_21 (rmK_cs hR (by omega) (by omega)) (fun r10 I11 R12 h13 m14 hw => ?_)
        refine q_if_ne F h13 31 dL_noneBroken_24 (by decide) (fun hc => ?_) (fun hc => ?_)
        · have hw := hw.1 hc
          refine q_iconst F dL_noneBroken_31 ?_
          refine q_istore_n (lv' := [(0, .ref (E.1 0)), (1, iV 0), (2, iV x2)]) F [1, 0, 2] dL_noneBroken_32 rfl (q_n hN (by decide)) rfl ?_
          obtain ⟨k17, hw⟩ := hw
          obtain ⟨z15, e16⟩ := ex1 (x2 + 1)
          have hw := hw z15 e16
          have hz15 : inR z15 := by rw [e16]; exact k17
          refine q_iinc (lv' := [(0, .ref (E.1 0)), (1, iV 0), (2, iV z15)]) F 2 [1, 2, 0] dL_noneBroken_33 rfl (q_n hN (by decide)) e16.symm rfl ?_
          refine q_goto F 4 dL_noneBroken_36 (by decide) ?_
          exact ih 0 z15 I11 R12 (⟨by decide, by decide⟩ : inR (0)) hz15 m14 hw
        · have hw := hw.2 hc
          refine q_iconst F dL_noneBroken_27 ?_
          refine q_goto F 32 dL_noneBroken_28 (by decide) ?_
          refine q_istore_n (lv' := [(0, .ref (E.1 0)), (1, iV 1), (2, iV x2)]) F [1, 0, 2] dL_noneBroken_32 rfl (q_n hN (by decide)) rfl ?_
          obtain ⟨k20, hw⟩ := hw
          obtain ⟨z18, e19⟩ := ex1 (x2 + 1)
          have hw := hw z18 e19
          have hz18 : inR z18 := by rw [e19]; exact k20
          refine q_iinc (lv' := [(0, .ref (E.1 0)), (1, iV 1), (2, iV z18)]) F 2 [1, 2, 0] dL_noneBroken_33 rfl (q_n hN (by decide)) e19.symm rfl ?_
          refine q_goto F 4 dL_noneBroken_36 (by decide) ?_
          exact ih 1 z18 I11 R12 (⟨by decide, by decide⟩ : inR (1)) hz18 m14 hw
set_option maxHeartbeats 4000000 in
set_option maxRecDepth 100000 in
theorem kcL_noneBroken {l : Launch} {D : va_G} {E : cE} (hfl : l.stackTraces = false)  {I : cI} {R : cR} (hm : cM I R)  {Q : Int → cI → cR → Prop} (hw : wL_noneBroken  I R Q) : gM l D E cIds yL_noneBroken vL_noneBroken (rmK 9 (0) (0)) [.ref (E.1 0)] (cef E (I, R)) (cef E) (pI Q) (0) (0) := by
  unfold wL_noneBroken at hw
  refine k_ofW (own := RL) (cc := cL_noneBroken) (maxL := 3) (ret := (some .boolean)) (lv := [(0, .ref (E.1 0))]) (by decide) rfl rfl (Nat.le_of_ble_eq_true rfl) rfl ?_
  intro X hl hR hN hD F K
  subst hl; subst hD
  have hret := mk_rZ (Q := Q) F K
  refine q_iconst F dL_noneBroken_0 ?_
  refine q_istore_n (lv' := [(0, .ref (E.1 0)), (1, iV 1)]) F [1, 0] dL_noneBroken_1 rfl (q_n hN (by decide)) rfl ?_
  refine q_iconst F dL_noneBroken_2 ?_
  refine q_istore_n (lv' := [(0, .ref (E.1 0)), (1, iV 1), (2, iV 0)]) F [1, 2, 0] dL_noneBroken_3 rfl (q_n hN (by decide)) rfl ?_
  obtain ⟨n1, hw⟩ := hw
  exact bL_noneBroken_4 F hR hN hret hfl n1 1 0 I R (⟨by decide, by decide⟩ : inR (1)) (⟨by decide, by decide⟩ : inR (0)) hm hw
theorem ydL_put : yL_put.cls = RL ∧ yL_put.cls ≠ "java/lang/invoke/MethodHandle" ∧ yL_put.cls ≠ "java/lang/invoke/VarHandle" ∧ (parseMethodDescriptor yL_put.desc).map (fun d => d.parameters.length) = some 2 := by decide +kernel
def vL_put : List Cond := Cond.code yL_put cL_put 3 none :: bG
set_option maxHeartbeats 4000000 in
set_option maxRecDepth 100000 in
theorem bL_put_2 {X : xC} {E : cE} (F : mF X E RL cL_put bG) (hR : X.1.2.2.2 = rmK 7 (0) (0)) (hN : X.2.2.1.2.2.2 = 3) {Q : cI → cR → (Int → Int) → Prop} (hret : rVP X E cL_put (0) (0) 900 Q) (hfl : X.1.2.1.stackTraces = false) {a1 : Nat} (ha1 : a1 < 33) : ∀ n2 : Nat, ∀ (x2 : Int) (f0 : Int → Int) (I : cI) (R : cR), inR x2 → (∀ x, inR (f0 x)) → cM I R → wL_put_2 Q a1 n2 x2 f0 I R → cW X (0) (0) 2 [(0, .ref (E.1 1000)), (1, .ref (E.2.1 1 a1)), (2, iV x2)] [] (gw E.1 cIds (cef E (I, R)) ++ [((E.1 1000), iA E 900 f0)]) := by
  intro n2
  induction n2 with
  | zero => intro x2 f0 I R hx2 hf0 hm hw; exact hw.elim
  | succ n2 ih =>
    intro x2 f0 I R hx2 hf0 hm hw
    change wbL_put_2 Q a1 (wL_put_2 Q a1 n2) x2 f0 I R at hw
    unfold wbL_put_2 at hw
    refine q_iload_n F 2 dL_put_2 rfl rfl ?_
    refine q_aload_n F 1 dL_put_3 rfl rfl ?_
    refine q_slen F hR (by omega) ha1 wd794 dL_put_4 (Nat.le_of_ble_eq_true rfl) ?_
    refine q_icmp_ge F hx2 (txN_in ha1) 30 dL_put_7 (by decide) (fun hc => ?_) (fun hc => ?_)
    · have hw := hw.1 hc
      refine q_aload_n F 0 dL_put_30 rfl rfl ?_
      refine q_iconst F dL_put_31 ?_
      refine q_dup2 F dL_put_32 rfl rfl ?_
      refine g_tald F 0 rfl (⟨by decide, by decide⟩ : 0 ≤ (0 : Int) ∧ (0 : Int) < 900) (by decide) dL_put_33 ?_
      refine q_aload_n F 1 dL_put_34 rfl rfl ?_
      refine q_slen F hR (by omega) ha1 wd794 dL_put_35 (Nat.le_of_ble_eq_true rfl) ?_
      refine q_iadd F dL_put_38 ?_
      obtain ⟨k1, hw⟩ := hw
      obtain ⟨f2, e3⟩ := ex1 (upF f0 0 (((f0 0) + (txN a1))))
      have hw := hw f2 e3
      have gf2 : ∀ x, inR (f2 x) := upF_in hf0 e3 k1
      refine g_tast F 0 rfl (⟨by decide, by decide⟩ : 0 ≤ (0 : Int) ∧ (0 : Int) < 900) (by decide) (T' := [((E.1 1000), iA E 900 f2)]) (by rw [e3]; rfl) dL_put_39 ?_
      exact hret _ _ _ _ _ _ dL_put_40 hm gf2 hw
    · have hw := hw.2 hc
      refine q_aload_n F 0 dL_put_10 rfl rfl ?_
      refine q_iconst F dL_put_11 ?_
      refine q_aload_n F 0 dL_put_12 rfl rfl ?_
      refine q_iconst F dL_put_13 ?_
      refine g_tald F 0 rfl (⟨by decide, by decide⟩ : 0 ≤ (0 : Int) ∧ (0 : Int) < 900) (by decide) dL_put_14 ?_
      refine q_iadd F dL_put_15 ?_
      refine q_iload_n F 2 dL_put_16 rfl rfl ?_
      refine q_iadd F dL_put_17 ?_
      refine q_aload_n F 1 dL_put_18 rfl rfl ?_
      refine q_iload_n F 2 dL_put_19 rfl rfl ?_
      obtain ⟨k4, hw⟩ := hw
      refine q_sch F hR (by omega) ha1 k4 wd795 dL_put_20 (Nat.le_of_ble_eq_true rfl) ?_
      obtain ⟨k5, hw⟩ := hw
      obtain ⟨f6, e7⟩ := ex1 (upF f0 (((1 + (f0 0)) + x2)) ((txC a1 x2)))
      have hw := hw f6 e7
      have gf6 : ∀ x, inR (f6 x) := upF_in hf0 e7 (txC_in _ _)
      refine g_tast F 0 rfl k5 (by decide) (T' := [((E.1 1000), iA E 900 f6)]) (by rw [e7]; rfl) dL_put_23 ?_
      obtain ⟨k10, hw⟩ := hw
      obtain ⟨z8, e9⟩ := ex1 (x2 + 1)
      have hw := hw z8 e9
      have hz8 : inR z8 := by rw [e9]; exact k10
      refine q_iinc (lv' := [(0, .ref (E.1 1000)), (1, .ref (E.2.1 1 a1)), (2, iV z8)]) F 2 [1, 2, 0] dL_put_24 rfl (q_n hN (by decide)) e9.symm rfl ?_
      refine q_goto F 2 dL_put_27 (by decide) ?_
      exact ih z8 f6 I R hz8 gf6 hm hw
set_option maxHeartbeats 4000000 in
set_option maxRecDepth 100000 in
theorem kcL_put {l : Launch} {D : va_G} {E : cE} (hfl : l.stackTraces = false) {a1 : Nat} {I : cI} {R : cR} (hm : cM I R) (ha1 : a1 < 33) {f : Int → Int} (hf : ∀ z, inR (f z)) {Q : cI → cR → (Int → Int) → Prop} (hw : wL_put a1 f I R Q) : gM l D E pIds yL_put vL_put (rmK 7 (0) (0)) [.ref (E.1 1000), .ref (E.2.1 1 a1)] (pef E 900 ((I, R), f)) (pef E 900) (pVP Q) (0) (0) := by
  unfold wL_put at hw
  refine k_ofW (own := RL) (cc := cL_put) (maxL := 3) (ret := none) (lv := [(0, .ref (E.1 1000)), (1, .ref (E.2.1 1 a1))]) (by decide) rfl rfl (Nat.le_of_ble_eq_true rfl) rfl ?_
  intro X hl hR hN hD F K
  subst hl; subst hD
  have hret := mk_rVP (Q := Q) F K
  rw [p_split]
  refine q_iconst F dL_put_0 ?_
  refine q_istore_n (lv' := [(0, .ref (E.1 1000)), (1, .ref (E.2.1 1 a1)), (2, iV 0)]) F [1, 2, 0] dL_put_1 rfl (q_n hN (by decide)) rfl ?_
  obtain ⟨n1, hw⟩ := hw
  exact bL_put_2 F hR hN hret hfl ha1 n1 0 f I R (⟨by decide, by decide⟩ : inR (0)) hf hm hw
theorem ydL_lay : yL_lay.cls = RL ∧ yL_lay.cls ≠ "java/lang/invoke/MethodHandle" ∧ yL_lay.cls ≠ "java/lang/invoke/VarHandle" ∧ (parseMethodDescriptor yL_lay.desc).map (fun d => d.parameters.length) = some 2 := by decide +kernel
def vL_lay : List Cond := Cond.code yL_lay cL_lay 7 (some .boolean) :: bG
set_option maxHeartbeats 4000000 in
set_option maxRecDepth 100000 in
theorem bL_lay_28 {X : xC} {E : cE} (F : mF X E RL cL_lay bG) (hR : X.1.2.2.2 = rmK 8 (50) (250)) (hN : X.2.2.1.2.2.2 = 7) {Q : Int → cI → cR → (Int → Int) → Prop} {nA : Nat} (hn0 : nA < 2147483648) (hret : rZP X E cL_lay (50) (250) nA Q) (hfl : X.1.2.1.stackTraces = false) {n14 : Nat} (hn14 : n14 + 1 ≤ 50)   {K14 : Int → Int → Int → (Int → Int) → cI → cR → Prop} (hK14 : ∀ (x2 : Int) (x3 : Int) (x4 : Int) (f0 : Int → Int) (I : cI) (R : cR), inR x2 → inR x3 → inR x4 → (∀ x, inR (f0 x)) → cM I R → K14 x2 x3 x4 f0 I R → cW X (0 + (50 - n14) * 1) (0 + (50 - n14) * 5) 14 [(0, .ref (E.1 0)), (1, .ref (E.1 1000)), (2, iV x2), (3, iV x3), (4, iV x4)] [] (gw E.1 cIds (cef E (I, R)) ++ [((E.1 1000), iA E (nA) f0)])) : ∀ n28 : Nat, ∀ (x2 : Int) (x3 : Int) (x4 : Int) (x6 : Int) (q1 : Nat) (f0 : Int → Int) (f1 : Int → Int) (I : cI) (R : cR), inR x2 → inR x3 → inR x4 → inR x6 → (∀ x, inR (f0 x)) → (∀ x, inR (f1 x)) → cM I R → wL_lay_28 nA Q K14 n28 x2 x3 x4 x6 f0 f1 I R → cW X (0 + (50 - (n14 + 1)) * 1 + 1) (0 + (50 - (n14 + 1)) * 5 + 5) 28 [(0, .ref (E.1 0)), (1, .ref (E.1 1000)), (2, iV x2), (3, iV x3), (4, iV x4), (5, .ref q1), (6, iV x6)] [] (gw E.1 cIds (cef E (I, R)) ++ [((E.1 1000), iA E (nA) f0), (q1, iA E 5 f1)]) := by
  intro n28
  induction n28 with
  | zero => intro x2 x3 x4 x6 q1 f0 f1 I R hx2 hx3 hx4 hx6 hf0 hf1 hm hw; exact hw.elim
  | succ n28 ih =>
    intro x2 x3 x4 x6 q1 f0 f1 I R hx2 hx3 hx4 hx6 hf0 hf1 hm hw
    change wbL_lay_28 nA Q K14 (wL_lay_28 nA Q K14 n28) x2 x3 x4 x6 f0 f1 I R at hw
    unfold wbL_lay_28 at hw
    refine q_iload F 6 dL_lay_28 rfl ?_
    refine q_bipush F dL_lay_30 (by decide) ?_
    refine q_icmp_ge F hx6 (⟨by decide, by decide⟩ : inR (20)) 82 dL_lay_32 (by decide) (fun hc => ?_) (fun hc => ?_)
    · have hw := hw.1 hc
      refine q_aload_n F 0 dL_lay_82 rfl rfl ?_
      refine q_aload F 5 dL_lay_83 rfl ?_
      refine q_iconst F dL_lay_85 ?_
      refine g_tald F 1 rfl (⟨by decide, by decide⟩ : 0 ≤ (0 : Int) ∧ (0 : Int) < 5) (by decide) dL_lay_86 ?_
      refine q_aload F 5 dL_lay_87 rfl ?_
      refine q_iconst F dL_lay_89 ?_
      refine g_tald F 1 rfl (⟨by decide, by decide⟩ : 0 ≤ (1 : Int) ∧ (1 : Int) < 5) (by decide) dL_lay_90 ?_
      refine q_aload F 5 dL_lay_91 rfl ?_
      refine q_iconst F dL_lay_93 ?_
      refine g_tald F 1 rfl (⟨by decide, by decide⟩ : 0 ≤ (2 : Int) ∧ (2 : Int) < 5) (by decide) dL_lay_94 ?_
      refine q_aload F 5 dL_lay_95 rfl ?_
      refine q_iconst F dL_lay_97 ?_
      refine g_tald F 1 rfl (⟨by decide, by decide⟩ : 0 ≤ (3 : Int) ∧ (3 : Int) < 5) (by decide) dL_lay_98 ?_
      refine q_aload F 5 dL_lay_99 rfl ?_
      refine q_iconst F dL_lay_101 ?_
      refine g_tald F 1 rfl (⟨by decide, by decide⟩ : 0 ≤ (4 : Int) ∧ (4 : Int) < 5) (by decide) dL_lay_102 ?_
      refine q_Vit F (kcX11_feed hfl 0 (Or.inr (fun _ _ _ h => h)) hm (hf1 _) (hf1 _) (hf1 _) (hf1 _) (hf1 _) hw) (cIds_in (show ckd 0 = 9 ∧ 0 < 353 by decide).2) (ceMill (show ckd 0 = 9 ∧ 0 < 353 by decide).1) (ci := 9) rfl (bV wd799 wd800 wd801 wd1 wd802) rfl ⟨rfl, rfl⟩ ydX11_feed (rmK_le hR (by omega) (by decide)) (av := [iV ((f1 0)), iV ((f1 1)), iV ((f1 2)), iV ((f1 3)), iV ((f1 4))]) rfl rfl (Nat.le_of_ble_eq_true rfl) dL_lay_103 (rmK_cs hR (by omega) (by omega)) (fun r1 I2 R3 h4 m5 hw => ?_)
      refine q_pop F dL_lay_106 rfl ?_
      obtain ⟨k8, hw⟩ := hw
      obtain ⟨z6, e7⟩ := ex1 (x4 + 20)
      have hw := hw z6 e7
      have hz6 : inR z6 := by rw [e7]; exact k8
      refine q_iinc (lv' := [(0, .ref (E.1 0)), (1, .ref (E.1 1000)), (2, iV x2), (3, iV x3), (4, iV z6), (5, .ref q1), (6, iV x6)]) F 4 [1, 2, 3, 4, 0, 5, 6] dL_lay_107 rfl (q_n hN (by decide)) e7.symm rfl ?_
      refine q_goto F 14 dL_lay_110 (by decide) ?_
      refine q_less (w' := gw E.1 cIds (cef E (I2, R3)) ++ [((E.1 1000), iA E (nA) f0)]) (List.Sublist.append (List.Sublist.refl _) (List.Sublist.cons₂ _ (List.nil_sublist _))) ?_
      refine q_lv [0, 1, 2, 3, 4] rfl ?_
      refine q_wide (nc' := ?w3a) (ns' := ?w3b) ?w3c ?w3d ?w3e
      case w3e => exact hK14 x2 x3 z6 f0 I2 R3 hx2 hx3 hz6 hf0 m5 hw
      all_goals omega
    · have hw := hw.2 hc
      refine q_aload F 5 dL_lay_35 rfl ?_
      refine q_iload F 6 dL_lay_37 rfl ?_
      refine q_iconst F dL_lay_39 ?_
      obtain ⟨k9, hw⟩ := hw
      refine q_idiv F ⟨⟨k9, (hx6).2⟩, by decide, by decide⟩ dL_lay_40 ?_
      refine q_aload F 5 dL_lay_41 rfl ?_
      refine q_iload F 6 dL_lay_43 rfl ?_
      refine q_iconst F dL_lay_45 ?_
      obtain ⟨k10, hw⟩ := hw
      refine q_idiv F ⟨⟨k10, (hx6).2⟩, by decide, by decide⟩ dL_lay_46 ?_
      obtain ⟨k11, hw⟩ := hw
      refine g_tald F 1 rfl k11 (by decide) dL_lay_47 ?_
      refine q_bipush F dL_lay_48 (by decide) ?_
      refine q_ishl F dL_lay_50 ?_
      refine q_iload F 4 dL_lay_51 rfl ?_
      refine q_iload F 6 dL_lay_53 rfl ?_
      refine q_iadd F dL_lay_55 ?_
      refine q_iload_n F 3 dL_lay_56 rfl rfl ?_
      obtain ⟨k12, hw⟩ := hw
      refine q_icmp_ge F k12 hx3 72 dL_lay_57 (by decide) (fun hc => ?_) (fun hc => ?_)
      · have hw := hw.1 hc
        refine q_bipush F dL_lay_72 (by decide) ?_
        refine q_ior F dL_lay_74 ?_
        obtain ⟨k13, hw⟩ := hw
        obtain ⟨f14, e15⟩ := ex1 (upF f1 ((x6 / 4)) ((iOr ((iShl ((f1 ((x6 / 4)))) 8)) 32)))
        have hw := hw f14 e15
        have gf14 : ∀ x, inR (f14 x) := upF_in hf1 e15 (ti_rng _)
        refine g_tast F 1 rfl k13 (by decide) (T' := [((E.1 1000), iA E (nA) f0), (q1, iA E 5 f14)]) (by rw [e15]; rfl) dL_lay_75 ?_
        obtain ⟨k18, hw⟩ := hw
        obtain ⟨z16, e17⟩ := ex1 (x6 + 1)
        have hw := hw z16 e17
        have hz16 : inR z16 := by rw [e17]; exact k18
        refine q_iinc (lv' := [(0, .ref (E.1 0)), (1, .ref (E.1 1000)), (2, iV x2), (3, iV x3), (4, iV x4), (5, .ref q1), (6, iV z16)]) F 6 [1, 2, 3, 4, 5, 6, 0] dL_lay_76 rfl (q_n hN (by decide)) e17.symm rfl ?_
        refine q_goto F 28 dL_lay_79 (by decide) ?_
        exact ih x2 x3 x4 z16 q1 f0 f14 I R hx2 hx3 hx4 hz16 hf0 gf14 hm hw
      · have hw := hw.2 hc
        refine q_aload_n F 1 dL_lay_60 rfl rfl ?_
        refine q_iconst F dL_lay_61 ?_
        refine q_iload F 4 dL_lay_62 rfl ?_
        refine q_iadd F dL_lay_64 ?_
        refine q_iload F 6 dL_lay_65 rfl ?_
        refine q_iadd F dL_lay_67 ?_
        obtain ⟨k19, hw⟩ := hw
        refine g_tald F 0 rfl k19 hn0 dL_lay_68 ?_
        refine q_goto F 74 dL_lay_69 (by decide) ?_
        refine q_ior F dL_lay_74 ?_
        obtain ⟨k20, hw⟩ := hw
        obtain ⟨f21, e22⟩ := ex1 (upF f1 ((x6 / 4)) ((iOr ((iShl ((f1 ((x6 / 4)))) 8)) ((f0 (((1 + x4) + x6)))))))
        have hw := hw f21 e22
        have gf21 : ∀ x, inR (f21 x) := upF_in hf1 e22 (ti_rng _)
        refine g_tast F 1 rfl k20 (by decide) (T' := [((E.1 1000), iA E (nA) f0), (q1, iA E 5 f21)]) (by rw [e22]; rfl) dL_lay_75 ?_
        obtain ⟨k25, hw⟩ := hw
        obtain ⟨z23, e24⟩ := ex1 (x6 + 1)
        have hw := hw z23 e24
        have hz23 : inR z23 := by rw [e24]; exact k25
        refine q_iinc (lv' := [(0, .ref (E.1 0)), (1, .ref (E.1 1000)), (2, iV x2), (3, iV x3), (4, iV x4), (5, .ref q1), (6, iV z23)]) F 6 [1, 2, 3, 4, 5, 6, 0] dL_lay_76 rfl (q_n hN (by decide)) e24.symm rfl ?_
        refine q_goto F 28 dL_lay_79 (by decide) ?_
        exact ih x2 x3 x4 z23 q1 f0 f21 I R hx2 hx3 hx4 hz23 hf0 gf21 hm hw
set_option maxHeartbeats 4000000 in
set_option maxRecDepth 100000 in
theorem bL_lay_14 {X : xC} {E : cE} (F : mF X E RL cL_lay bG) (hR : X.1.2.2.2 = rmK 8 (50) (250)) (hN : X.2.2.1.2.2.2 = 7) {Q : Int → cI → cR → (Int → Int) → Prop} {nA : Nat} (hn0 : nA < 2147483648) (hret : rZP X E cL_lay (50) (250) nA Q) (hfl : X.1.2.1.stackTraces = false)   : ∀ n14 : Nat, n14 ≤ 50 → ∀ (x2 : Int) (x3 : Int) (x4 : Int) (f0 : Int → Int) (I : cI) (R : cR), inR x2 → inR x3 → inR x4 → (∀ x, inR (f0 x)) → cM I R → wL_lay_14 nA Q n14 x2 x3 x4 f0 I R → cW X (0 + (50 - n14) * 1) (0 + (50 - n14) * 5) 14 [(0, .ref (E.1 0)), (1, .ref (E.1 1000)), (2, iV x2), (3, iV x3), (4, iV x4)] [] (gw E.1 cIds (cef E (I, R)) ++ [((E.1 1000), iA E (nA) f0)]) := by
  intro n14
  induction n14 with
  | zero => intro hn14 x2 x3 x4 f0 I R hx2 hx3 hx4 hf0 hm hw; exact hw.elim
  | succ n14 ih =>
    intro hn14 x2 x3 x4 f0 I R hx2 hx3 hx4 hf0 hm hw
    change wbL_lay_14 nA Q (wL_lay_14 nA Q n14) x2 x3 x4 f0 I R at hw
    unfold wbL_lay_14 at hw
    refine q_iload F 4 dL_lay_14 rfl ?_
    refine q_iload_n F 3 dL_lay_16 rfl rfl ?_
    refine q_icmp_ge F hx4 hx3 113 dL_lay_17 (by decide) (fun hc => ?_) (fun hc => ?_)
    · have hw := hw.1 hc
      refine q_aload_n F 0 dL_lay_113 rfl rfl ?_
      refine q_iload_n F 2 dL_lay_114 rfl rfl ?_
      refine q_iload_n F 3 dL_lay_115 rfl rfl ?_
      refine q_iadd F dL_lay_116 ?_
      obtain ⟨k1, hw⟩ := hw
      refine q_Vit F (kcX11_trim hfl 0 (Or.inr (fun _ _ _ h => h)) hm k1 hw) (cIds_in (show ckd 0 = 9 ∧ 0 < 353 by decide).2) (ceMill (show ckd 0 = 9 ∧ 0 < 353 by decide).1) (ci := 9) rfl (bV wd808 wd809 wd810 wd1 wd811) rfl ⟨rfl, rfl⟩ ydX11_trim (rmK_le hR (by omega) (by decide)) (av := [iV ((x2 + x3))]) rfl rfl (Nat.le_of_ble_eq_true rfl) dL_lay_117 (rmK_cs hR (by omega) (by omega)) (fun r2 I3 R4 h5 m6 hw => ?_)
      refine q_iload_n F 2 dL_lay_120 rfl rfl ?_
      refine q_iload_n F 3 dL_lay_121 rfl rfl ?_
      refine q_iadd F dL_lay_122 ?_
      obtain ⟨k7, hw⟩ := hw
      refine q_icmp_ne F h5 k7 130 dL_lay_123 (by decide) (fun hc => ?_) (fun hc => ?_)
      · have hw := hw.1 hc
        refine q_iconst F dL_lay_130 ?_
        refine q_wide (nc' := 50) (ns' := 250) (by omega) (by omega) ?_
        exact hret _ _ _ _ _ _ _ dL_lay_131 (Or.inl rfl) (⟨by decide, by decide⟩ : inR (0)) m6 hf0 hw
      · have hw := hw.2 hc
        refine q_iconst F dL_lay_126 ?_
        refine q_goto F 131 dL_lay_127 (by decide) ?_
        refine q_wide (nc' := 50) (ns' := 250) (by omega) (by omega) ?_
        exact hret _ _ _ _ _ _ _ dL_lay_131 (Or.inr rfl) (⟨by decide, by decide⟩ : inR (1)) m6 hf0 hw
    · have hw := hw.2 hc
      refine q_iconst F dL_lay_20 ?_
      obtain ⟨f9, e10⟩ := ex1 (fun _ : Int => (0 : Int))
      have hw := hw f9 e10
      have gf9 : ∀ x, inR (f9 x) := by rw [e10]; exact fun _ => ti_0
      refine g_tnew F wd44 5 rfl (by decide) (rmK_cs (a := 1) (b := 0) (ns := 0) hR (by omega) (by omega)).1 (rmK_cs (a := 0) (nc := 0) hR (by omega) (by omega)).2 dL_lay_21 (T' := fun q8 => [((E.1 1000), iA E (nA) f0), (q8, iA E 5 f9)]) (fun q8 => by rw [e10]; rfl) (fun q8 => ?_)
      refine q_astore (lv' := [(0, .ref (E.1 0)), (1, .ref (E.1 1000)), (2, iV x2), (3, iV x3), (4, iV x4), (5, .ref q8)]) F [1, 2, 3, 4, 5, 0] dL_lay_23 (q_n hN (by decide)) rfl ?_
      refine q_iconst F dL_lay_25 ?_
      refine q_istore (lv' := [(0, .ref (E.1 0)), (1, .ref (E.1 1000)), (2, iV x2), (3, iV x3), (4, iV x4), (5, .ref q8), (6, iV 0)]) F [1, 2, 3, 4, 5, 6, 0] dL_lay_26 (q_n hN (by decide)) rfl ?_
      obtain ⟨n11, hw⟩ := hw
      exact bL_lay_28 F hR hN hn0 hret hfl (n14 := n14) hn14 (ih (by omega)) n11 x2 x3 x4 0 q8 f0 f9 I R hx2 hx3 hx4 (⟨by decide, by decide⟩ : inR (0)) hf0 gf9 hm hw
set_option maxHeartbeats 4000000 in
set_option maxRecDepth 100000 in
theorem kcL_lay {l : Launch} {D : va_G} {E : cE} (hfl : l.stackTraces = false) {nA : Nat} (hn0 : nA < 2147483648)  {I : cI} {R : cR} (hm : cM I R)  {f : Int → Int} (hf : ∀ z, inR (f z)) {Q : Int → cI → cR → (Int → Int) → Prop} (hw : wL_lay nA  f I R Q) : gM l D E pIds yL_lay vL_lay (rmK 8 (50) (250)) [.ref (E.1 0), .ref (E.1 1000)] (pef E nA ((I, R), f)) (pef E nA) (pIP Q) (50) (250) := by
  unfold wL_lay at hw
  refine k_ofW (own := RL) (cc := cL_lay) (maxL := 7) (ret := (some .boolean)) (lv := [(0, .ref (E.1 0)), (1, .ref (E.1 1000))]) (by decide) rfl rfl (Nat.le_of_ble_eq_true rfl) rfl ?_
  intro X hl hR hN hD F K
  subst hl; subst hD
  have hret := mk_rZP (Q := Q) F K
  rw [p_split]
  refine q_aload_n F 0 dL_lay_0 rfl rfl ?_
  refine q_bipush F dL_lay_1 (by decide) ?_
  refine q_Vit F (kcX11_count hfl 0 (Or.inr (fun _ _ _ h => h)) hm (⟨by decide, by decide⟩ : inR (9)) hw) (cIds_in (show ckd 0 = 9 ∧ 0 < 353 by decide).2) (ceMill (show ckd 0 = 9 ∧ 0 < 353 by decide).1) (ci := 9) rfl (bV wd408 wd409 wd410 wd1 wd411) rfl ⟨rfl, rfl⟩ ydX11_count (rmK_le hR (by omega) (by decide)) (av := [iV 9]) rfl rfl (Nat.le_of_ble_eq_true rfl) dL_lay_3 (rmK_cs hR (by omega) (by omega)) (fun r1 I2 R3 h4 m5 hw => ?_)
  refine q_istore_n (lv' := [(0, .ref (E.1 0)), (1, .ref (E.1 1000)), (2, iV r1)]) F [1, 2, 0] dL_lay_6 rfl (q_n hN (by decide)) rfl ?_
  refine q_aload_n F 1 dL_lay_7 rfl rfl ?_
  refine q_iconst F dL_lay_8 ?_
  obtain ⟨k6, hw⟩ := hw
  refine g_tald F 0 rfl k6 hn0 dL_lay_9 ?_
  obtain ⟨z7, e8⟩ := ex1 ((f 0))
  have hw := hw z7 e8
  have hz7 : inR z7 := by rw [e8]; exact (hf _)
  refine q_top e8 ?_
  refine q_istore_n (lv' := [(0, .ref (E.1 0)), (1, .ref (E.1 1000)), (2, iV r1), (3, iV z7)]) F [1, 2, 3, 0] dL_lay_10 rfl (q_n hN (by decide)) rfl ?_
  refine q_iconst F dL_lay_11 ?_
  refine q_istore (lv' := [(0, .ref (E.1 0)), (1, .ref (E.1 1000)), (2, iV r1), (3, iV z7), (4, iV 0)]) F [1, 2, 3, 4, 0] dL_lay_12 (q_n hN (by decide)) rfl ?_
  obtain ⟨n9, hB, hw⟩ := hw
  refine q_wide (nc' := ?w4a) (ns' := ?w4b) ?w4c ?w4d ?w4e
  case w4e => exact bL_lay_14 F hR hN hn0 hret hfl n9 hB r1 z7 0 f I2 R3 h4 hz7 (⟨by decide, by decide⟩ : inR (0)) hf m5 hw
  all_goals omega
theorem ydL_holds : yL_holds.cls = RL ∧ yL_holds.cls ≠ "java/lang/invoke/MethodHandle" ∧ yL_holds.cls ≠ "java/lang/invoke/VarHandle" ∧ (parseMethodDescriptor yL_holds.desc).map (fun d => d.parameters.length) = some 3 := by decide +kernel
def vL_holds : List Cond := Cond.code yL_holds cL_holds 21 (some .boolean) :: bG
set_option maxHeartbeats 4000000 in
set_option maxRecDepth 100000 in
theorem bL_holds_408 {X : xC} {E : cE} (F : mF X E RL cL_holds bG) (hR : X.1.2.2.2 = rmK 9 (1) (12)) (hN : X.2.2.1.2.2.2 = 21) {Q : Int → cI → cR → (Int → Int) → Prop} (hret : rZP X E cL_holds (1) (12) 4 Q) (hfl : X.1.2.1.stackTraces = false) {a1 : Int} (ha1 : inR a1) : ∀ (x3 : Int) (x14 : Int) (x16 : Int) (y2 : Int) (y3 : Int) (q1 : Nat) (f0 : Int → Int) (f1 : Int → Int) (I : cI) (R : cR), inR x3 → inR x14 → inR x16 → inR y2 → inR y3 → (∀ x, inR (f0 x)) → (∀ x, inR (f1 x)) → cM I R → wL_holds_408 Q a1 x3 x14 x16 y2 y3 f0 f1 I R → cW X (1) (12) 408 [(3, iV x3), (14, iV x14), (16, iV x16)] [iV y3, iV y2, .ref q1, .ref q1] (gw E.1 cIds (cef E (I, R)) ++ [((E.1 1000), iA E 4 f0), (q1, bA E 12 f1)]) := by
  intro x3 x14 x16 y2 y3 q1 f0 f1 I R hx3 hx14 hx16 hy2 hy3 hf0 hf1 hm hw
  unfold wL_holds_408 at hw
  obtain ⟨k1, hw⟩ := hw
  obtain ⟨k2, hw⟩ := hw
  obtain ⟨f3, e4⟩ := ex1 (upF f1 y2 y3)
  have hw := hw f3 e4
  have gf3 : ∀ x, inR (f3 x) := upF_in hf1 e4 hy3
  refine g_bast F (cIds.length + 1) (gw_tmp 1 rfl) k1 (by decide) k2 (T' := gw E.1 cIds (cef E (I, R)) ++ [((E.1 1000), iA E 4 f0), (q1, bA E 12 f3)]) (by rw [gw_setT, e4]; rfl) dL_holds_408 ?_
  refine q_dup F dL_holds_409 rfl ?_
  refine q_bipush F dL_holds_410 (by decide) ?_
  refine q_iload F 2 dL_holds_412 rfl ?_
  obtain ⟨k5, hw⟩ := hw
  obtain ⟨f6, e7⟩ := ex1 (upF f3 10 x16)
  have hw := hw f6 e7
  have gf6 : ∀ x, inR (f6 x) := upF_in gf3 e7 hx16
  refine g_bast F (cIds.length + 1) (gw_tmp 1 rfl) (⟨by decide, by decide⟩ : 0 ≤ (10 : Int) ∧ (10 : Int) < 12) (by decide) k5 (T' := gw E.1 cIds (cef E (I, R)) ++ [((E.1 1000), iA E 4 f0), (q1, bA E 12 f6)]) (by rw [gw_setT, e7]; rfl) dL_holds_414 ?_
  refine q_dup F dL_holds_415 rfl ?_
  refine q_bipush F dL_holds_416 (by decide) ?_
  refine q_iload F 1 dL_holds_418 rfl ?_
  obtain ⟨k8, hw⟩ := hw
  obtain ⟨f9, e10⟩ := ex1 (upF f6 11 x14)
  have hw := hw f9 e10
  have gf9 : ∀ x, inR (f9 x) := upF_in gf6 e10 hx14
  refine g_bast F (cIds.length + 1) (gw_tmp 1 rfl) (⟨by decide, by decide⟩ : 0 ≤ (11 : Int) ∧ (11 : Int) < 12) (by decide) k8 (T' := gw E.1 cIds (cef E (I, R)) ++ [((E.1 1000), iA E 4 f0), (q1, bA E 12 f9)]) (by rw [gw_setT, e10]; rfl) dL_holds_420 ?_
  refine q_astore (lv' := [(3, iV x3), (14, iV x14), (16, iV x16), (17, .ref q1)]) F [1, 2, 3, 0] dL_holds_421 (q_n hN (by decide)) rfl ?_
  refine q_aload F 3 dL_holds_423 rfl ?_
  refine q_iload_n F 0 dL_holds_425 rfl rfl ?_
  obtain ⟨k11, hw⟩ := hw
  refine g_bald F (cIds.length + 1) (gw_tmp 1 rfl) k11 (by decide) dL_holds_426 ?_
  obtain ⟨k12, hw⟩ := hw
  exact hret _ _ _ _ _ _ _ dL_holds_427 k12 (gf9 _) hm hf0 hw
set_option maxHeartbeats 4000000 in
set_option maxRecDepth 100000 in
theorem bL_holds_393 {X : xC} {E : cE} (F : mF X E RL cL_holds bG) (hR : X.1.2.2.2 = rmK 9 (1) (12)) (hN : X.2.2.1.2.2.2 = 21) {Q : Int → cI → cR → (Int → Int) → Prop} (hret : rZP X E cL_holds (1) (12) 4 Q) (hfl : X.1.2.1.stackTraces = false) {a1 : Int} (ha1 : inR a1) : ∀ (x3 : Int) (x10 : Int) (x14 : Int) (x16 : Int) (y2 : Int) (y3 : Int) (q1 : Nat) (f0 : Int → Int) (f1 : Int → Int) (I : cI) (R : cR), inR x3 → inR x10 → inR x14 → inR x16 → inR y2 → inR y3 → (∀ x, inR (f0 x)) → (∀ x, inR (f1 x)) → cM I R → wL_holds_393 Q a1 x3 x10 x14 x16 y2 y3 f0 f1 I R → cW X (1) (12) 393 [(3, iV x3), (10, iV x10), (14, iV x14), (16, iV x16)] [iV y3, iV y2, .ref q1, .ref q1] (gw E.1 cIds (cef E (I, R)) ++ [((E.1 1000), iA E 4 f0), (q1, bA E 12 f1)]) := by
  intro x3 x10 x14 x16 y2 y3 q1 f0 f1 I R hx3 hx10 hx14 hx16 hy2 hy3 hf0 hf1 hm hw
  unfold wL_holds_393 at hw
  obtain ⟨k1, hw⟩ := hw
  obtain ⟨k2, hw⟩ := hw
  obtain ⟨f3, e4⟩ := ex1 (upF f1 y2 y3)
  have hw := hw f3 e4
  have gf3 : ∀ x, inR (f3 x) := upF_in hf1 e4 hy3
  refine g_bast F (cIds.length + 1) (gw_tmp 1 rfl) k1 (by decide) k2 (T' := gw E.1 cIds (cef E (I, R)) ++ [((E.1 1000), iA E 4 f0), (q1, bA E 12 f3)]) (by rw [gw_setT, e4]; rfl) dL_holds_393 ?_
  refine q_dup F dL_holds_394 rfl ?_
  refine q_bipush F dL_holds_395 (by decide) ?_
  refine q_iload F 1 dL_holds_397 rfl ?_
  refine q_iconst F dL_holds_399 ?_
  refine q_icmp_ne F hx10 (⟨by decide, by decide⟩ : inR (1)) 407 dL_holds_400 (by decide) (fun hc => ?_) (fun hc => ?_)
  · have hw := hw.1 hc
    refine q_iconst F dL_holds_407 ?_
    refine q_lv [0, 2, 3] rfl ?_
    exact bL_holds_408 F hR hN hret hfl ha1 x3 x14 x16 9 0 q1 f0 f3 I R hx3 hx14 hx16 (⟨by decide, by decide⟩ : inR (9)) (⟨by decide, by decide⟩ : inR (0)) hf0 gf3 hm hw
  · have hw := hw.2 hc
    refine q_iconst F dL_holds_403 ?_
    refine q_goto F 408 dL_holds_404 (by decide) ?_
    refine q_lv [0, 2, 3] rfl ?_
    exact bL_holds_408 F hR hN hret hfl ha1 x3 x14 x16 9 1 q1 f0 f3 I R hx3 hx14 hx16 (⟨by decide, by decide⟩ : inR (9)) (⟨by decide, by decide⟩ : inR (1)) hf0 gf3 hm hw
set_option maxHeartbeats 4000000 in
set_option maxRecDepth 100000 in
theorem bL_holds_361 {X : xC} {E : cE} (F : mF X E RL cL_holds bG) (hR : X.1.2.2.2 = rmK 9 (1) (12)) (hN : X.2.2.1.2.2.2 = 21) {Q : Int → cI → cR → (Int → Int) → Prop} (hret : rZP X E cL_holds (1) (12) 4 Q) (hfl : X.1.2.1.stackTraces = false) {a1 : Int} (ha1 : inR a1) : ∀ (x3 : Int) (x10 : Int) (x11 : Int) (x12 : Int) (x14 : Int) (x16 : Int) (y2 : Int) (y3 : Int) (q1 : Nat) (f0 : Int → Int) (f1 : Int → Int) (I : cI) (R : cR), inR x3 → inR x10 → inR x11 → inR x12 → inR x14 → inR x16 → inR y2 → inR y3 → (∀ x, inR (f0 x)) → (∀ x, inR (f1 x)) → cM I R → wL_holds_361 Q a1 x3 x10 x11 x12 x14 x16 y2 y3 f0 f1 I R → cW X (1) (12) 361 [(0, .ref (E.1 0)), (1, iV a1), (3, iV x3), (10, iV x10), (11, iV x11), (12, iV x12), (14, iV x14), (16, iV x16)] [iV y3, iV y2, .ref q1, .ref q1] (gw E.1 cIds (cef E (I, R)) ++ [((E.1 1000), iA E 4 f0), (q1, bA E 12 f1)]) := by
  intro x3 x10 x11 x12 x14 x16 y2 y3 q1 f0 f1 I R hx3 hx10 hx11 hx12 hx14 hx16 hy2 hy3 hf0 hf1 hm hw
  unfold wL_holds_361 at hw
  obtain ⟨k1, hw⟩ := hw
  obtain ⟨k2, hw⟩ := hw
  obtain ⟨f3, e4⟩ := ex1 (upF f1 y2 y3)
  have hw := hw f3 e4
  have gf3 : ∀ x, inR (f3 x) := upF_in hf1 e4 hy3
  refine g_bast F (cIds.length + 1) (gw_tmp 1 rfl) k1 (by decide) k2 (T' := gw E.1 cIds (cef E (I, R)) ++ [((E.1 1000), iA E 4 f0), (q1, bA E 12 f3)]) (by rw [gw_setT, e4]; rfl) dL_holds_361 ?_
  refine q_dup F dL_holds_362 rfl ?_
  refine q_bipush F dL_holds_363 (by decide) ?_
  refine q_iload F 4 dL_holds_365 rfl ?_
  obtain ⟨k5, hw⟩ := hw
  obtain ⟨f6, e7⟩ := ex1 (upF f3 6 x11)
  have hw := hw f6 e7
  have gf6 : ∀ x, inR (f6 x) := upF_in gf3 e7 hx11
  refine g_bast F (cIds.length + 1) (gw_tmp 1 rfl) (⟨by decide, by decide⟩ : 0 ≤ (6 : Int) ∧ (6 : Int) < 12) (by decide) k5 (T' := gw E.1 cIds (cef E (I, R)) ++ [((E.1 1000), iA E 4 f0), (q1, bA E 12 f6)]) (by rw [gw_setT, e7]; rfl) dL_holds_367 ?_
  refine q_dup F dL_holds_368 rfl ?_
  refine q_bipush F dL_holds_369 (by decide) ?_
  refine q_iload F 5 dL_holds_371 rfl ?_
  obtain ⟨k8, hw⟩ := hw
  obtain ⟨f9, e10⟩ := ex1 (upF f6 7 x12)
  have hw := hw f9 e10
  have gf9 : ∀ x, inR (f9 x) := upF_in gf6 e10 hx12
  refine g_bast F (cIds.length + 1) (gw_tmp 1 rfl) (⟨by decide, by decide⟩ : 0 ≤ (7 : Int) ∧ (7 : Int) < 12) (by decide) k8 (T' := gw E.1 cIds (cef E (I, R)) ++ [((E.1 1000), iA E 4 f0), (q1, bA E 12 f9)]) (by rw [gw_setT, e10]; rfl) dL_holds_373 ?_
  refine q_dup F dL_holds_374 rfl ?_
  refine q_bipush F dL_holds_375 (by decide) ?_
  refine q_iload F 3 dL_holds_377 rfl ?_
  refine q_aload_n F 0 dL_holds_379 rfl rfl ?_
  refine q_iload_n F 1 dL_holds_380 rfl rfl ?_
  refine q_iconst F dL_holds_381 ?_
  refine q_Vit F (kcX11_rule hfl 0 (Or.inr (fun _ _ _ h => h)) hm ha1 (⟨by decide, by decide⟩ : inR (2)) hw) (cIds_in (show ckd 0 = 9 ∧ 0 < 353 by decide).2) (ceMill (show ckd 0 = 9 ∧ 0 < 353 by decide).1) (ci := 9) rfl (bV wd503 wd504 wd505 wd1 wd506) rfl ⟨rfl, rfl⟩ ydX11_rule (rmK_le hR (by omega) (by decide)) (av := [iV a1, iV 2]) rfl rfl (Nat.le_of_ble_eq_true rfl) dL_holds_382 (rmK_cs hR (by omega) (by omega)) (fun r11 I12 R13 h14 m15 hw => ?_)
  refine q_icmp_ne F hx10 h14 392 dL_holds_385 (by decide) (fun hc => ?_) (fun hc => ?_)
  · have hw := hw.1 hc
    refine q_iconst F dL_holds_392 ?_
    refine q_lv [2, 3, 6, 7] rfl ?_
    exact bL_holds_393 F hR hN hret hfl ha1 x3 x10 x14 x16 8 0 q1 f0 f9 I12 R13 hx3 hx10 hx14 hx16 (⟨by decide, by decide⟩ : inR (8)) (⟨by decide, by decide⟩ : inR (0)) hf0 gf9 m15 hw
  · have hw := hw.2 hc
    refine q_iconst F dL_holds_388 ?_
    refine q_goto F 393 dL_holds_389 (by decide) ?_
    refine q_lv [2, 3, 6, 7] rfl ?_
    exact bL_holds_393 F hR hN hret hfl ha1 x3 x10 x14 x16 8 1 q1 f0 f9 I12 R13 hx3 hx10 hx14 hx16 (⟨by decide, by decide⟩ : inR (8)) (⟨by decide, by decide⟩ : inR (1)) hf0 gf9 m15 hw
set_option maxHeartbeats 4000000 in
set_option maxRecDepth 100000 in
theorem bL_holds_336 {X : xC} {E : cE} (F : mF X E RL cL_holds bG) (hR : X.1.2.2.2 = rmK 9 (1) (12)) (hN : X.2.2.1.2.2.2 = 21) {Q : Int → cI → cR → (Int → Int) → Prop} (hret : rZP X E cL_holds (1) (12) 4 Q) (hfl : X.1.2.1.stackTraces = false) {a1 : Int} (ha1 : inR a1) : ∀ (x3 : Int) (x4 : Int) (x8 : Int) (x10 : Int) (x11 : Int) (x12 : Int) (x14 : Int) (x15 : Int) (x16 : Int) (y2 : Int) (y3 : Int) (q1 : Nat) (f0 : Int → Int) (f1 : Int → Int) (I : cI) (R : cR), inR x3 → inR x4 → inR x8 → inR x10 → inR x11 → inR x12 → inR x14 → inR x15 → inR x16 → inR y2 → inR y3 → (∀ x, inR (f0 x)) → (∀ x, inR (f1 x)) → cM I R → wL_holds_336 Q a1 x3 x4 x8 x10 x11 x12 x14 x15 x16 y2 y3 f0 f1 I R → cW X (1) (12) 336 [(0, .ref (E.1 0)), (1, iV a1), (3, iV x3), (4, iV x4), (8, iV x8), (10, iV x10), (11, iV x11), (12, iV x12), (14, iV x14), (15, iV x15), (16, iV x16)] [iV y3, iV y2, .ref q1, .ref q1] (gw E.1 cIds (cef E (I, R)) ++ [((E.1 1000), iA E 4 f0), (q1, bA E 12 f1)]) := by
  intro x3 x4 x8 x10 x11 x12 x14 x15 x16 y2 y3 q1 f0 f1 I R hx3 hx4 hx8 hx10 hx11 hx12 hx14 hx15 hx16 hy2 hy3 hf0 hf1 hm hw
  unfold wL_holds_336 at hw
  obtain ⟨k1, hw⟩ := hw
  obtain ⟨k2, hw⟩ := hw
  obtain ⟨f3, e4⟩ := ex1 (upF f1 y2 y3)
  have hw := hw f3 e4
  have gf3 : ∀ x, inR (f3 x) := upF_in hf1 e4 hy3
  refine g_bast F (cIds.length + 1) (gw_tmp 1 rfl) k1 (by decide) k2 (T' := gw E.1 cIds (cef E (I, R)) ++ [((E.1 1000), iA E 4 f0), (q1, bA E 12 f3)]) (by rw [gw_setT, e4]; rfl) dL_holds_336 ?_
  refine q_dup F dL_holds_337 rfl ?_
  refine q_iconst F dL_holds_338 ?_
  refine q_iload F 9 dL_holds_339 rfl ?_
  obtain ⟨k5, hw⟩ := hw
  obtain ⟨f6, e7⟩ := ex1 (upF f3 3 x15)
  have hw := hw f6 e7
  have gf6 : ∀ x, inR (f6 x) := upF_in gf3 e7 hx15
  refine g_bast F (cIds.length + 1) (gw_tmp 1 rfl) (⟨by decide, by decide⟩ : 0 ≤ (3 : Int) ∧ (3 : Int) < 12) (by decide) k5 (T' := gw E.1 cIds (cef E (I, R)) ++ [((E.1 1000), iA E 4 f0), (q1, bA E 12 f6)]) (by rw [gw_setT, e7]; rfl) dL_holds_341 ?_
  refine q_dup F dL_holds_342 rfl ?_
  refine q_iconst F dL_holds_343 ?_
  refine q_iload F 9 dL_holds_344 rfl ?_
  obtain ⟨k8, hw⟩ := hw
  obtain ⟨f9, e10⟩ := ex1 (upF f6 4 x15)
  have hw := hw f9 e10
  have gf9 : ∀ x, inR (f9 x) := upF_in gf6 e10 hx15
  refine g_bast F (cIds.length + 1) (gw_tmp 1 rfl) (⟨by decide, by decide⟩ : 0 ≤ (4 : Int) ∧ (4 : Int) < 12) (by decide) k8 (T' := gw E.1 cIds (cef E (I, R)) ++ [((E.1 1000), iA E 4 f0), (q1, bA E 12 f9)]) (by rw [gw_setT, e10]; rfl) dL_holds_346 ?_
  refine q_dup F dL_holds_347 rfl ?_
  refine q_iconst F dL_holds_348 ?_
  refine q_iload F 4 dL_holds_349 rfl ?_
  refine q_iload F 3 dL_holds_351 rfl ?_
  refine q_icmp_ne F hx8 hx4 360 dL_holds_353 (by decide) (fun hc => ?_) (fun hc => ?_)
  · have hw := hw.1 hc
    refine q_iconst F dL_holds_360 ?_
    refine q_lv [0, 1, 2, 5, 6, 7, 8, 10] rfl ?_
    exact bL_holds_361 F hR hN hret hfl ha1 x3 x10 x11 x12 x14 x16 5 0 q1 f0 f9 I R hx3 hx10 hx11 hx12 hx14 hx16 (⟨by decide, by decide⟩ : inR (5)) (⟨by decide, by decide⟩ : inR (0)) hf0 gf9 hm hw
  · have hw := hw.2 hc
    refine q_iconst F dL_holds_356 ?_
    refine q_goto F 361 dL_holds_357 (by decide) ?_
    refine q_lv [0, 1, 2, 5, 6, 7, 8, 10] rfl ?_
    exact bL_holds_361 F hR hN hret hfl ha1 x3 x10 x11 x12 x14 x16 5 1 q1 f0 f9 I R hx3 hx10 hx11 hx12 hx14 hx16 (⟨by decide, by decide⟩ : inR (5)) (⟨by decide, by decide⟩ : inR (1)) hf0 gf9 hm hw
set_option maxHeartbeats 4000000 in
set_option maxRecDepth 100000 in
theorem bL_holds_321 {X : xC} {E : cE} (F : mF X E RL cL_holds bG) (hR : X.1.2.2.2 = rmK 9 (1) (12)) (hN : X.2.2.1.2.2.2 = 21) {Q : Int → cI → cR → (Int → Int) → Prop} (hret : rZP X E cL_holds (1) (12) 4 Q) (hfl : X.1.2.1.stackTraces = false) {a1 : Int} (ha1 : inR a1) : ∀ (x3 : Int) (x4 : Int) (x7 : Int) (x8 : Int) (x10 : Int) (x11 : Int) (x12 : Int) (x14 : Int) (x15 : Int) (x16 : Int) (y2 : Int) (y3 : Int) (q1 : Nat) (f0 : Int → Int) (f1 : Int → Int) (I : cI) (R : cR), inR x3 → inR x4 → inR x7 → inR x8 → inR x10 → inR x11 → inR x12 → inR x14 → inR x15 → inR x16 → inR y2 → inR y3 → (∀ x, inR (f0 x)) → (∀ x, inR (f1 x)) → cM I R → wL_holds_321 Q a1 x3 x4 x7 x8 x10 x11 x12 x14 x15 x16 y2 y3 f0 f1 I R → cW X (1) (12) 321 [(0, .ref (E.1 0)), (1, iV a1), (3, iV x3), (4, iV x4), (7, iV x7), (8, iV x8), (10, iV x10), (11, iV x11), (12, iV x12), (14, iV x14), (15, iV x15), (16, iV x16)] [iV y3, iV y2, .ref q1, .ref q1] (gw E.1 cIds (cef E (I, R)) ++ [((E.1 1000), iA E 4 f0), (q1, bA E 12 f1)]) := by
  intro x3 x4 x7 x8 x10 x11 x12 x14 x15 x16 y2 y3 q1 f0 f1 I R hx3 hx4 hx7 hx8 hx10 hx11 hx12 hx14 hx15 hx16 hy2 hy3 hf0 hf1 hm hw
  unfold wL_holds_321 at hw
  obtain ⟨k1, hw⟩ := hw
  obtain ⟨k2, hw⟩ := hw
  obtain ⟨f3, e4⟩ := ex1 (upF f1 y2 y3)
  have hw := hw f3 e4
  have gf3 : ∀ x, inR (f3 x) := upF_in hf1 e4 hy3
  refine g_bast F (cIds.length + 1) (gw_tmp 1 rfl) k1 (by decide) k2 (T' := gw E.1 cIds (cef E (I, R)) ++ [((E.1 1000), iA E 4 f0), (q1, bA E 12 f3)]) (by rw [gw_setT, e4]; rfl) dL_holds_321 ?_
  refine q_dup F dL_holds_322 rfl ?_
  refine q_iconst F dL_holds_323 ?_
  refine q_iload F 4 dL_holds_324 rfl ?_
  refine q_iload F 3 dL_holds_326 rfl ?_
  refine q_icmp_ne F hx7 hx4 335 dL_holds_328 (by decide) (fun hc => ?_) (fun hc => ?_)
  · have hw := hw.1 hc
    refine q_iconst F dL_holds_335 ?_
    refine q_lv [0, 1, 2, 3, 5, 6, 7, 8, 9, 10, 11] rfl ?_
    exact bL_holds_336 F hR hN hret hfl ha1 x3 x4 x8 x10 x11 x12 x14 x15 x16 2 0 q1 f0 f3 I R hx3 hx4 hx8 hx10 hx11 hx12 hx14 hx15 hx16 (⟨by decide, by decide⟩ : inR (2)) (⟨by decide, by decide⟩ : inR (0)) hf0 gf3 hm hw
  · have hw := hw.2 hc
    refine q_iconst F dL_holds_331 ?_
    refine q_goto F 336 dL_holds_332 (by decide) ?_
    refine q_lv [0, 1, 2, 3, 5, 6, 7, 8, 9, 10, 11] rfl ?_
    exact bL_holds_336 F hR hN hret hfl ha1 x3 x4 x8 x10 x11 x12 x14 x15 x16 2 1 q1 f0 f3 I R hx3 hx4 hx8 hx10 hx11 hx12 hx14 hx15 hx16 (⟨by decide, by decide⟩ : inR (2)) (⟨by decide, by decide⟩ : inR (1)) hf0 gf3 hm hw
set_option maxHeartbeats 4000000 in
set_option maxRecDepth 100000 in
theorem bL_holds_251 {X : xC} {E : cE} (F : mF X E RL cL_holds bG) (hR : X.1.2.2.2 = rmK 9 (1) (12)) (hN : X.2.2.1.2.2.2 = 21) {Q : Int → cI → cR → (Int → Int) → Prop} (hret : rZP X E cL_holds (1) (12) 4 Q) (hfl : X.1.2.1.stackTraces = false) {a1 : Int} (ha1 : inR a1) {K59 : Int → Int → Int → Int → Int → Int → Int → Int → Int → Int → Int → Int → Int → Int → Int → (Int → Int) → cI → cR → Prop} {K174 : Int → Int → Int → Int → Int → Int → Int → Int → Int → Int → Int → Int → Int → Int → Int → Int → Int → (Int → Int) → cI → cR → Prop} (hK59 : ∀ (x3 : Int) (x4 : Int) (x5 : Int) (x6 : Int) (x7 : Int) (x8 : Int) (x9 : Int) (x10 : Int) (x11 : Int) (x12 : Int) (x13 : Int) (x14 : Int) (x15 : Int) (x16 : Int) (x17 : Int) (f0 : Int → Int) (I : cI) (R : cR), inR x3 → inR x4 → inR x5 → inR x6 → inR x7 → inR x8 → inR x9 → inR x10 → inR x11 → inR x12 → inR x13 → inR x14 → inR x15 → inR x16 → inR x17 → (∀ x, inR (f0 x)) → cM I R → K59 x3 x4 x5 x6 x7 x8 x9 x10 x11 x12 x13 x14 x15 x16 x17 f0 I R → cW X (0) (0) 59 [(0, .ref (E.1 0)), (1, iV a1), (2, .ref (E.1 1000)), (3, iV x3), (4, iV x4), (5, iV x5), (6, iV x6), (7, iV x7), (8, iV x8), (9, iV x9), (10, iV x10), (11, iV x11), (12, iV x12), (13, iV x13), (14, iV x14), (15, iV x15), (16, iV x16), (17, iV x17)] [] (gw E.1 cIds (cef E (I, R)) ++ [((E.1 1000), iA E 4 f0)])) (hK174 : ∀ (x3 : Int) (x4 : Int) (x5 : Int) (x6 : Int) (x7 : Int) (x8 : Int) (x9 : Int) (x10 : Int) (x11 : Int) (x12 : Int) (x13 : Int) (x14 : Int) (x15 : Int) (x16 : Int) (x17 : Int) (x18 : Int) (x19 : Int) (f0 : Int → Int) (I : cI) (R : cR), inR x3 → inR x4 → inR x5 → inR x6 → inR x7 → inR x8 → inR x9 → inR x10 → inR x11 → inR x12 → inR x13 → inR x14 → inR x15 → inR x16 → inR x17 → inR x18 → inR x19 → (∀ x, inR (f0 x)) → cM I R → K174 x3 x4 x5 x6 x7 x8 x9 x10 x11 x12 x13 x14 x15 x16 x17 x18 x19 f0 I R → cW X (0) (0) 174 [(0, .ref (E.1 0)), (1, iV a1), (2, .ref (E.1 1000)), (3, iV x3), (4, iV x4), (5, iV x5), (6, iV x6), (7, iV x7), (8, iV x8), (9, iV x9), (10, iV x10), (11, iV x11), (12, iV x12), (13, iV x13), (14, iV x14), (15, iV x15), (16, iV x16), (17, iV x17), (18, iV x18), (19, iV x19)] [] (gw E.1 cIds (cef E (I, R)) ++ [((E.1 1000), iA E 4 f0)])) : ∀ (x3 : Int) (x4 : Int) (x5 : Int) (x6 : Int) (x7 : Int) (x8 : Int) (x9 : Int) (x10 : Int) (x11 : Int) (x12 : Int) (x13 : Int) (x14 : Int) (x16 : Int) (x17 : Int) (x18 : Int) (x19 : Int) (x20 : Int) (y0 : Int) (y1 : Int) (f0 : Int → Int) (I : cI) (R : cR), inR x3 → inR x4 → inR x5 → inR x6 → inR x7 → inR x8 → inR x9 → inR x10 → inR x11 → inR x12 → inR x13 → inR x14 → inR x16 → inR x17 → inR x18 → inR x19 → inR x20 → inR y0 → inR y1 → (∀ x, inR (f0 x)) → cM I R → wL_holds_251 Q a1 K59 K174 x3 x4 x5 x6 x7 x8 x9 x10 x11 x12 x13 x14 x16 x17 x18 x19 x20 y0 y1 f0 I R → cW X (0) (0) 251 [(0, .ref (E.1 0)), (1, iV a1), (2, .ref (E.1 1000)), (3, iV x3), (4, iV x4), (5, iV x5), (6, iV x6), (7, iV x7), (8, iV x8), (9, iV x9), (10, iV x10), (11, iV x11), (12, iV x12), (13, iV x13), (14, iV x14), (16, iV x16), (17, iV x17), (18, iV x18), (19, iV x19), (20, iV x20)] [iV y1, iV y0] (gw E.1 cIds (cef E (I, R)) ++ [((E.1 1000), iA E 4 f0)]) := by
  intro x3 x4 x5 x6 x7 x8 x9 x10 x11 x12 x13 x14 x16 x17 x18 x19 x20 y0 y1 f0 I R hx3 hx4 hx5 hx6 hx7 hx8 hx9 hx10 hx11 hx12 hx13 hx14 hx16 hx17 hx18 hx19 hx20 hy0 hy1 hf0 hm hw
  unfold wL_holds_251 at hw
  refine q_iand F dL_holds_251 ?_
  obtain ⟨z1, e2⟩ := ex1 ((iAnd y0 y1))
  have hw := hw z1 e2
  have hz1 : inR z1 := by rw [e2]; exact (ti_rng _)
  refine q_top e2 ?_
  refine q_istore (lv' := [(0, .ref (E.1 0)), (1, iV a1), (2, .ref (E.1 1000)), (3, iV x3), (4, iV x4), (5, iV x5), (6, iV x6), (7, iV x7), (8, iV x8), (9, iV x9), (10, iV x10), (11, iV x11), (12, iV x12), (13, iV x13), (14, iV x14), (15, iV z1), (16, iV x16), (17, iV x17), (18, iV x18), (19, iV x19), (20, iV x20)]) F [1, 2, 3, 4, 5, 6, 7, 8, 9, 10, 11, 12, 13, 14, 15, 0, 16, 17, 18, 19, 20] dL_holds_252 (q_n hN (by decide)) rfl ?_
  refine q_iload F 16 dL_holds_254 rfl ?_
  refine q_iload F 19 dL_holds_256 rfl ?_
  refine q_iconst F dL_holds_258 ?_
  refine q_iadd F dL_holds_259 ?_
  refine q_iload F 17 dL_holds_260 rfl ?_
  obtain ⟨k3, hw⟩ := hw
  refine q_icmp_lt F k3 hx17 278 dL_holds_262 (by decide) (fun hc => ?_) (fun hc => ?_)
  · have hw := hw.1 hc
    refine q_iconst F dL_holds_278 ?_
    refine q_goto F 283 dL_holds_279 (by decide) ?_
    refine q_iand F dL_holds_283 ?_
    obtain ⟨z4, e5⟩ := ex1 ((iAnd x16 1))
    have hw := hw z4 e5
    have hz4 : inR z4 := by rw [e5]; exact (ti_rng _)
    refine q_top e5 ?_
    refine q_istore (lv' := [(0, .ref (E.1 0)), (1, iV a1), (2, .ref (E.1 1000)), (3, iV x3), (4, iV x4), (5, iV x5), (6, iV x6), (7, iV x7), (8, iV x8), (9, iV x9), (10, iV x10), (11, iV x11), (12, iV x12), (13, iV x13), (14, iV x14), (15, iV z1), (16, iV z4), (17, iV x17), (18, iV x18), (19, iV x19), (20, iV x20)]) F [1, 2, 3, 4, 5, 6, 7, 8, 9, 10, 11, 12, 13, 14, 15, 16, 0, 17, 18, 19, 20] dL_holds_284 (q_n hN (by decide)) rfl ?_
    obtain ⟨k8, hw⟩ := hw
    obtain ⟨z6, e7⟩ := ex1 (x19 + 1)
    have hw := hw z6 e7
    have hz6 : inR z6 := by rw [e7]; exact k8
    refine q_iinc (lv' := [(0, .ref (E.1 0)), (1, iV a1), (2, .ref (E.1 1000)), (3, iV x3), (4, iV x4), (5, iV x5), (6, iV x6), (7, iV x7), (8, iV x8), (9, iV x9), (10, iV x10), (11, iV x11), (12, iV x12), (13, iV x13), (14, iV x14), (15, iV z1), (16, iV z4), (17, iV x17), (18, iV x18), (19, iV z6), (20, iV x20)]) F 19 [1, 2, 3, 4, 5, 6, 7, 8, 9, 10, 11, 12, 13, 14, 15, 16, 17, 18, 19, 0, 20] dL_holds_286 rfl (q_n hN (by decide)) e7.symm rfl ?_
    refine q_goto F 174 dL_holds_289 (by decide) ?_
    refine q_lv [0, 1, 2, 3, 4, 5, 6, 7, 8, 9, 10, 11, 12, 13, 14, 15, 16, 17, 18, 19] rfl ?_
    exact hK174 x3 x4 x5 x6 x7 x8 x9 x10 x11 x12 x13 x14 z1 z4 x17 x18 z6 f0 I R hx3 hx4 hx5 hx6 hx7 hx8 hx9 hx10 hx11 hx12 hx13 hx14 hz1 hz4 hx17 hx18 hz6 hf0 hm hw
  · have hw := hw.2 hc
    refine q_iload F 20 dL_holds_265 rfl ?_
    refine q_iload F 18 dL_holds_267 rfl ?_
    refine q_isub F dL_holds_269 ?_
    obtain ⟨k9, hw⟩ := hw
    refine q_abs F hR (by omega) k9 wd817 dL_holds_270 (Nat.le_of_ble_eq_true rfl) ?_
    refine q_iload F 4 dL_holds_273 rfl ?_
    obtain ⟨k10, hw⟩ := hw
    refine q_icmp_lt F k10 hx4 282 dL_holds_275 (by decide) (fun hc => ?_) (fun hc => ?_)
    · have hw := hw.1 hc
      refine q_iconst F dL_holds_282 ?_
      refine q_iand F dL_holds_283 ?_
      obtain ⟨z11, e12⟩ := ex1 ((iAnd x16 0))
      have hw := hw z11 e12
      have hz11 : inR z11 := by rw [e12]; exact (ti_rng _)
      refine q_top e12 ?_
      refine q_istore (lv' := [(0, .ref (E.1 0)), (1, iV a1), (2, .ref (E.1 1000)), (3, iV x3), (4, iV x4), (5, iV x5), (6, iV x6), (7, iV x7), (8, iV x8), (9, iV x9), (10, iV x10), (11, iV x11), (12, iV x12), (13, iV x13), (14, iV x14), (15, iV z1), (16, iV z11), (17, iV x17), (18, iV x18), (19, iV x19), (20, iV x20)]) F [1, 2, 3, 4, 5, 6, 7, 8, 9, 10, 11, 12, 13, 14, 15, 16, 0, 17, 18, 19, 20] dL_holds_284 (q_n hN (by decide)) rfl ?_
      obtain ⟨k15, hw⟩ := hw
      obtain ⟨z13, e14⟩ := ex1 (x19 + 1)
      have hw := hw z13 e14
      have hz13 : inR z13 := by rw [e14]; exact k15
      refine q_iinc (lv' := [(0, .ref (E.1 0)), (1, iV a1), (2, .ref (E.1 1000)), (3, iV x3), (4, iV x4), (5, iV x5), (6, iV x6), (7, iV x7), (8, iV x8), (9, iV x9), (10, iV x10), (11, iV x11), (12, iV x12), (13, iV x13), (14, iV x14), (15, iV z1), (16, iV z11), (17, iV x17), (18, iV x18), (19, iV z13), (20, iV x20)]) F 19 [1, 2, 3, 4, 5, 6, 7, 8, 9, 10, 11, 12, 13, 14, 15, 16, 17, 18, 19, 0, 20] dL_holds_286 rfl (q_n hN (by decide)) e14.symm rfl ?_
      refine q_goto F 174 dL_holds_289 (by decide) ?_
      refine q_lv [0, 1, 2, 3, 4, 5, 6, 7, 8, 9, 10, 11, 12, 13, 14, 15, 16, 17, 18, 19] rfl ?_
      exact hK174 x3 x4 x5 x6 x7 x8 x9 x10 x11 x12 x13 x14 z1 z11 x17 x18 z13 f0 I R hx3 hx4 hx5 hx6 hx7 hx8 hx9 hx10 hx11 hx12 hx13 hx14 hz1 hz11 hx17 hx18 hz13 hf0 hm hw
    · have hw := hw.2 hc
      refine q_iconst F dL_holds_278 ?_
      refine q_goto F 283 dL_holds_279 (by decide) ?_
      refine q_iand F dL_holds_283 ?_
      obtain ⟨z16, e17⟩ := ex1 ((iAnd x16 1))
      have hw := hw z16 e17
      have hz16 : inR z16 := by rw [e17]; exact (ti_rng _)
      refine q_top e17 ?_
      refine q_istore (lv' := [(0, .ref (E.1 0)), (1, iV a1), (2, .ref (E.1 1000)), (3, iV x3), (4, iV x4), (5, iV x5), (6, iV x6), (7, iV x7), (8, iV x8), (9, iV x9), (10, iV x10), (11, iV x11), (12, iV x12), (13, iV x13), (14, iV x14), (15, iV z1), (16, iV z16), (17, iV x17), (18, iV x18), (19, iV x19), (20, iV x20)]) F [1, 2, 3, 4, 5, 6, 7, 8, 9, 10, 11, 12, 13, 14, 15, 16, 0, 17, 18, 19, 20] dL_holds_284 (q_n hN (by decide)) rfl ?_
      obtain ⟨k20, hw⟩ := hw
      obtain ⟨z18, e19⟩ := ex1 (x19 + 1)
      have hw := hw z18 e19
      have hz18 : inR z18 := by rw [e19]; exact k20
      refine q_iinc (lv' := [(0, .ref (E.1 0)), (1, iV a1), (2, .ref (E.1 1000)), (3, iV x3), (4, iV x4), (5, iV x5), (6, iV x6), (7, iV x7), (8, iV x8), (9, iV x9), (10, iV x10), (11, iV x11), (12, iV x12), (13, iV x13), (14, iV x14), (15, iV z1), (16, iV z16), (17, iV x17), (18, iV x18), (19, iV z18), (20, iV x20)]) F 19 [1, 2, 3, 4, 5, 6, 7, 8, 9, 10, 11, 12, 13, 14, 15, 16, 17, 18, 19, 0, 20] dL_holds_286 rfl (q_n hN (by decide)) e19.symm rfl ?_
      refine q_goto F 174 dL_holds_289 (by decide) ?_
      refine q_lv [0, 1, 2, 3, 4, 5, 6, 7, 8, 9, 10, 11, 12, 13, 14, 15, 16, 17, 18, 19] rfl ?_
      exact hK174 x3 x4 x5 x6 x7 x8 x9 x10 x11 x12 x13 x14 z1 z16 x17 x18 z18 f0 I R hx3 hx4 hx5 hx6 hx7 hx8 hx9 hx10 hx11 hx12 hx13 hx14 hz1 hz16 hx17 hx18 hz18 hf0 hm hw
set_option maxHeartbeats 4000000 in
set_option maxRecDepth 100000 in
theorem bL_holds_246 {X : xC} {E : cE} (F : mF X E RL cL_holds bG) (hR : X.1.2.2.2 = rmK 9 (1) (12)) (hN : X.2.2.1.2.2.2 = 21) {Q : Int → cI → cR → (Int → Int) → Prop} (hret : rZP X E cL_holds (1) (12) 4 Q) (hfl : X.1.2.1.stackTraces = false) {a1 : Int} (ha1 : inR a1) {K59 : Int → Int → Int → Int → Int → Int → Int → Int → Int → Int → Int → Int → Int → Int → Int → (Int → Int) → cI → cR → Prop} {K174 : Int → Int → Int → Int → Int → Int → Int → Int → Int → Int → Int → Int → Int → Int → Int → Int → Int → (Int → Int) → cI → cR → Prop} (hK59 : ∀ (x3 : Int) (x4 : Int) (x5 : Int) (x6 : Int) (x7 : Int) (x8 : Int) (x9 : Int) (x10 : Int) (x11 : Int) (x12 : Int) (x13 : Int) (x14 : Int) (x15 : Int) (x16 : Int) (x17 : Int) (f0 : Int → Int) (I : cI) (R : cR), inR x3 → inR x4 → inR x5 → inR x6 → inR x7 → inR x8 → inR x9 → inR x10 → inR x11 → inR x12 → inR x13 → inR x14 → inR x15 → inR x16 → inR x17 → (∀ x, inR (f0 x)) → cM I R → K59 x3 x4 x5 x6 x7 x8 x9 x10 x11 x12 x13 x14 x15 x16 x17 f0 I R → cW X (0) (0) 59 [(0, .ref (E.1 0)), (1, iV a1), (2, .ref (E.1 1000)), (3, iV x3), (4, iV x4), (5, iV x5), (6, iV x6), (7, iV x7), (8, iV x8), (9, iV x9), (10, iV x10), (11, iV x11), (12, iV x12), (13, iV x13), (14, iV x14), (15, iV x15), (16, iV x16), (17, iV x17)] [] (gw E.1 cIds (cef E (I, R)) ++ [((E.1 1000), iA E 4 f0)])) (hK174 : ∀ (x3 : Int) (x4 : Int) (x5 : Int) (x6 : Int) (x7 : Int) (x8 : Int) (x9 : Int) (x10 : Int) (x11 : Int) (x12 : Int) (x13 : Int) (x14 : Int) (x15 : Int) (x16 : Int) (x17 : Int) (x18 : Int) (x19 : Int) (f0 : Int → Int) (I : cI) (R : cR), inR x3 → inR x4 → inR x5 → inR x6 → inR x7 → inR x8 → inR x9 → inR x10 → inR x11 → inR x12 → inR x13 → inR x14 → inR x15 → inR x16 → inR x17 → inR x18 → inR x19 → (∀ x, inR (f0 x)) → cM I R → K174 x3 x4 x5 x6 x7 x8 x9 x10 x11 x12 x13 x14 x15 x16 x17 x18 x19 f0 I R → cW X (0) (0) 174 [(0, .ref (E.1 0)), (1, iV a1), (2, .ref (E.1 1000)), (3, iV x3), (4, iV x4), (5, iV x5), (6, iV x6), (7, iV x7), (8, iV x8), (9, iV x9), (10, iV x10), (11, iV x11), (12, iV x12), (13, iV x13), (14, iV x14), (15, iV x15), (16, iV x16), (17, iV x17), (18, iV x18), (19, iV x19)] [] (gw E.1 cIds (cef E (I, R)) ++ [((E.1 1000), iA E 4 f0)])) : ∀ (x3 : Int) (x4 : Int) (x5 : Int) (x6 : Int) (x7 : Int) (x8 : Int) (x9 : Int) (x10 : Int) (x11 : Int) (x12 : Int) (x13 : Int) (x14 : Int) (x16 : Int) (x17 : Int) (x18 : Int) (x19 : Int) (x20 : Int) (y0 : Int) (f0 : Int → Int) (I : cI) (R : cR), inR x3 → inR x4 → inR x5 → inR x6 → inR x7 → inR x8 → inR x9 → inR x10 → inR x11 → inR x12 → inR x13 → inR x14 → inR x16 → inR x17 → inR x18 → inR x19 → inR x20 → inR y0 → (∀ x, inR (f0 x)) → cM I R → wL_holds_246 Q a1 K59 K174 x3 x4 x5 x6 x7 x8 x9 x10 x11 x12 x13 x14 x16 x17 x18 x19 x20 y0 f0 I R → cW X (0) (0) 246 [(0, .ref (E.1 0)), (1, iV a1), (2, .ref (E.1 1000)), (3, iV x3), (4, iV x4), (5, iV x5), (6, iV x6), (7, iV x7), (8, iV x8), (9, iV x9), (10, iV x10), (11, iV x11), (12, iV x12), (13, iV x13), (14, iV x14), (16, iV x16), (17, iV x17), (18, iV x18), (19, iV x19), (20, iV x20)] [iV y0] (gw E.1 cIds (cef E (I, R)) ++ [((E.1 1000), iA E 4 f0)]) := by
  intro x3 x4 x5 x6 x7 x8 x9 x10 x11 x12 x13 x14 x16 x17 x18 x19 x20 y0 f0 I R hx3 hx4 hx5 hx6 hx7 hx8 hx9 hx10 hx11 hx12 hx13 hx14 hx16 hx17 hx18 hx19 hx20 hy0 hf0 hm hw
  unfold wL_holds_246 at hw
  refine q_iconst F dL_holds_246 ?_
  refine q_goto F 251 dL_holds_247 (by decide) ?_
  exact bL_holds_251 F hR hN hret hfl ha1 hK59 hK174 x3 x4 x5 x6 x7 x8 x9 x10 x11 x12 x13 x14 x16 x17 x18 x19 x20 y0 1 f0 I R hx3 hx4 hx5 hx6 hx7 hx8 hx9 hx10 hx11 hx12 hx13 hx14 hx16 hx17 hx18 hx19 hx20 hy0 (⟨by decide, by decide⟩ : inR (1)) hf0 hm hw
set_option maxHeartbeats 4000000 in
set_option maxRecDepth 100000 in
theorem bL_holds_225 {X : xC} {E : cE} (F : mF X E RL cL_holds bG) (hR : X.1.2.2.2 = rmK 9 (1) (12)) (hN : X.2.2.1.2.2.2 = 21) {Q : Int → cI → cR → (Int → Int) → Prop} (hret : rZP X E cL_holds (1) (12) 4 Q) (hfl : X.1.2.1.stackTraces = false) {a1 : Int} (ha1 : inR a1) {K59 : Int → Int → Int → Int → Int → Int → Int → Int → Int → Int → Int → Int → Int → Int → Int → (Int → Int) → cI → cR → Prop} {K174 : Int → Int → Int → Int → Int → Int → Int → Int → Int → Int → Int → Int → Int → Int → Int → Int → Int → (Int → Int) → cI → cR → Prop} (hK59 : ∀ (x3 : Int) (x4 : Int) (x5 : Int) (x6 : Int) (x7 : Int) (x8 : Int) (x9 : Int) (x10 : Int) (x11 : Int) (x12 : Int) (x13 : Int) (x14 : Int) (x15 : Int) (x16 : Int) (x17 : Int) (f0 : Int → Int) (I : cI) (R : cR), inR x3 → inR x4 → inR x5 → inR x6 → inR x7 → inR x8 → inR x9 → inR x10 → inR x11 → inR x12 → inR x13 → inR x14 → inR x15 → inR x16 → inR x17 → (∀ x, inR (f0 x)) → cM I R → K59 x3 x4 x5 x6 x7 x8 x9 x10 x11 x12 x13 x14 x15 x16 x17 f0 I R → cW X (0) (0) 59 [(0, .ref (E.1 0)), (1, iV a1), (2, .ref (E.1 1000)), (3, iV x3), (4, iV x4), (5, iV x5), (6, iV x6), (7, iV x7), (8, iV x8), (9, iV x9), (10, iV x10), (11, iV x11), (12, iV x12), (13, iV x13), (14, iV x14), (15, iV x15), (16, iV x16), (17, iV x17)] [] (gw E.1 cIds (cef E (I, R)) ++ [((E.1 1000), iA E 4 f0)])) (hK174 : ∀ (x3 : Int) (x4 : Int) (x5 : Int) (x6 : Int) (x7 : Int) (x8 : Int) (x9 : Int) (x10 : Int) (x11 : Int) (x12 : Int) (x13 : Int) (x14 : Int) (x15 : Int) (x16 : Int) (x17 : Int) (x18 : Int) (x19 : Int) (f0 : Int → Int) (I : cI) (R : cR), inR x3 → inR x4 → inR x5 → inR x6 → inR x7 → inR x8 → inR x9 → inR x10 → inR x11 → inR x12 → inR x13 → inR x14 → inR x15 → inR x16 → inR x17 → inR x18 → inR x19 → (∀ x, inR (f0 x)) → cM I R → K174 x3 x4 x5 x6 x7 x8 x9 x10 x11 x12 x13 x14 x15 x16 x17 x18 x19 f0 I R → cW X (0) (0) 174 [(0, .ref (E.1 0)), (1, iV a1), (2, .ref (E.1 1000)), (3, iV x3), (4, iV x4), (5, iV x5), (6, iV x6), (7, iV x7), (8, iV x8), (9, iV x9), (10, iV x10), (11, iV x11), (12, iV x12), (13, iV x13), (14, iV x14), (15, iV x15), (16, iV x16), (17, iV x17), (18, iV x18), (19, iV x19)] [] (gw E.1 cIds (cef E (I, R)) ++ [((E.1 1000), iA E 4 f0)])) : ∀ (x3 : Int) (x4 : Int) (x5 : Int) (x6 : Int) (x7 : Int) (x8 : Int) (x9 : Int) (x10 : Int) (x11 : Int) (x12 : Int) (x13 : Int) (x15 : Int) (x16 : Int) (x17 : Int) (x18 : Int) (x19 : Int) (x20 : Int) (y0 : Int) (y1 : Int) (f0 : Int → Int) (I : cI) (R : cR), inR x3 → inR x4 → inR x5 → inR x6 → inR x7 → inR x8 → inR x9 → inR x10 → inR x11 → inR x12 → inR x13 → inR x15 → inR x16 → inR x17 → inR x18 → inR x19 → inR x20 → inR y0 → inR y1 → (∀ x, inR (f0 x)) → cM I R → wL_holds_225 Q a1 K59 K174 x3 x4 x5 x6 x7 x8 x9 x10 x11 x12 x13 x15 x16 x17 x18 x19 x20 y0 y1 f0 I R → cW X (0) (0) 225 [(0, .ref (E.1 0)), (1, iV a1), (2, .ref (E.1 1000)), (3, iV x3), (4, iV x4), (5, iV x5), (6, iV x6), (7, iV x7), (8, iV x8), (9, iV x9), (10, iV x10), (11, iV x11), (12, iV x12), (13, iV x13), (15, iV x15), (16, iV x16), (17, iV x17), (18, iV x18), (19, iV x19), (20, iV x20)] [iV y1, iV y0] (gw E.1 cIds (cef E (I, R)) ++ [((E.1 1000), iA E 4 f0)]) := by
  intro x3 x4 x5 x6 x7 x8 x9 x10 x11 x12 x13 x15 x16 x17 x18 x19 x20 y0 y1 f0 I R hx3 hx4 hx5 hx6 hx7 hx8 hx9 hx10 hx11 hx12 hx13 hx15 hx16 hx17 hx18 hx19 hx20 hy0 hy1 hf0 hm hw
  unfold wL_holds_225 at hw
  refine q_iand F dL_holds_225 ?_
  obtain ⟨z1, e2⟩ := ex1 ((iAnd y0 y1))
  have hw := hw z1 e2
  have hz1 : inR z1 := by rw [e2]; exact (ti_rng _)
  refine q_top e2 ?_
  refine q_istore (lv' := [(0, .ref (E.1 0)), (1, iV a1), (2, .ref (E.1 1000)), (3, iV x3), (4, iV x4), (5, iV x5), (6, iV x6), (7, iV x7), (8, iV x8), (9, iV x9), (10, iV x10), (11, iV x11), (12, iV x12), (13, iV x13), (14, iV z1), (15, iV x15), (16, iV x16), (17, iV x17), (18, iV x18), (19, iV x19), (20, iV x20)]) F [1, 2, 3, 4, 5, 6, 7, 8, 9, 10, 11, 12, 13, 14, 0, 15, 16, 17, 18, 19, 20] dL_holds_226 (q_n hN (by decide)) rfl ?_
  refine q_iload F 15 dL_holds_228 rfl ?_
  refine q_iload F 19 dL_holds_230 rfl ?_
  refine q_iconst F dL_holds_232 ?_
  refine q_iadd F dL_holds_233 ?_
  refine q_iload F 17 dL_holds_234 rfl ?_
  obtain ⟨k3, hw⟩ := hw
  refine q_icmp_lt F k3 hx17 246 dL_holds_236 (by decide) (fun hc => ?_) (fun hc => ?_)
  · have hw := hw.1 hc
    refine q_lv [0, 1, 2, 3, 4, 5, 6, 7, 8, 9, 10, 11, 12, 13, 14, 16, 17, 18, 19, 20] rfl ?_
    exact bL_holds_246 F hR hN hret hfl ha1 hK59 hK174 x3 x4 x5 x6 x7 x8 x9 x10 x11 x12 x13 z1 x16 x17 x18 x19 x20 x15 f0 I R hx3 hx4 hx5 hx6 hx7 hx8 hx9 hx10 hx11 hx12 hx13 hz1 hx16 hx17 hx18 hx19 hx20 hx15 hf0 hm hw
  · have hw := hw.2 hc
    refine q_iload F 20 dL_holds_239 rfl ?_
    refine q_iload F 18 dL_holds_241 rfl ?_
    refine q_icmp_ge F hx20 hx18 250 dL_holds_243 (by decide) (fun hc => ?_) (fun hc => ?_)
    · have hw := hw.1 hc
      refine q_iconst F dL_holds_250 ?_
      refine q_lv [0, 1, 2, 3, 4, 5, 6, 7, 8, 9, 10, 11, 12, 13, 14, 16, 17, 18, 19, 20] rfl ?_
      exact bL_holds_251 F hR hN hret hfl ha1 hK59 hK174 x3 x4 x5 x6 x7 x8 x9 x10 x11 x12 x13 z1 x16 x17 x18 x19 x20 x15 0 f0 I R hx3 hx4 hx5 hx6 hx7 hx8 hx9 hx10 hx11 hx12 hx13 hz1 hx16 hx17 hx18 hx19 hx20 hx15 (⟨by decide, by decide⟩ : inR (0)) hf0 hm hw
    · have hw := hw.2 hc
      refine q_lv [0, 1, 2, 3, 4, 5, 6, 7, 8, 9, 10, 11, 12, 13, 14, 16, 17, 18, 19, 20] rfl ?_
      exact bL_holds_246 F hR hN hret hfl ha1 hK59 hK174 x3 x4 x5 x6 x7 x8 x9 x10 x11 x12 x13 z1 x16 x17 x18 x19 x20 x15 f0 I R hx3 hx4 hx5 hx6 hx7 hx8 hx9 hx10 hx11 hx12 hx13 hz1 hx16 hx17 hx18 hx19 hx20 hx15 hf0 hm hw
set_option maxHeartbeats 4000000 in
set_option maxRecDepth 100000 in
theorem bL_holds_208 {X : xC} {E : cE} (F : mF X E RL cL_holds bG) (hR : X.1.2.2.2 = rmK 9 (1) (12)) (hN : X.2.2.1.2.2.2 = 21) {Q : Int → cI → cR → (Int → Int) → Prop} (hret : rZP X E cL_holds (1) (12) 4 Q) (hfl : X.1.2.1.stackTraces = false) {a1 : Int} (ha1 : inR a1) {K59 : Int → Int → Int → Int → Int → Int → Int → Int → Int → Int → Int → Int → Int → Int → Int → (Int → Int) → cI → cR → Prop} {K174 : Int → Int → Int → Int → Int → Int → Int → Int → Int → Int → Int → Int → Int → Int → Int → Int → Int → (Int → Int) → cI → cR → Prop} (hK59 : ∀ (x3 : Int) (x4 : Int) (x5 : Int) (x6 : Int) (x7 : Int) (x8 : Int) (x9 : Int) (x10 : Int) (x11 : Int) (x12 : Int) (x13 : Int) (x14 : Int) (x15 : Int) (x16 : Int) (x17 : Int) (f0 : Int → Int) (I : cI) (R : cR), inR x3 → inR x4 → inR x5 → inR x6 → inR x7 → inR x8 → inR x9 → inR x10 → inR x11 → inR x12 → inR x13 → inR x14 → inR x15 → inR x16 → inR x17 → (∀ x, inR (f0 x)) → cM I R → K59 x3 x4 x5 x6 x7 x8 x9 x10 x11 x12 x13 x14 x15 x16 x17 f0 I R → cW X (0) (0) 59 [(0, .ref (E.1 0)), (1, iV a1), (2, .ref (E.1 1000)), (3, iV x3), (4, iV x4), (5, iV x5), (6, iV x6), (7, iV x7), (8, iV x8), (9, iV x9), (10, iV x10), (11, iV x11), (12, iV x12), (13, iV x13), (14, iV x14), (15, iV x15), (16, iV x16), (17, iV x17)] [] (gw E.1 cIds (cef E (I, R)) ++ [((E.1 1000), iA E 4 f0)])) (hK174 : ∀ (x3 : Int) (x4 : Int) (x5 : Int) (x6 : Int) (x7 : Int) (x8 : Int) (x9 : Int) (x10 : Int) (x11 : Int) (x12 : Int) (x13 : Int) (x14 : Int) (x15 : Int) (x16 : Int) (x17 : Int) (x18 : Int) (x19 : Int) (f0 : Int → Int) (I : cI) (R : cR), inR x3 → inR x4 → inR x5 → inR x6 → inR x7 → inR x8 → inR x9 → inR x10 → inR x11 → inR x12 → inR x13 → inR x14 → inR x15 → inR x16 → inR x17 → inR x18 → inR x19 → (∀ x, inR (f0 x)) → cM I R → K174 x3 x4 x5 x6 x7 x8 x9 x10 x11 x12 x13 x14 x15 x16 x17 x18 x19 f0 I R → cW X (0) (0) 174 [(0, .ref (E.1 0)), (1, iV a1), (2, .ref (E.1 1000)), (3, iV x3), (4, iV x4), (5, iV x5), (6, iV x6), (7, iV x7), (8, iV x8), (9, iV x9), (10, iV x10), (11, iV x11), (12, iV x12), (13, iV x13), (14, iV x14), (15, iV x15), (16, iV x16), (17, iV x17), (18, iV x18), (19, iV x19)] [] (gw E.1 cIds (cef E (I, R)) ++ [((E.1 1000), iA E 4 f0)])) : ∀ (x3 : Int) (x4 : Int) (x5 : Int) (x6 : Int) (x7 : Int) (x8 : Int) (x9 : Int) (x10 : Int) (x11 : Int) (x12 : Int) (x14 : Int) (x15 : Int) (x16 : Int) (x17 : Int) (x18 : Int) (x19 : Int) (x20 : Int) (y0 : Int) (y1 : Int) (f0 : Int → Int) (I : cI) (R : cR), inR x3 → inR x4 → inR x5 → inR x6 → inR x7 → inR x8 → inR x9 → inR x10 → inR x11 → inR x12 → inR x14 → inR x15 → inR x16 → inR x17 → inR x18 → inR x19 → inR x20 → inR y0 → inR y1 → (∀ x, inR (f0 x)) → cM I R → wL_holds_208 Q a1 K59 K174 x3 x4 x5 x6 x7 x8 x9 x10 x11 x12 x14 x15 x16 x17 x18 x19 x20 y0 y1 f0 I R → cW X (0) (0) 208 [(0, .ref (E.1 0)), (1, iV a1), (2, .ref (E.1 1000)), (3, iV x3), (4, iV x4), (5, iV x5), (6, iV x6), (7, iV x7), (8, iV x8), (9, iV x9), (10, iV x10), (11, iV x11), (12, iV x12), (14, iV x14), (15, iV x15), (16, iV x16), (17, iV x17), (18, iV x18), (19, iV x19), (20, iV x20)] [iV y1, iV y0] (gw E.1 cIds (cef E (I, R)) ++ [((E.1 1000), iA E 4 f0)]) := by
  intro x3 x4 x5 x6 x7 x8 x9 x10 x11 x12 x14 x15 x16 x17 x18 x19 x20 y0 y1 f0 I R hx3 hx4 hx5 hx6 hx7 hx8 hx9 hx10 hx11 hx12 hx14 hx15 hx16 hx17 hx18 hx19 hx20 hy0 hy1 hf0 hm hw
  unfold wL_holds_208 at hw
  refine q_iand F dL_holds_208 ?_
  obtain ⟨z1, e2⟩ := ex1 ((iAnd y0 y1))
  have hw := hw z1 e2
  have hz1 : inR z1 := by rw [e2]; exact (ti_rng _)
  refine q_top e2 ?_
  refine q_istore (lv' := [(0, .ref (E.1 0)), (1, iV a1), (2, .ref (E.1 1000)), (3, iV x3), (4, iV x4), (5, iV x5), (6, iV x6), (7, iV x7), (8, iV x8), (9, iV x9), (10, iV x10), (11, iV x11), (12, iV x12), (13, iV z1), (14, iV x14), (15, iV x15), (16, iV x16), (17, iV x17), (18, iV x18), (19, iV x19), (20, iV x20)]) F [1, 2, 3, 4, 5, 6, 7, 8, 9, 10, 11, 12, 13, 0, 14, 15, 16, 17, 18, 19, 20] dL_holds_209 (q_n hN (by decide)) rfl ?_
  refine q_iload F 14 dL_holds_211 rfl ?_
  refine q_iload F 20 dL_holds_213 rfl ?_
  refine q_iload F 18 dL_holds_215 rfl ?_
  refine q_icmp_ne F hx20 hx18 224 dL_holds_217 (by decide) (fun hc => ?_) (fun hc => ?_)
  · have hw := hw.1 hc
    refine q_iconst F dL_holds_224 ?_
    refine q_lv [0, 1, 2, 3, 4, 5, 6, 7, 8, 9, 10, 11, 12, 13, 15, 16, 17, 18, 19, 20] rfl ?_
    exact bL_holds_225 F hR hN hret hfl ha1 hK59 hK174 x3 x4 x5 x6 x7 x8 x9 x10 x11 x12 z1 x15 x16 x17 x18 x19 x20 x14 0 f0 I R hx3 hx4 hx5 hx6 hx7 hx8 hx9 hx10 hx11 hx12 hz1 hx15 hx16 hx17 hx18 hx19 hx20 hx14 (⟨by decide, by decide⟩ : inR (0)) hf0 hm hw
  · have hw := hw.2 hc
    refine q_iconst F dL_holds_220 ?_
    refine q_goto F 225 dL_holds_221 (by decide) ?_
    refine q_lv [0, 1, 2, 3, 4, 5, 6, 7, 8, 9, 10, 11, 12, 13, 15, 16, 17, 18, 19, 20] rfl ?_
    exact bL_holds_225 F hR hN hret hfl ha1 hK59 hK174 x3 x4 x5 x6 x7 x8 x9 x10 x11 x12 z1 x15 x16 x17 x18 x19 x20 x14 1 f0 I R hx3 hx4 hx5 hx6 hx7 hx8 hx9 hx10 hx11 hx12 hz1 hx15 hx16 hx17 hx18 hx19 hx20 hx14 (⟨by decide, by decide⟩ : inR (1)) hf0 hm hw
set_option maxHeartbeats 4000000 in
set_option maxRecDepth 100000 in
theorem bL_holds_174 {X : xC} {E : cE} (F : mF X E RL cL_holds bG) (hR : X.1.2.2.2 = rmK 9 (1) (12)) (hN : X.2.2.1.2.2.2 = 21) {Q : Int → cI → cR → (Int → Int) → Prop} (hret : rZP X E cL_holds (1) (12) 4 Q) (hfl : X.1.2.1.stackTraces = false) {a1 : Int} (ha1 : inR a1) {K59 : Int → Int → Int → Int → Int → Int → Int → Int → Int → Int → Int → Int → Int → Int → Int → (Int → Int) → cI → cR → Prop} (hK59 : ∀ (x3 : Int) (x4 : Int) (x5 : Int) (x6 : Int) (x7 : Int) (x8 : Int) (x9 : Int) (x10 : Int) (x11 : Int) (x12 : Int) (x13 : Int) (x14 : Int) (x15 : Int) (x16 : Int) (x17 : Int) (f0 : Int → Int) (I : cI) (R : cR), inR x3 → inR x4 → inR x5 → inR x6 → inR x7 → inR x8 → inR x9 → inR x10 → inR x11 → inR x12 → inR x13 → inR x14 → inR x15 → inR x16 → inR x17 → (∀ x, inR (f0 x)) → cM I R → K59 x3 x4 x5 x6 x7 x8 x9 x10 x11 x12 x13 x14 x15 x16 x17 f0 I R → cW X (0) (0) 59 [(0, .ref (E.1 0)), (1, iV a1), (2, .ref (E.1 1000)), (3, iV x3), (4, iV x4), (5, iV x5), (6, iV x6), (7, iV x7), (8, iV x8), (9, iV x9), (10, iV x10), (11, iV x11), (12, iV x12), (13, iV x13), (14, iV x14), (15, iV x15), (16, iV x16), (17, iV x17)] [] (gw E.1 cIds (cef E (I, R)) ++ [((E.1 1000), iA E 4 f0)])) : ∀ n174 : Nat, ∀ (x3 : Int) (x4 : Int) (x5 : Int) (x6 : Int) (x7 : Int) (x8 : Int) (x9 : Int) (x10 : Int) (x11 : Int) (x12 : Int) (x13 : Int) (x14 : Int) (x15 : Int) (x16 : Int) (x17 : Int) (x18 : Int) (x19 : Int) (f0 : Int → Int) (I : cI) (R : cR), inR x3 → inR x4 → inR x5 → inR x6 → inR x7 → inR x8 → inR x9 → inR x10 → inR x11 → inR x12 → inR x13 → inR x14 → inR x15 → inR x16 → inR x17 → inR x18 → inR x19 → (∀ x, inR (f0 x)) → cM I R → wL_holds_174 Q a1 K59 n174 x3 x4 x5 x6 x7 x8 x9 x10 x11 x12 x13 x14 x15 x16 x17 x18 x19 f0 I R → cW X (0) (0) 174 [(0, .ref (E.1 0)), (1, iV a1), (2, .ref (E.1 1000)), (3, iV x3), (4, iV x4), (5, iV x5), (6, iV x6), (7, iV x7), (8, iV x8), (9, iV x9), (10, iV x10), (11, iV x11), (12, iV x12), (13, iV x13), (14, iV x14), (15, iV x15), (16, iV x16), (17, iV x17), (18, iV x18), (19, iV x19)] [] (gw E.1 cIds (cef E (I, R)) ++ [((E.1 1000), iA E 4 f0)]) := by
  intro n174
  induction n174 with
  | zero => intro x3 x4 x5 x6 x7 x8 x9 x10 x11 x12 x13 x14 x15 x16 x17 x18 x19 f0 I R hx3 hx4 hx5 hx6 hx7 hx8 hx9 hx10 hx11 hx12 hx13 hx14 hx15 hx16 hx17 hx18 hx19 hf0 hm hw; exact hw.elim
  | succ n174 ih =>
    intro x3 x4 x5 x6 x7 x8 x9 x10 x11 x12 x13 x14 x15 x16 x17 x18 x19 f0 I R hx3 hx4 hx5 hx6 hx7 hx8 hx9 hx10 hx11 hx12 hx13 hx14 hx15 hx16 hx17 hx18 hx19 hf0 hm hw
    change wbL_holds_174 Q a1 K59 (wL_holds_174 Q a1 K59 n174) x3 x4 x5 x6 x7 x8 x9 x10 x11 x12 x13 x14 x15 x16 x17 x18 x19 f0 I R at hw
    unfold wbL_holds_174 at hw
    refine q_iload F 19 dL_holds_174 rfl ?_
    refine q_iload F 17 dL_holds_176 rfl ?_
    refine q_icmp_ge F hx19 hx17 292 dL_holds_178 (by decide) (fun hc => ?_) (fun hc => ?_)
    · have hw := hw.1 hc
      obtain ⟨k3, hw⟩ := hw
      obtain ⟨z1, e2⟩ := ex1 (x17 + 1)
      have hw := hw z1 e2
      have hz1 : inR z1 := by rw [e2]; exact k3
      refine q_iinc (lv' := [(0, .ref (E.1 0)), (1, iV a1), (2, .ref (E.1 1000)), (3, iV x3), (4, iV x4), (5, iV x5), (6, iV x6), (7, iV x7), (8, iV x8), (9, iV x9), (10, iV x10), (11, iV x11), (12, iV x12), (13, iV x13), (14, iV x14), (15, iV x15), (16, iV x16), (17, iV z1), (18, iV x18), (19, iV x19)]) F 17 [1, 2, 3, 4, 5, 6, 7, 8, 9, 10, 11, 12, 13, 14, 15, 16, 17, 0, 18, 19] dL_holds_292 rfl (q_n hN (by decide)) e2.symm rfl ?_
      refine q_goto F 59 dL_holds_295 (by decide) ?_
      refine q_lv [0, 1, 2, 3, 4, 5, 6, 7, 8, 9, 10, 11, 12, 13, 14, 15, 16, 17] rfl ?_
      exact hK59 x3 x4 x5 x6 x7 x8 x9 x10 x11 x12 x13 x14 x15 x16 z1 f0 I R hx3 hx4 hx5 hx6 hx7 hx8 hx9 hx10 hx11 hx12 hx13 hx14 hx15 hx16 hz1 hf0 hm hw
    · have hw := hw.2 hc
      refine q_aload_n F 2 dL_holds_181 rfl rfl ?_
      refine q_aload_n F 0 dL_holds_182 rfl rfl ?_
      refine q_iload_n F 1 dL_holds_183 rfl rfl ?_
      refine q_iconst F dL_holds_184 ?_
      refine q_iload F 19 dL_holds_185 rfl ?_
      refine q_iadd F dL_holds_187 ?_
      obtain ⟨k4, hw⟩ := hw
      refine q_Vit F (kcX11_rule hfl 0 (Or.inr (fun _ _ _ h => h)) hm ha1 k4 hw) (cIds_in (show ckd 0 = 9 ∧ 0 < 353 by decide).2) (ceMill (show ckd 0 = 9 ∧ 0 < 353 by decide).1) (ci := 9) rfl (bV wd503 wd504 wd505 wd1 wd506) rfl ⟨rfl, rfl⟩ ydX11_rule (rmK_le hR (by omega) (by decide)) (av := [iV a1, iV ((4 + x19))]) rfl rfl (Nat.le_of_ble_eq_true rfl) dL_holds_188 (rmK_cs hR (by omega) (by omega)) (fun r5 I6 R7 h8 m9 hw => ?_)
      obtain ⟨k10, hw⟩ := hw
      refine g_tald F 0 rfl k10 (by decide) dL_holds_191 ?_
      obtain ⟨z11, e12⟩ := ex1 ((f0 r5))
      have hw := hw z11 e12
      have hz11 : inR z11 := by rw [e12]; exact (hf0 _)
      refine q_top e12 ?_
      refine q_istore (lv' := [(0, .ref (E.1 0)), (1, iV a1), (2, .ref (E.1 1000)), (3, iV x3), (4, iV x4), (5, iV x5), (6, iV x6), (7, iV x7), (8, iV x8), (9, iV x9), (10, iV x10), (11, iV x11), (12, iV x12), (13, iV x13), (14, iV x14), (15, iV x15), (16, iV x16), (17, iV x17), (18, iV x18), (19, iV x19), (20, iV z11)]) F [1, 2, 3, 4, 5, 6, 7, 8, 9, 10, 11, 12, 13, 14, 15, 16, 17, 18, 19, 20, 0] dL_holds_192 (q_n hN (by decide)) rfl ?_
      refine q_iload F 13 dL_holds_194 rfl ?_
      refine q_iload F 20 dL_holds_196 rfl ?_
      refine q_iload F 18 dL_holds_198 rfl ?_
      refine q_icmp_eq F hz11 hx18 207 dL_holds_200 (by decide) (fun hc => ?_) (fun hc => ?_)
      · have hw := hw.1 hc
        refine q_iconst F dL_holds_207 ?_
        refine q_lv [0, 1, 2, 3, 4, 5, 6, 7, 8, 9, 10, 11, 12, 14, 15, 16, 17, 18, 19, 20] rfl ?_
        exact bL_holds_208 F hR hN hret hfl ha1 hK59 ih x3 x4 x5 x6 x7 x8 x9 x10 x11 x12 x14 x15 x16 x17 x18 x19 z11 x13 0 f0 I6 R7 hx3 hx4 hx5 hx6 hx7 hx8 hx9 hx10 hx11 hx12 hx14 hx15 hx16 hx17 hx18 hx19 hz11 hx13 (⟨by decide, by decide⟩ : inR (0)) hf0 m9 hw
      · have hw := hw.2 hc
        refine q_iconst F dL_holds_203 ?_
        refine q_goto F 208 dL_holds_204 (by decide) ?_
        refine q_lv [0, 1, 2, 3, 4, 5, 6, 7, 8, 9, 10, 11, 12, 14, 15, 16, 17, 18, 19, 20] rfl ?_
        exact bL_holds_208 F hR hN hret hfl ha1 hK59 ih x3 x4 x5 x6 x7 x8 x9 x10 x11 x12 x14 x15 x16 x17 x18 x19 z11 x13 1 f0 I6 R7 hx3 hx4 hx5 hx6 hx7 hx8 hx9 hx10 hx11 hx12 hx14 hx15 hx16 hx17 hx18 hx19 hz11 hx13 (⟨by decide, by decide⟩ : inR (1)) hf0 m9 hw
set_option maxHeartbeats 4000000 in
set_option maxRecDepth 100000 in
theorem bL_holds_168 {X : xC} {E : cE} (F : mF X E RL cL_holds bG) (hR : X.1.2.2.2 = rmK 9 (1) (12)) (hN : X.2.2.1.2.2.2 = 21) {Q : Int → cI → cR → (Int → Int) → Prop} (hret : rZP X E cL_holds (1) (12) 4 Q) (hfl : X.1.2.1.stackTraces = false) {a1 : Int} (ha1 : inR a1) {K59 : Int → Int → Int → Int → Int → Int → Int → Int → Int → Int → Int → Int → Int → Int → Int → (Int → Int) → cI → cR → Prop} (hK59 : ∀ (x3 : Int) (x4 : Int) (x5 : Int) (x6 : Int) (x7 : Int) (x8 : Int) (x9 : Int) (x10 : Int) (x11 : Int) (x12 : Int) (x13 : Int) (x14 : Int) (x15 : Int) (x16 : Int) (x17 : Int) (f0 : Int → Int) (I : cI) (R : cR), inR x3 → inR x4 → inR x5 → inR x6 → inR x7 → inR x8 → inR x9 → inR x10 → inR x11 → inR x12 → inR x13 → inR x14 → inR x15 → inR x16 → inR x17 → (∀ x, inR (f0 x)) → cM I R → K59 x3 x4 x5 x6 x7 x8 x9 x10 x11 x12 x13 x14 x15 x16 x17 f0 I R → cW X (0) (0) 59 [(0, .ref (E.1 0)), (1, iV a1), (2, .ref (E.1 1000)), (3, iV x3), (4, iV x4), (5, iV x5), (6, iV x6), (7, iV x7), (8, iV x8), (9, iV x9), (10, iV x10), (11, iV x11), (12, iV x12), (13, iV x13), (14, iV x14), (15, iV x15), (16, iV x16), (17, iV x17)] [] (gw E.1 cIds (cef E (I, R)) ++ [((E.1 1000), iA E 4 f0)])) : ∀ (x3 : Int) (x4 : Int) (x5 : Int) (x6 : Int) (x7 : Int) (x8 : Int) (x9 : Int) (x10 : Int) (x11 : Int) (x13 : Int) (x14 : Int) (x15 : Int) (x16 : Int) (x17 : Int) (x18 : Int) (y0 : Int) (y1 : Int) (f0 : Int → Int) (I : cI) (R : cR), inR x3 → inR x4 → inR x5 → inR x6 → inR x7 → inR x8 → inR x9 → inR x10 → inR x11 → inR x13 → inR x14 → inR x15 → inR x16 → inR x17 → inR x18 → inR y0 → inR y1 → (∀ x, inR (f0 x)) → cM I R → wL_holds_168 Q a1 K59 x3 x4 x5 x6 x7 x8 x9 x10 x11 x13 x14 x15 x16 x17 x18 y0 y1 f0 I R → cW X (0) (0) 168 [(0, .ref (E.1 0)), (1, iV a1), (2, .ref (E.1 1000)), (3, iV x3), (4, iV x4), (5, iV x5), (6, iV x6), (7, iV x7), (8, iV x8), (9, iV x9), (10, iV x10), (11, iV x11), (13, iV x13), (14, iV x14), (15, iV x15), (16, iV x16), (17, iV x17), (18, iV x18)] [iV y1, iV y0] (gw E.1 cIds (cef E (I, R)) ++ [((E.1 1000), iA E 4 f0)]) := by
  intro x3 x4 x5 x6 x7 x8 x9 x10 x11 x13 x14 x15 x16 x17 x18 y0 y1 f0 I R hx3 hx4 hx5 hx6 hx7 hx8 hx9 hx10 hx11 hx13 hx14 hx15 hx16 hx17 hx18 hy0 hy1 hf0 hm hw
  unfold wL_holds_168 at hw
  refine q_iand F dL_holds_168 ?_
  obtain ⟨z1, e2⟩ := ex1 ((iAnd y0 y1))
  have hw := hw z1 e2
  have hz1 : inR z1 := by rw [e2]; exact (ti_rng _)
  refine q_top e2 ?_
  refine q_istore (lv' := [(0, .ref (E.1 0)), (1, iV a1), (2, .ref (E.1 1000)), (3, iV x3), (4, iV x4), (5, iV x5), (6, iV x6), (7, iV x7), (8, iV x8), (9, iV x9), (10, iV x10), (11, iV x11), (12, iV z1), (13, iV x13), (14, iV x14), (15, iV x15), (16, iV x16), (17, iV x17), (18, iV x18)]) F [1, 2, 3, 4, 5, 6, 7, 8, 9, 10, 11, 12, 0, 13, 14, 15, 16, 17, 18] dL_holds_169 (q_n hN (by decide)) rfl ?_
  refine q_iconst F dL_holds_171 ?_
  refine q_istore (lv' := [(0, .ref (E.1 0)), (1, iV a1), (2, .ref (E.1 1000)), (3, iV x3), (4, iV x4), (5, iV x5), (6, iV x6), (7, iV x7), (8, iV x8), (9, iV x9), (10, iV x10), (11, iV x11), (12, iV z1), (13, iV x13), (14, iV x14), (15, iV x15), (16, iV x16), (17, iV x17), (18, iV x18), (19, iV 0)]) F [1, 2, 3, 4, 5, 6, 7, 8, 9, 10, 11, 12, 13, 14, 15, 16, 17, 18, 19, 0] dL_holds_172 (q_n hN (by decide)) rfl ?_
  obtain ⟨n3, hw⟩ := hw
  exact bL_holds_174 F hR hN hret hfl ha1 hK59 n3 x3 x4 x5 x6 x7 x8 x9 x10 x11 z1 x13 x14 x15 x16 x17 x18 0 f0 I R hx3 hx4 hx5 hx6 hx7 hx8 hx9 hx10 hx11 hz1 hx13 hx14 hx15 hx16 hx17 hx18 (⟨by decide, by decide⟩ : inR (0)) hf0 hm hw
set_option maxHeartbeats 4000000 in
set_option maxRecDepth 100000 in
theorem bL_holds_151 {X : xC} {E : cE} (F : mF X E RL cL_holds bG) (hR : X.1.2.2.2 = rmK 9 (1) (12)) (hN : X.2.2.1.2.2.2 = 21) {Q : Int → cI → cR → (Int → Int) → Prop} (hret : rZP X E cL_holds (1) (12) 4 Q) (hfl : X.1.2.1.stackTraces = false) {a1 : Int} (ha1 : inR a1) {K59 : Int → Int → Int → Int → Int → Int → Int → Int → Int → Int → Int → Int → Int → Int → Int → (Int → Int) → cI → cR → Prop} (hK59 : ∀ (x3 : Int) (x4 : Int) (x5 : Int) (x6 : Int) (x7 : Int) (x8 : Int) (x9 : Int) (x10 : Int) (x11 : Int) (x12 : Int) (x13 : Int) (x14 : Int) (x15 : Int) (x16 : Int) (x17 : Int) (f0 : Int → Int) (I : cI) (R : cR), inR x3 → inR x4 → inR x5 → inR x6 → inR x7 → inR x8 → inR x9 → inR x10 → inR x11 → inR x12 → inR x13 → inR x14 → inR x15 → inR x16 → inR x17 → (∀ x, inR (f0 x)) → cM I R → K59 x3 x4 x5 x6 x7 x8 x9 x10 x11 x12 x13 x14 x15 x16 x17 f0 I R → cW X (0) (0) 59 [(0, .ref (E.1 0)), (1, iV a1), (2, .ref (E.1 1000)), (3, iV x3), (4, iV x4), (5, iV x5), (6, iV x6), (7, iV x7), (8, iV x8), (9, iV x9), (10, iV x10), (11, iV x11), (12, iV x12), (13, iV x13), (14, iV x14), (15, iV x15), (16, iV x16), (17, iV x17)] [] (gw E.1 cIds (cef E (I, R)) ++ [((E.1 1000), iA E 4 f0)])) : ∀ (x3 : Int) (x4 : Int) (x5 : Int) (x6 : Int) (x7 : Int) (x8 : Int) (x9 : Int) (x10 : Int) (x12 : Int) (x13 : Int) (x14 : Int) (x15 : Int) (x16 : Int) (x17 : Int) (x18 : Int) (y0 : Int) (y1 : Int) (f0 : Int → Int) (I : cI) (R : cR), inR x3 → inR x4 → inR x5 → inR x6 → inR x7 → inR x8 → inR x9 → inR x10 → inR x12 → inR x13 → inR x14 → inR x15 → inR x16 → inR x17 → inR x18 → inR y0 → inR y1 → (∀ x, inR (f0 x)) → cM I R → wL_holds_151 Q a1 K59 x3 x4 x5 x6 x7 x8 x9 x10 x12 x13 x14 x15 x16 x17 x18 y0 y1 f0 I R → cW X (0) (0) 151 [(0, .ref (E.1 0)), (1, iV a1), (2, .ref (E.1 1000)), (3, iV x3), (4, iV x4), (5, iV x5), (6, iV x6), (7, iV x7), (8, iV x8), (9, iV x9), (10, iV x10), (12, iV x12), (13, iV x13), (14, iV x14), (15, iV x15), (16, iV x16), (17, iV x17), (18, iV x18)] [iV y1, iV y0] (gw E.1 cIds (cef E (I, R)) ++ [((E.1 1000), iA E 4 f0)]) := by
  intro x3 x4 x5 x6 x7 x8 x9 x10 x12 x13 x14 x15 x16 x17 x18 y0 y1 f0 I R hx3 hx4 hx5 hx6 hx7 hx8 hx9 hx10 hx12 hx13 hx14 hx15 hx16 hx17 hx18 hy0 hy1 hf0 hm hw
  unfold wL_holds_151 at hw
  refine q_iand F dL_holds_151 ?_
  obtain ⟨z1, e2⟩ := ex1 ((iAnd y0 y1))
  have hw := hw z1 e2
  have hz1 : inR z1 := by rw [e2]; exact (ti_rng _)
  refine q_top e2 ?_
  refine q_istore (lv' := [(0, .ref (E.1 0)), (1, iV a1), (2, .ref (E.1 1000)), (3, iV x3), (4, iV x4), (5, iV x5), (6, iV x6), (7, iV x7), (8, iV x8), (9, iV x9), (10, iV x10), (11, iV z1), (12, iV x12), (13, iV x13), (14, iV x14), (15, iV x15), (16, iV x16), (17, iV x17), (18, iV x18)]) F [1, 2, 3, 4, 5, 6, 7, 8, 9, 10, 11, 0, 12, 13, 14, 15, 16, 17, 18] dL_holds_152 (q_n hN (by decide)) rfl ?_
  refine q_iload F 12 dL_holds_154 rfl ?_
  refine q_iload F 18 dL_holds_156 rfl ?_
  refine q_iconst F dL_holds_158 ?_
  obtain ⟨k3, hw⟩ := hw
  refine q_irem F ⟨⟨k3, (hx18).2⟩, by decide, by decide⟩ dL_holds_159 ?_
  obtain ⟨k4, hw⟩ := hw
  refine q_if_ne F k4 167 dL_holds_160 (by decide) (fun hc => ?_) (fun hc => ?_)
  · have hw := hw.1 hc
    refine q_iconst F dL_holds_167 ?_
    refine q_lv [0, 1, 2, 3, 4, 5, 6, 7, 8, 9, 10, 11, 13, 14, 15, 16, 17, 18] rfl ?_
    exact bL_holds_168 F hR hN hret hfl ha1 hK59 x3 x4 x5 x6 x7 x8 x9 x10 z1 x13 x14 x15 x16 x17 x18 x12 0 f0 I R hx3 hx4 hx5 hx6 hx7 hx8 hx9 hx10 hz1 hx13 hx14 hx15 hx16 hx17 hx18 hx12 (⟨by decide, by decide⟩ : inR (0)) hf0 hm hw
  · have hw := hw.2 hc
    refine q_iconst F dL_holds_163 ?_
    refine q_goto F 168 dL_holds_164 (by decide) ?_
    refine q_lv [0, 1, 2, 3, 4, 5, 6, 7, 8, 9, 10, 11, 13, 14, 15, 16, 17, 18] rfl ?_
    exact bL_holds_168 F hR hN hret hfl ha1 hK59 x3 x4 x5 x6 x7 x8 x9 x10 z1 x13 x14 x15 x16 x17 x18 x12 1 f0 I R hx3 hx4 hx5 hx6 hx7 hx8 hx9 hx10 hz1 hx13 hx14 hx15 hx16 hx17 hx18 hx12 (⟨by decide, by decide⟩ : inR (1)) hf0 hm hw
set_option maxHeartbeats 4000000 in
set_option maxRecDepth 100000 in
theorem bL_holds_133 {X : xC} {E : cE} (F : mF X E RL cL_holds bG) (hR : X.1.2.2.2 = rmK 9 (1) (12)) (hN : X.2.2.1.2.2.2 = 21) {Q : Int → cI → cR → (Int → Int) → Prop} (hret : rZP X E cL_holds (1) (12) 4 Q) (hfl : X.1.2.1.stackTraces = false) {a1 : Int} (ha1 : inR a1) {K59 : Int → Int → Int → Int → Int → Int → Int → Int → Int → Int → Int → Int → Int → Int → Int → (Int → Int) → cI → cR → Prop} (hK59 : ∀ (x3 : Int) (x4 : Int) (x5 : Int) (x6 : Int) (x7 : Int) (x8 : Int) (x9 : Int) (x10 : Int) (x11 : Int) (x12 : Int) (x13 : Int) (x14 : Int) (x15 : Int) (x16 : Int) (x17 : Int) (f0 : Int → Int) (I : cI) (R : cR), inR x3 → inR x4 → inR x5 → inR x6 → inR x7 → inR x8 → inR x9 → inR x10 → inR x11 → inR x12 → inR x13 → inR x14 → inR x15 → inR x16 → inR x17 → (∀ x, inR (f0 x)) → cM I R → K59 x3 x4 x5 x6 x7 x8 x9 x10 x11 x12 x13 x14 x15 x16 x17 f0 I R → cW X (0) (0) 59 [(0, .ref (E.1 0)), (1, iV a1), (2, .ref (E.1 1000)), (3, iV x3), (4, iV x4), (5, iV x5), (6, iV x6), (7, iV x7), (8, iV x8), (9, iV x9), (10, iV x10), (11, iV x11), (12, iV x12), (13, iV x13), (14, iV x14), (15, iV x15), (16, iV x16), (17, iV x17)] [] (gw E.1 cIds (cef E (I, R)) ++ [((E.1 1000), iA E 4 f0)])) : ∀ (x3 : Int) (x4 : Int) (x5 : Int) (x6 : Int) (x7 : Int) (x8 : Int) (x9 : Int) (x11 : Int) (x12 : Int) (x13 : Int) (x14 : Int) (x15 : Int) (x16 : Int) (x17 : Int) (x18 : Int) (y0 : Int) (y1 : Int) (f0 : Int → Int) (I : cI) (R : cR), inR x3 → inR x4 → inR x5 → inR x6 → inR x7 → inR x8 → inR x9 → inR x11 → inR x12 → inR x13 → inR x14 → inR x15 → inR x16 → inR x17 → inR x18 → inR y0 → inR y1 → (∀ x, inR (f0 x)) → cM I R → wL_holds_133 Q a1 K59 x3 x4 x5 x6 x7 x8 x9 x11 x12 x13 x14 x15 x16 x17 x18 y0 y1 f0 I R → cW X (0) (0) 133 [(0, .ref (E.1 0)), (1, iV a1), (2, .ref (E.1 1000)), (3, iV x3), (4, iV x4), (5, iV x5), (6, iV x6), (7, iV x7), (8, iV x8), (9, iV x9), (11, iV x11), (12, iV x12), (13, iV x13), (14, iV x14), (15, iV x15), (16, iV x16), (17, iV x17), (18, iV x18)] [iV y1, iV y0] (gw E.1 cIds (cef E (I, R)) ++ [((E.1 1000), iA E 4 f0)]) := by
  intro x3 x4 x5 x6 x7 x8 x9 x11 x12 x13 x14 x15 x16 x17 x18 y0 y1 f0 I R hx3 hx4 hx5 hx6 hx7 hx8 hx9 hx11 hx12 hx13 hx14 hx15 hx16 hx17 hx18 hy0 hy1 hf0 hm hw
  unfold wL_holds_133 at hw
  refine q_iadd F dL_holds_133 ?_
  obtain ⟨k1, hw⟩ := hw
  obtain ⟨z2, e3⟩ := ex1 ((y0 + y1))
  have hw := hw z2 e3
  have hz2 : inR z2 := by rw [e3]; exact k1
  refine q_top e3 ?_
  refine q_istore (lv' := [(0, .ref (E.1 0)), (1, iV a1), (2, .ref (E.1 1000)), (3, iV x3), (4, iV x4), (5, iV x5), (6, iV x6), (7, iV x7), (8, iV x8), (9, iV x9), (10, iV z2), (11, iV x11), (12, iV x12), (13, iV x13), (14, iV x14), (15, iV x15), (16, iV x16), (17, iV x17), (18, iV x18)]) F [1, 2, 3, 4, 5, 6, 7, 8, 9, 10, 0, 11, 12, 13, 14, 15, 16, 17, 18] dL_holds_134 (q_n hN (by decide)) rfl ?_
  refine q_iload F 11 dL_holds_136 rfl ?_
  refine q_iload F 18 dL_holds_138 rfl ?_
  refine q_iconst F dL_holds_140 ?_
  obtain ⟨k4, hw⟩ := hw
  refine q_irem F ⟨⟨k4, (hx18).2⟩, by decide, by decide⟩ dL_holds_141 ?_
  refine q_iconst F dL_holds_142 ?_
  obtain ⟨k5, hw⟩ := hw
  refine q_icmp_ne F k5 (⟨by decide, by decide⟩ : inR (1)) 150 dL_holds_143 (by decide) (fun hc => ?_) (fun hc => ?_)
  · have hw := hw.1 hc
    refine q_iconst F dL_holds_150 ?_
    refine q_lv [0, 1, 2, 3, 4, 5, 6, 7, 8, 9, 10, 12, 13, 14, 15, 16, 17, 18] rfl ?_
    exact bL_holds_151 F hR hN hret hfl ha1 hK59 x3 x4 x5 x6 x7 x8 x9 z2 x12 x13 x14 x15 x16 x17 x18 x11 0 f0 I R hx3 hx4 hx5 hx6 hx7 hx8 hx9 hz2 hx12 hx13 hx14 hx15 hx16 hx17 hx18 hx11 (⟨by decide, by decide⟩ : inR (0)) hf0 hm hw
  · have hw := hw.2 hc
    refine q_iconst F dL_holds_146 ?_
    refine q_goto F 151 dL_holds_147 (by decide) ?_
    refine q_lv [0, 1, 2, 3, 4, 5, 6, 7, 8, 9, 10, 12, 13, 14, 15, 16, 17, 18] rfl ?_
    exact bL_holds_151 F hR hN hret hfl ha1 hK59 x3 x4 x5 x6 x7 x8 x9 z2 x12 x13 x14 x15 x16 x17 x18 x11 1 f0 I R hx3 hx4 hx5 hx6 hx7 hx8 hx9 hz2 hx12 hx13 hx14 hx15 hx16 hx17 hx18 hx11 (⟨by decide, by decide⟩ : inR (1)) hf0 hm hw
set_option maxHeartbeats 4000000 in
set_option maxRecDepth 100000 in
theorem bL_holds_107 {X : xC} {E : cE} (F : mF X E RL cL_holds bG) (hR : X.1.2.2.2 = rmK 9 (1) (12)) (hN : X.2.2.1.2.2.2 = 21) {Q : Int → cI → cR → (Int → Int) → Prop} (hret : rZP X E cL_holds (1) (12) 4 Q) (hfl : X.1.2.1.stackTraces = false) {a1 : Int} (ha1 : inR a1) {K59 : Int → Int → Int → Int → Int → Int → Int → Int → Int → Int → Int → Int → Int → Int → Int → (Int → Int) → cI → cR → Prop} (hK59 : ∀ (x3 : Int) (x4 : Int) (x5 : Int) (x6 : Int) (x7 : Int) (x8 : Int) (x9 : Int) (x10 : Int) (x11 : Int) (x12 : Int) (x13 : Int) (x14 : Int) (x15 : Int) (x16 : Int) (x17 : Int) (f0 : Int → Int) (I : cI) (R : cR), inR x3 → inR x4 → inR x5 → inR x6 → inR x7 → inR x8 → inR x9 → inR x10 → inR x11 → inR x12 → inR x13 → inR x14 → inR x15 → inR x16 → inR x17 → (∀ x, inR (f0 x)) → cM I R → K59 x3 x4 x5 x6 x7 x8 x9 x10 x11 x12 x13 x14 x15 x16 x17 f0 I R → cW X (0) (0) 59 [(0, .ref (E.1 0)), (1, iV a1), (2, .ref (E.1 1000)), (3, iV x3), (4, iV x4), (5, iV x5), (6, iV x6), (7, iV x7), (8, iV x8), (9, iV x9), (10, iV x10), (11, iV x11), (12, iV x12), (13, iV x13), (14, iV x14), (15, iV x15), (16, iV x16), (17, iV x17)] [] (gw E.1 cIds (cef E (I, R)) ++ [((E.1 1000), iA E 4 f0)])) : ∀ (x3 : Int) (x4 : Int) (x5 : Int) (x6 : Int) (x7 : Int) (x9 : Int) (x10 : Int) (x11 : Int) (x12 : Int) (x13 : Int) (x14 : Int) (x15 : Int) (x16 : Int) (x17 : Int) (x18 : Int) (y0 : Int) (y1 : Int) (f0 : Int → Int) (I : cI) (R : cR), inR x3 → inR x4 → inR x5 → inR x6 → inR x7 → inR x9 → inR x10 → inR x11 → inR x12 → inR x13 → inR x14 → inR x15 → inR x16 → inR x17 → inR x18 → inR y0 → inR y1 → (∀ x, inR (f0 x)) → cM I R → wL_holds_107 Q a1 K59 x3 x4 x5 x6 x7 x9 x10 x11 x12 x13 x14 x15 x16 x17 x18 y0 y1 f0 I R → cW X (0) (0) 107 [(0, .ref (E.1 0)), (1, iV a1), (2, .ref (E.1 1000)), (3, iV x3), (4, iV x4), (5, iV x5), (6, iV x6), (7, iV x7), (9, iV x9), (10, iV x10), (11, iV x11), (12, iV x12), (13, iV x13), (14, iV x14), (15, iV x15), (16, iV x16), (17, iV x17), (18, iV x18)] [iV y1, iV y0] (gw E.1 cIds (cef E (I, R)) ++ [((E.1 1000), iA E 4 f0)]) := by
  intro x3 x4 x5 x6 x7 x9 x10 x11 x12 x13 x14 x15 x16 x17 x18 y0 y1 f0 I R hx3 hx4 hx5 hx6 hx7 hx9 hx10 hx11 hx12 hx13 hx14 hx15 hx16 hx17 hx18 hy0 hy1 hf0 hm hw
  unfold wL_holds_107 at hw
  refine q_iadd F dL_holds_107 ?_
  obtain ⟨k1, hw⟩ := hw
  obtain ⟨z2, e3⟩ := ex1 ((y0 + y1))
  have hw := hw z2 e3
  have hz2 : inR z2 := by rw [e3]; exact k1
  refine q_top e3 ?_
  refine q_istore (lv' := [(0, .ref (E.1 0)), (1, iV a1), (2, .ref (E.1 1000)), (3, iV x3), (4, iV x4), (5, iV x5), (6, iV x6), (7, iV x7), (8, iV z2), (9, iV x9), (10, iV x10), (11, iV x11), (12, iV x12), (13, iV x13), (14, iV x14), (15, iV x15), (16, iV x16), (17, iV x17), (18, iV x18)]) F [1, 2, 3, 4, 5, 6, 7, 8, 0, 9, 10, 11, 12, 13, 14, 15, 16, 17, 18] dL_holds_108 (q_n hN (by decide)) rfl ?_
  refine q_iload F 9 dL_holds_110 rfl ?_
  refine q_iload F 18 dL_holds_112 rfl ?_
  refine q_max F hR (by omega) hx9 hx18 wd816 dL_holds_114 (Nat.le_of_ble_eq_true rfl) ?_
  obtain ⟨z4, e5⟩ := ex1 ((imax x9 x18))
  have hw := hw z4 e5
  have hz4 : inR z4 := by rw [e5]; exact (imax_in hx9 hx18)
  refine q_top e5 ?_
  refine q_istore (lv' := [(0, .ref (E.1 0)), (1, iV a1), (2, .ref (E.1 1000)), (3, iV x3), (4, iV x4), (5, iV x5), (6, iV x6), (7, iV x7), (8, iV z2), (9, iV z4), (10, iV x10), (11, iV x11), (12, iV x12), (13, iV x13), (14, iV x14), (15, iV x15), (16, iV x16), (17, iV x17), (18, iV x18)]) F [1, 2, 3, 4, 5, 6, 7, 8, 9, 0, 10, 11, 12, 13, 14, 15, 16, 17, 18] dL_holds_117 (q_n hN (by decide)) rfl ?_
  refine q_iload F 10 dL_holds_119 rfl ?_
  refine q_iload F 18 dL_holds_121 rfl ?_
  refine q_iload F 4 dL_holds_123 rfl ?_
  refine q_icmp_ne F hx18 hx4 132 dL_holds_125 (by decide) (fun hc => ?_) (fun hc => ?_)
  · have hw := hw.1 hc
    refine q_iconst F dL_holds_132 ?_
    refine q_lv [0, 1, 2, 3, 4, 5, 6, 7, 8, 9, 11, 12, 13, 14, 15, 16, 17, 18] rfl ?_
    exact bL_holds_133 F hR hN hret hfl ha1 hK59 x3 x4 x5 x6 x7 z2 z4 x11 x12 x13 x14 x15 x16 x17 x18 x10 0 f0 I R hx3 hx4 hx5 hx6 hx7 hz2 hz4 hx11 hx12 hx13 hx14 hx15 hx16 hx17 hx18 hx10 (⟨by decide, by decide⟩ : inR (0)) hf0 hm hw
  · have hw := hw.2 hc
    refine q_iconst F dL_holds_128 ?_
    refine q_goto F 133 dL_holds_129 (by decide) ?_
    refine q_lv [0, 1, 2, 3, 4, 5, 6, 7, 8, 9, 11, 12, 13, 14, 15, 16, 17, 18] rfl ?_
    exact bL_holds_133 F hR hN hret hfl ha1 hK59 x3 x4 x5 x6 x7 z2 z4 x11 x12 x13 x14 x15 x16 x17 x18 x10 1 f0 I R hx3 hx4 hx5 hx6 hx7 hz2 hz4 hx11 hx12 hx13 hx14 hx15 hx16 hx17 hx18 hx10 (⟨by decide, by decide⟩ : inR (1)) hf0 hm hw
set_option maxHeartbeats 4000000 in
set_option maxRecDepth 100000 in
theorem bL_holds_59 {X : xC} {E : cE} (F : mF X E RL cL_holds bG) (hR : X.1.2.2.2 = rmK 9 (1) (12)) (hN : X.2.2.1.2.2.2 = 21) {Q : Int → cI → cR → (Int → Int) → Prop} (hret : rZP X E cL_holds (1) (12) 4 Q) (hfl : X.1.2.1.stackTraces = false) {a1 : Int} (ha1 : inR a1) : ∀ n59 : Nat, ∀ (x3 : Int) (x4 : Int) (x5 : Int) (x6 : Int) (x7 : Int) (x8 : Int) (x9 : Int) (x10 : Int) (x11 : Int) (x12 : Int) (x13 : Int) (x14 : Int) (x15 : Int) (x16 : Int) (x17 : Int) (f0 : Int → Int) (I : cI) (R : cR), inR x3 → inR x4 → inR x5 → inR x6 → inR x7 → inR x8 → inR x9 → inR x10 → inR x11 → inR x12 → inR x13 → inR x14 → inR x15 → inR x16 → inR x17 → (∀ x, inR (f0 x)) → cM I R → wL_holds_59 Q a1 n59 x3 x4 x5 x6 x7 x8 x9 x10 x11 x12 x13 x14 x15 x16 x17 f0 I R → cW X (0) (0) 59 [(0, .ref (E.1 0)), (1, iV a1), (2, .ref (E.1 1000)), (3, iV x3), (4, iV x4), (5, iV x5), (6, iV x6), (7, iV x7), (8, iV x8), (9, iV x9), (10, iV x10), (11, iV x11), (12, iV x12), (13, iV x13), (14, iV x14), (15, iV x15), (16, iV x16), (17, iV x17)] [] (gw E.1 cIds (cef E (I, R)) ++ [((E.1 1000), iA E 4 f0)]) := by
  intro n59
  induction n59 with
  | zero => intro x3 x4 x5 x6 x7 x8 x9 x10 x11 x12 x13 x14 x15 x16 x17 f0 I R hx3 hx4 hx5 hx6 hx7 hx8 hx9 hx10 hx11 hx12 hx13 hx14 hx15 hx16 hx17 hf0 hm hw; exact hw.elim
  | succ n59 ih =>
    intro x3 x4 x5 x6 x7 x8 x9 x10 x11 x12 x13 x14 x15 x16 x17 f0 I R hx3 hx4 hx5 hx6 hx7 hx8 hx9 hx10 hx11 hx12 hx13 hx14 hx15 hx16 hx17 hf0 hm hw
    change wbL_holds_59 Q a1 (wL_holds_59 Q a1 n59) x3 x4 x5 x6 x7 x8 x9 x10 x11 x12 x13 x14 x15 x16 x17 f0 I R at hw
    unfold wbL_holds_59 at hw
    refine q_iload F 17 dL_holds_59 rfl ?_
    refine q_iload F 5 dL_holds_61 rfl ?_
    refine q_icmp_ge F hx17 hx5 298 dL_holds_63 (by decide) (fun hc => ?_) (fun hc => ?_)
    · have hw := hw.1 hc
      refine q_bipush F dL_holds_298 (by decide) ?_
      obtain ⟨f2, e3⟩ := ex1 (fun _ : Int => (0 : Int))
      have hw := hw f2 e3
      have gf2 : ∀ x, inR (f2 x) := by rw [e3]; exact fun _ => ti_0
      refine g_bnew F wd820 12 rfl (by decide) (rmK_cs (a := 1) (b := 0) (ns := 0) hR (by omega) (by omega)).1 (rmK_cs (a := 0) (nc := 0) hR (by omega) (by omega)).2 dL_holds_300 (fun q1 => ?_)
      rw [← e3]
      show cW X _ _ _ _ _ (gw E.1 cIds (cef E (I, R)) ++ [((E.1 1000), iA E 4 f0), (q1, bA E 12 f2)])
      refine q_dup F dL_holds_302 rfl ?_
      refine q_iconst F dL_holds_303 ?_
      refine q_iload F 13 dL_holds_304 rfl ?_
      obtain ⟨k4, hw⟩ := hw
      obtain ⟨f5, e6⟩ := ex1 (upF f2 0 x13)
      have hw := hw f5 e6
      have gf5 : ∀ x, inR (f5 x) := upF_in gf2 e6 hx13
      refine g_bast F (cIds.length + 1) (gw_tmp 1 rfl) (⟨by decide, by decide⟩ : 0 ≤ (0 : Int) ∧ (0 : Int) < 12) (by decide) k4 (T' := gw E.1 cIds (cef E (I, R)) ++ [((E.1 1000), iA E 4 f0), (q1, bA E 12 f5)]) (by rw [gw_setT, e6]; rfl) dL_holds_306 ?_
      refine q_dup F dL_holds_307 rfl ?_
      refine q_iconst F dL_holds_308 ?_
      refine q_iload F 6 dL_holds_309 rfl ?_
      refine q_iload F 4 dL_holds_311 rfl ?_
      refine q_icmp_ne F hx6 hx4 320 dL_holds_313 (by decide) (fun hc => ?_) (fun hc => ?_)
      · have hw := hw.1 hc
        refine q_iconst F dL_holds_320 ?_
        refine q_lv [0, 1, 3, 4, 7, 8, 10, 11, 12, 14, 15, 16] rfl ?_
        exact bL_holds_321 F hR hN hret hfl ha1 x3 x4 x7 x8 x10 x11 x12 x14 x15 x16 1 0 q1 f0 f5 I R hx3 hx4 hx7 hx8 hx10 hx11 hx12 hx14 hx15 hx16 (⟨by decide, by decide⟩ : inR (1)) (⟨by decide, by decide⟩ : inR (0)) hf0 gf5 hm hw
      · have hw := hw.2 hc
        refine q_iconst F dL_holds_316 ?_
        refine q_goto F 321 dL_holds_317 (by decide) ?_
        refine q_lv [0, 1, 3, 4, 7, 8, 10, 11, 12, 14, 15, 16] rfl ?_
        exact bL_holds_321 F hR hN hret hfl ha1 x3 x4 x7 x8 x10 x11 x12 x14 x15 x16 1 1 q1 f0 f5 I R hx3 hx4 hx7 hx8 hx10 hx11 hx12 hx14 hx15 hx16 (⟨by decide, by decide⟩ : inR (1)) (⟨by decide, by decide⟩ : inR (1)) hf0 gf5 hm hw
    · have hw := hw.2 hc
      refine q_aload_n F 2 dL_holds_66 rfl rfl ?_
      refine q_aload_n F 0 dL_holds_67 rfl rfl ?_
      refine q_iload_n F 1 dL_holds_68 rfl rfl ?_
      refine q_iconst F dL_holds_69 ?_
      refine q_iload F 17 dL_holds_70 rfl ?_
      refine q_iadd F dL_holds_72 ?_
      obtain ⟨k7, hw⟩ := hw
      refine q_Vit F (kcX11_rule hfl 0 (Or.inr (fun _ _ _ h => h)) hm ha1 k7 hw) (cIds_in (show ckd 0 = 9 ∧ 0 < 353 by decide).2) (ceMill (show ckd 0 = 9 ∧ 0 < 353 by decide).1) (ci := 9) rfl (bV wd503 wd504 wd505 wd1 wd506) rfl ⟨rfl, rfl⟩ ydX11_rule (rmK_le hR (by omega) (by decide)) (av := [iV a1, iV ((4 + x17))]) rfl rfl (Nat.le_of_ble_eq_true rfl) dL_holds_73 (rmK_cs hR (by omega) (by omega)) (fun r8 I9 R10 h11 m12 hw => ?_)
      obtain ⟨k13, hw⟩ := hw
      refine g_tald F 0 rfl k13 (by decide) dL_holds_76 ?_
      obtain ⟨z14, e15⟩ := ex1 ((f0 r8))
      have hw := hw z14 e15
      have hz14 : inR z14 := by rw [e15]; exact (hf0 _)
      refine q_top e15 ?_
      refine q_istore (lv' := [(0, .ref (E.1 0)), (1, iV a1), (2, .ref (E.1 1000)), (3, iV x3), (4, iV x4), (5, iV x5), (6, iV x6), (7, iV x7), (8, iV x8), (9, iV x9), (10, iV x10), (11, iV x11), (12, iV x12), (13, iV x13), (14, iV x14), (15, iV x15), (16, iV x16), (17, iV x17), (18, iV z14)]) F [1, 2, 3, 4, 5, 6, 7, 8, 9, 10, 11, 12, 13, 14, 15, 16, 17, 18, 0] dL_holds_77 (q_n hN (by decide)) rfl ?_
      refine q_iload F 6 dL_holds_79 rfl ?_
      refine q_iload F 18 dL_holds_81 rfl ?_
      refine q_iadd F dL_holds_83 ?_
      obtain ⟨k16, hw⟩ := hw
      obtain ⟨z17, e18⟩ := ex1 ((x6 + z14))
      have hw := hw z17 e18
      have hz17 : inR z17 := by rw [e18]; exact k16
      refine q_top e18 ?_
      refine q_istore (lv' := [(0, .ref (E.1 0)), (1, iV a1), (2, .ref (E.1 1000)), (3, iV x3), (4, iV x4), (5, iV x5), (6, iV z17), (7, iV x7), (8, iV x8), (9, iV x9), (10, iV x10), (11, iV x11), (12, iV x12), (13, iV x13), (14, iV x14), (15, iV x15), (16, iV x16), (17, iV x17), (18, iV z14)]) F [1, 2, 3, 4, 5, 6, 0, 7, 8, 9, 10, 11, 12, 13, 14, 15, 16, 17, 18] dL_holds_84 (q_n hN (by decide)) rfl ?_
      refine q_iload F 7 dL_holds_86 rfl ?_
      refine q_iload F 18 dL_holds_88 rfl ?_
      refine q_imul F dL_holds_90 ?_
      obtain ⟨k19, hw⟩ := hw
      obtain ⟨z20, e21⟩ := ex1 ((x7 * z14))
      have hw := hw z20 e21
      have hz20 : inR z20 := by rw [e21]; exact k19
      refine q_top e21 ?_
      refine q_istore (lv' := [(0, .ref (E.1 0)), (1, iV a1), (2, .ref (E.1 1000)), (3, iV x3), (4, iV x4), (5, iV x5), (6, iV z17), (7, iV z20), (8, iV x8), (9, iV x9), (10, iV x10), (11, iV x11), (12, iV x12), (13, iV x13), (14, iV x14), (15, iV x15), (16, iV x16), (17, iV x17), (18, iV z14)]) F [1, 2, 3, 4, 5, 6, 7, 0, 8, 9, 10, 11, 12, 13, 14, 15, 16, 17, 18] dL_holds_91 (q_n hN (by decide)) rfl ?_
      refine q_iload F 8 dL_holds_93 rfl ?_
      refine q_iload F 18 dL_holds_95 rfl ?_
      refine q_iload F 9 dL_holds_97 rfl ?_
      refine q_icmp_le F hz14 hx9 106 dL_holds_99 (by decide) (fun hc => ?_) (fun hc => ?_)
      · have hw := hw.1 hc
        refine q_iconst F dL_holds_106 ?_
        refine q_lv [0, 1, 2, 3, 4, 5, 6, 7, 9, 10, 11, 12, 13, 14, 15, 16, 17, 18] rfl ?_
        exact bL_holds_107 F hR hN hret hfl ha1 ih x3 x4 x5 z17 z20 x9 x10 x11 x12 x13 x14 x15 x16 x17 z14 x8 0 f0 I9 R10 hx3 hx4 hx5 hz17 hz20 hx9 hx10 hx11 hx12 hx13 hx14 hx15 hx16 hx17 hz14 hx8 (⟨by decide, by decide⟩ : inR (0)) hf0 m12 hw
      · have hw := hw.2 hc
        refine q_iconst F dL_holds_102 ?_
        refine q_goto F 107 dL_holds_103 (by decide) ?_
        refine q_lv [0, 1, 2, 3, 4, 5, 6, 7, 9, 10, 11, 12, 13, 14, 15, 16, 17, 18] rfl ?_
        exact bL_holds_107 F hR hN hret hfl ha1 ih x3 x4 x5 z17 z20 x9 x10 x11 x12 x13 x14 x15 x16 x17 z14 x8 1 f0 I9 R10 hx3 hx4 hx5 hz17 hz20 hx9 hx10 hx11 hx12 hx13 hx14 hx15 hx16 hx17 hz14 hx8 (⟨by decide, by decide⟩ : inR (1)) hf0 m12 hw
set_option maxHeartbeats 4000000 in
set_option maxRecDepth 100000 in
theorem kcL_holds {l : Launch} {D : va_G} {E : cE} (hfl : l.stackTraces = false) {a1 : Int} {I : cI} {R : cR} (hm : cM I R) (ha1 : inR a1) {f : Int → Int} (hf : ∀ z, inR (f z)) {Q : Int → cI → cR → (Int → Int) → Prop} (hw : wL_holds a1 f I R Q) : gM l D E pIds yL_holds vL_holds (rmK 9 (1) (12)) [.ref (E.1 0), iV a1, .ref (E.1 1000)] (pef E 4 ((I, R), f)) (pef E 4) (pIP Q) (1) (12) := by
  unfold wL_holds at hw
  refine k_ofW (own := RL) (cc := cL_holds) (maxL := 21) (ret := (some .boolean)) (lv := [(0, .ref (E.1 0)), (1, iV a1), (2, .ref (E.1 1000))]) (by decide) rfl rfl (Nat.le_of_ble_eq_true rfl) rfl ?_
  intro X hl hR hN hD F K
  subst hl; subst hD
  have hret := mk_rZP (Q := Q) F K
  rw [p_split]
  refine q_aload_n F 0 dL_holds_0 rfl rfl ?_
  refine q_iload_n F 1 dL_holds_1 rfl rfl ?_
  refine q_iconst F dL_holds_2 ?_
  refine q_Vit F (kcX11_rule hfl 0 (Or.inr (fun _ _ _ h => h)) hm ha1 (⟨by decide, by decide⟩ : inR (0)) hw) (cIds_in (show ckd 0 = 9 ∧ 0 < 353 by decide).2) (ceMill (show ckd 0 = 9 ∧ 0 < 353 by decide).1) (ci := 9) rfl (bV wd503 wd504 wd505 wd1 wd506) rfl ⟨rfl, rfl⟩ ydX11_rule (rmK_le hR (by omega) (by decide)) (av := [iV a1, iV 0]) rfl rfl (Nat.le_of_ble_eq_true rfl) dL_holds_3 (rmK_cs hR (by omega) (by omega)) (fun r1 I2 R3 h4 m5 hw => ?_)
  refine q_istore_n (lv' := [(0, .ref (E.1 0)), (1, iV a1), (2, .ref (E.1 1000)), (3, iV r1)]) F [1, 2, 3, 0] dL_holds_6 rfl (q_n hN (by decide)) rfl ?_
  refine q_aload_n F 0 dL_holds_7 rfl rfl ?_
  refine q_iload_n F 1 dL_holds_8 rfl rfl ?_
  refine q_iconst F dL_holds_9 ?_
  refine q_Vit F (kcX11_rule hfl 0 (Or.inr (fun _ _ _ h => h)) m5 ha1 (⟨by decide, by decide⟩ : inR (1)) hw) (cIds_in (show ckd 0 = 9 ∧ 0 < 353 by decide).2) (ceMill (show ckd 0 = 9 ∧ 0 < 353 by decide).1) (ci := 9) rfl (bV wd503 wd504 wd505 wd1 wd506) rfl ⟨rfl, rfl⟩ ydX11_rule (rmK_le hR (by omega) (by decide)) (av := [iV a1, iV 1]) rfl rfl (Nat.le_of_ble_eq_true rfl) dL_holds_10 (rmK_cs hR (by omega) (by omega)) (fun r6 I7 R8 h9 m10 hw => ?_)
  refine q_istore (lv' := [(0, .ref (E.1 0)), (1, iV a1), (2, .ref (E.1 1000)), (3, iV r1), (4, iV r6)]) F [1, 2, 3, 4, 0] dL_holds_13 (q_n hN (by decide)) rfl ?_
  refine q_aload_n F 0 dL_holds_15 rfl rfl ?_
  refine q_iload_n F 1 dL_holds_16 rfl rfl ?_
  refine q_iconst F dL_holds_17 ?_
  refine q_Vit F (kcX11_rule hfl 0 (Or.inr (fun _ _ _ h => h)) m10 ha1 (⟨by decide, by decide⟩ : inR (3)) hw) (cIds_in (show ckd 0 = 9 ∧ 0 < 353 by decide).2) (ceMill (show ckd 0 = 9 ∧ 0 < 353 by decide).1) (ci := 9) rfl (bV wd503 wd504 wd505 wd1 wd506) rfl ⟨rfl, rfl⟩ ydX11_rule (rmK_le hR (by omega) (by decide)) (av := [iV a1, iV 3]) rfl rfl (Nat.le_of_ble_eq_true rfl) dL_holds_18 (rmK_cs hR (by omega) (by omega)) (fun r11 I12 R13 h14 m15 hw => ?_)
  refine q_istore (lv' := [(0, .ref (E.1 0)), (1, iV a1), (2, .ref (E.1 1000)), (3, iV r1), (4, iV r6), (5, iV r11)]) F [1, 2, 3, 4, 5, 0] dL_holds_21 (q_n hN (by decide)) rfl ?_
  refine q_iconst F dL_holds_23 ?_
  refine q_istore (lv' := [(0, .ref (E.1 0)), (1, iV a1), (2, .ref (E.1 1000)), (3, iV r1), (4, iV r6), (5, iV r11), (6, iV 0)]) F [1, 2, 3, 4, 5, 6, 0] dL_holds_24 (q_n hN (by decide)) rfl ?_
  refine q_iconst F dL_holds_26 ?_
  refine q_istore (lv' := [(0, .ref (E.1 0)), (1, iV a1), (2, .ref (E.1 1000)), (3, iV r1), (4, iV r6), (5, iV r11), (6, iV 0), (7, iV 1)]) F [1, 2, 3, 4, 5, 6, 7, 0] dL_holds_27 (q_n hN (by decide)) rfl ?_
  refine q_iconst F dL_holds_29 ?_
  refine q_istore (lv' := [(0, .ref (E.1 0)), (1, iV a1), (2, .ref (E.1 1000)), (3, iV r1), (4, iV r6), (5, iV r11), (6, iV 0), (7, iV 1), (8, iV 0)]) F [1, 2, 3, 4, 5, 6, 7, 8, 0] dL_holds_30 (q_n hN (by decide)) rfl ?_
  refine q_iconst F dL_holds_32 ?_
  refine q_istore (lv' := [(0, .ref (E.1 0)), (1, iV a1), (2, .ref (E.1 1000)), (3, iV r1), (4, iV r6), (5, iV r11), (6, iV 0), (7, iV 1), (8, iV 0), (9, iV 0)]) F [1, 2, 3, 4, 5, 6, 7, 8, 9, 0] dL_holds_33 (q_n hN (by decide)) rfl ?_
  refine q_iconst F dL_holds_35 ?_
  refine q_istore (lv' := [(0, .ref (E.1 0)), (1, iV a1), (2, .ref (E.1 1000)), (3, iV r1), (4, iV r6), (5, iV r11), (6, iV 0), (7, iV 1), (8, iV 0), (9, iV 0), (10, iV 0)]) F [1, 2, 3, 4, 5, 6, 7, 8, 9, 10, 0] dL_holds_36 (q_n hN (by decide)) rfl ?_
  refine q_iconst F dL_holds_38 ?_
  refine q_istore (lv' := [(0, .ref (E.1 0)), (1, iV a1), (2, .ref (E.1 1000)), (3, iV r1), (4, iV r6), (5, iV r11), (6, iV 0), (7, iV 1), (8, iV 0), (9, iV 0), (10, iV 0), (11, iV 1)]) F [1, 2, 3, 4, 5, 6, 7, 8, 9, 10, 11, 0] dL_holds_39 (q_n hN (by decide)) rfl ?_
  refine q_iconst F dL_holds_41 ?_
  refine q_istore (lv' := [(0, .ref (E.1 0)), (1, iV a1), (2, .ref (E.1 1000)), (3, iV r1), (4, iV r6), (5, iV r11), (6, iV 0), (7, iV 1), (8, iV 0), (9, iV 0), (10, iV 0), (11, iV 1), (12, iV 1)]) F [1, 2, 3, 4, 5, 6, 7, 8, 9, 10, 11, 12, 0] dL_holds_42 (q_n hN (by decide)) rfl ?_
  refine q_iconst F dL_holds_44 ?_
  refine q_istore (lv' := [(0, .ref (E.1 0)), (1, iV a1), (2, .ref (E.1 1000)), (3, iV r1), (4, iV r6), (5, iV r11), (6, iV 0), (7, iV 1), (8, iV 0), (9, iV 0), (10, iV 0), (11, iV 1), (12, iV 1), (13, iV 1)]) F [1, 2, 3, 4, 5, 6, 7, 8, 9, 10, 11, 12, 13, 0] dL_holds_45 (q_n hN (by decide)) rfl ?_
  refine q_iconst F dL_holds_47 ?_
  refine q_istore (lv' := [(0, .ref (E.1 0)), (1, iV a1), (2, .ref (E.1 1000)), (3, iV r1), (4, iV r6), (5, iV r11), (6, iV 0), (7, iV 1), (8, iV 0), (9, iV 0), (10, iV 0), (11, iV 1), (12, iV 1), (13, iV 1), (14, iV 1)]) F [1, 2, 3, 4, 5, 6, 7, 8, 9, 10, 11, 12, 13, 14, 0] dL_holds_48 (q_n hN (by decide)) rfl ?_
  refine q_iconst F dL_holds_50 ?_
  refine q_istore (lv' := [(0, .ref (E.1 0)), (1, iV a1), (2, .ref (E.1 1000)), (3, iV r1), (4, iV r6), (5, iV r11), (6, iV 0), (7, iV 1), (8, iV 0), (9, iV 0), (10, iV 0), (11, iV 1), (12, iV 1), (13, iV 1), (14, iV 1), (15, iV 1)]) F [1, 2, 3, 4, 5, 6, 7, 8, 9, 10, 11, 12, 13, 14, 15, 0] dL_holds_51 (q_n hN (by decide)) rfl ?_
  refine q_iconst F dL_holds_53 ?_
  refine q_istore (lv' := [(0, .ref (E.1 0)), (1, iV a1), (2, .ref (E.1 1000)), (3, iV r1), (4, iV r6), (5, iV r11), (6, iV 0), (7, iV 1), (8, iV 0), (9, iV 0), (10, iV 0), (11, iV 1), (12, iV 1), (13, iV 1), (14, iV 1), (15, iV 1), (16, iV 1)]) F [1, 2, 3, 4, 5, 6, 7, 8, 9, 10, 11, 12, 13, 14, 15, 16, 0] dL_holds_54 (q_n hN (by decide)) rfl ?_
  refine q_iconst F dL_holds_56 ?_
  refine q_istore (lv' := [(0, .ref (E.1 0)), (1, iV a1), (2, .ref (E.1 1000)), (3, iV r1), (4, iV r6), (5, iV r11), (6, iV 0), (7, iV 1), (8, iV 0), (9, iV 0), (10, iV 0), (11, iV 1), (12, iV 1), (13, iV 1), (14, iV 1), (15, iV 1), (16, iV 1), (17, iV 0)]) F [1, 2, 3, 4, 5, 6, 7, 8, 9, 10, 11, 12, 13, 14, 15, 16, 17, 0] dL_holds_57 (q_n hN (by decide)) rfl ?_
  obtain ⟨n16, hw⟩ := hw
  exact bL_holds_59 F hR hN hret hfl ha1 n16 r1 r6 r11 0 1 0 0 0 1 1 1 1 1 1 0 f I12 R13 h4 h9 h14 (⟨by decide, by decide⟩ : inR (0)) (⟨by decide, by decide⟩ : inR (1)) (⟨by decide, by decide⟩ : inR (0)) (⟨by decide, by decide⟩ : inR (0)) (⟨by decide, by decide⟩ : inR (0)) (⟨by decide, by decide⟩ : inR (1)) (⟨by decide, by decide⟩ : inR (1)) (⟨by decide, by decide⟩ : inR (1)) (⟨by decide, by decide⟩ : inR (1)) (⟨by decide, by decide⟩ : inR (1)) (⟨by decide, by decide⟩ : inR (1)) (⟨by decide, by decide⟩ : inR (0)) hf m15 hw
