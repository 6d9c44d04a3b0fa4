/-! ===== walks: the law ===== -/
set_option maxHeartbeats 4000000 in
set_option maxRecDepth 100000 in
theorem bL_law_305 {X : xC} {E : cE} (F : mF X E RL cL_law bG) (hC : sC X.2.1.1) (hsc : scL E ≤ 260) {sc : Int → Int} (hs : ∀ k, scF E k = sc k) (hfr : 60 ≤ X.1.2.2.2.frames ∧ 6000 ≤ X.1.2.2.2.locals) (hcs : 600086 ≤ X.1.2.2.2.cells ∧ 7301442 ≤ X.1.2.2.2.slots) (hN : X.2.2.1.2.2.2 = 18) (hfl : X.1.2.1.stackTraces = false) (fin : ∀ (pc : Nat) (lv : List (Nat × Value)) (w : va_W), decode cL_law pc = .ok (.ireturn, 1) → cW X 600086 7301442 pc lv [iV 1] w) {n167 : Nat} (hn167 : n167 + 1 ≤ 31) {K167 : Int → Int → cI → cR → Prop} (hK167 : ∀ (x4 : Int) (x5 : Int) (I : cI) (R : cR), inR x4 → inR x5 → cM I R → K167 x4 x5 I R → cW X (404 + (31 - n167) * 12) (13041 + (31 - n167) * 136) 167 [(0, .ref (E.2.1 4 3)), (1, .ref (E.1 0)), (4, iV x4), (5, iV x5)] [] (gw E.1 cIds (cef E (I, R)) ++ [])) : ∀ (x4 : Int) (x5 : Int) (x7 : Int) (q0 : Nat) (f0 : Int → Int) (I : cI) (R : cR), inR x4 → inR x5 → inR x7 → (∀ x, inR (f0 x)) → cM I R → wL_law_305 sc K167 x4 x5 x7 f0 I R → cW X (404 + (31 - (n167 + 1)) * 12 + 1 + 11) (13041 + (31 - (n167 + 1)) * 136 + 4 + 132) 305 [(0, .ref (E.2.1 4 3)), (1, .ref (E.1 0)), (4, iV x4), (5, iV x5), (6, .ref q0), (7, iV x7)] [] (gw E.1 cIds (cef E (I, R)) ++ [(q0, iA E 4 f0)]) := by
  intro x4 x5 x7 q0 f0 I R hx4 hx5 hx7 hf0 hm hw
  unfold wL_law_305 at hw
  have hsi : ∀ k, inR (sc k) := fun k => by rw [← hs]; exact scF_in
  refine q_aload_n F 1 dL_law_305 rfl rfl ?_
  refine q_iload F 3 dL_law_306 rfl ?_
  refine q_iconst F dL_law_308 ?_
  refine q_isub F dL_law_309 ?_
  refine q_iload F 5 dL_law_310 rfl ?_
  obtain ⟨k1, hw⟩ := hw
  refine q_Vit F (kcX11_solution hfl 0 (Or.inr (fun _ _ _ h => h)) hm k1 hx7 hw) (cIds_in (show ckd 0 = 9 ∧ 0 < 353 by decide).2) (ceMill (show ckd 0 = 9 ∧ 0 < 353 by decide).1) (ci := 9) rfl (bV wd625 wd626 wd627 wd1 wd628) rfl ⟨rfl, rfl⟩ ydX11_solution (rm_c hfr (by decide) (by decide)) (av := [iV ((x5 - 1)), iV x7]) rfl rfl (Nat.le_of_ble_eq_true rfl) dL_law_312 ⟨by omega, by omega⟩ (fun r2 I3 R4 h5 m6 hw => ?_)
  refine q_aload F 4 dL_law_315 rfl ?_
  refine q_iload F 5 dL_law_317 rfl ?_
  obtain ⟨k7, hw⟩ := hw
  refine g_tald F 0 rfl k7 (by decide) dL_law_319 ?_
  refine q_icmp_lt F h5 (hf0 _) 325 dL_law_320 (by decide) (fun hc => ?_) (fun hc => ?_)
  · have hw := hw.1 hc
    obtain ⟨k10, hw⟩ := hw
    obtain ⟨z8, e9⟩ := ex1 (x5 + 1)
    have hw := hw z8 e9
    have hz8 : inR z8 := by rw [e9]; exact k10
    refine q_iinc (lv' := [(0, .ref (E.2.1 4 3)), (1, .ref (E.1 0)), (4, iV x4), (5, iV z8), (6, .ref q0), (7, iV x7)]) F 3 [1, 2, 3, 0, 4, 5] dL_law_325 rfl (q_n hN (by decide)) e9.symm rfl ?_
    refine q_goto F 167 dL_law_328 (by decide) ?_
    refine q_less (w' := gw E.1 cIds (cef E (I3, R4)) ++ []) (List.Sublist.append (List.Sublist.refl _) (List.nil_sublist _)) ?_
    refine q_lv [0, 1, 2, 3] rfl ?_
    refine q_wide (nc' := ?w13a) (ns' := ?w13b) ?w13c ?w13d ?w13e
    case w13e => exact hK167 x4 z8 I3 R4 hx4 hz8 m6 hw
    all_goals omega
  · have hw := hw.2 hc
    refine q_iconst F dL_law_323 ?_
    exact hw.elim
set_option maxHeartbeats 4000000 in
set_option maxRecDepth 100000 in
theorem bL_law_275 {X : xC} {E : cE} (F : mF X E RL cL_law bG) (hC : sC X.2.1.1) (hsc : scL E ≤ 260) {sc : Int → Int} (hs : ∀ k, scF E k = sc k) (hfr : 60 ≤ X.1.2.2.2.frames ∧ 6000 ≤ X.1.2.2.2.locals) (hcs : 600086 ≤ X.1.2.2.2.cells ∧ 7301442 ≤ X.1.2.2.2.slots) (hN : X.2.2.1.2.2.2 = 18) (hfl : X.1.2.1.stackTraces = false) (fin : ∀ (pc : Nat) (lv : List (Nat × Value)) (w : va_W), decode cL_law pc = .ok (.ireturn, 1) → cW X 600086 7301442 pc lv [iV 1] w) {n167 : Nat} (hn167 : n167 + 1 ≤ 31) {K167 : Int → Int → cI → cR → Prop} (hK167 : ∀ (x4 : Int) (x5 : Int) (I : cI) (R : cR), inR x4 → inR x5 → cM I R → K167 x4 x5 I R → cW X (404 + (31 - n167) * 12) (13041 + (31 - n167) * 136) 167 [(0, .ref (E.2.1 4 3)), (1, .ref (E.1 0)), (4, iV x4), (5, iV x5)] [] (gw E.1 cIds (cef E (I, R)) ++ [])) : ∀ n275 : Nat, ∀ (x4 : Int) (x5 : Int) (x7 : Int) (q0 : Nat) (f0 : Int → Int) (I : cI) (R : cR), inR x4 → inR x5 → inR x7 → (∀ x, inR (f0 x)) → cM I R → wL_law_275 sc K167 n275 x4 x5 x7 f0 I R → cW X (404 + (31 - (n167 + 1)) * 12 + 1 + 11) (13041 + (31 - (n167 + 1)) * 136 + 4 + 132) 275 [(0, .ref (E.2.1 4 3)), (1, .ref (E.1 0)), (4, iV x4), (5, iV x5), (6, .ref q0), (7, iV x7)] [] (gw E.1 cIds (cef E (I, R)) ++ [(q0, iA E 4 f0)]) := by
  intro n275
  induction n275 with
  | zero => intro x4 x5 x7 q0 f0 I R hx4 hx5 hx7 hf0 hm hw; exact hw.elim
  | succ n275 ih =>
    intro x4 x5 x7 q0 f0 I R hx4 hx5 hx7 hf0 hm hw
    change wbL_law_275 sc K167 (wL_law_275 sc K167 n275) x4 x5 x7 f0 I R at hw
    unfold wbL_law_275 at hw
    have hsi : ∀ k, inR (sc k) := fun k => by rw [← hs]; exact scF_in
    refine q_iload F 5 dL_law_275 rfl ?_
    refine q_iconst F dL_law_277 ?_
    refine q_icmp_ge F hx7 (⟨by decide, by decide⟩ : inR (3)) 305 dL_law_278 (by decide) (fun hc => ?_) (fun hc => ?_)
    · have hw := hw.1 hc
      exact bL_law_305 F hC hsc hs hfr hcs hN hfl fin (n167 := n167) hn167 hK167 x4 x5 x7 q0 f0 I R hx4 hx5 hx7 hf0 hm hw
    · have hw := hw.2 hc
      refine q_aload_n F 1 dL_law_281 rfl rfl ?_
      refine q_iload F 3 dL_law_282 rfl ?_
      refine q_iconst F dL_law_284 ?_
      refine q_isub F dL_law_285 ?_
      refine q_iload F 5 dL_law_286 rfl ?_
      obtain ⟨k1, hw⟩ := hw
      refine q_Vit F (kcX11_solution hfl 0 (Or.inr (fun _ _ _ h => h)) hm k1 hx7 hw) (cIds_in (show ckd 0 = 9 ∧ 0 < 353 by decide).2) (ceMill (show ckd 0 = 9 ∧ 0 < 353 by decide).1) (ci := 9) rfl (bV wd625 wd626 wd627 wd1 wd628) rfl ⟨rfl, rfl⟩ ydX11_solution (rm_c hfr (by decide) (by decide)) (av := [iV ((x5 - 1)), iV x7]) rfl rfl (Nat.le_of_ble_eq_true rfl) dL_law_288 ⟨by omega, by omega⟩ (fun r2 I3 R4 h5 m6 hw => ?_)
      refine q_aload F 4 dL_law_291 rfl ?_
      refine q_iload F 5 dL_law_293 rfl ?_
      obtain ⟨k7, hw⟩ := hw
      refine g_tald F 0 rfl k7 (by decide) dL_law_295 ?_
      refine q_icmp_ne F h5 (hf0 _) 305 dL_law_296 (by decide) (fun hc => ?_) (fun hc => ?_)
      · have hw := hw.1 hc
        exact bL_law_305 F hC hsc hs hfr hcs hN hfl fin (n167 := n167) hn167 hK167 x4 x5 x7 q0 f0 I3 R4 hx4 hx5 hx7 hf0 m6 hw
      · have hw := hw.2 hc
        obtain ⟨k10, hw⟩ := hw
        obtain ⟨z8, e9⟩ := ex1 (x7 + 1)
        have hw := hw z8 e9
        have hz8 : inR z8 := by rw [e9]; exact k10
        refine q_iinc (lv' := [(0, .ref (E.2.1 4 3)), (1, .ref (E.1 0)), (4, iV x4), (5, iV x5), (6, .ref q0), (7, iV z8)]) F 5 [1, 2, 3, 4, 5, 0] dL_law_299 rfl (q_n hN (by decide)) e9.symm rfl ?_
        refine q_goto F 275 dL_law_302 (by decide) ?_
        exact ih x4 x5 z8 q0 f0 I3 R4 hx4 hx5 hz8 hf0 m6 hw
set_option maxHeartbeats 4000000 in
set_option maxRecDepth 100000 in
theorem bL_law_235 {X : xC} {E : cE} (F : mF X E RL cL_law bG) (hC : sC X.2.1.1) (hsc : scL E ≤ 260) {sc : Int → Int} (hs : ∀ k, scF E k = sc k) (hfr : 60 ≤ X.1.2.2.2.frames ∧ 6000 ≤ X.1.2.2.2.locals) (hcs : 600086 ≤ X.1.2.2.2.cells ∧ 7301442 ≤ X.1.2.2.2.slots) (hN : X.2.2.1.2.2.2 = 18) (hfl : X.1.2.1.stackTraces = false) (fin : ∀ (pc : Nat) (lv : List (Nat × Value)) (w : va_W), decode cL_law pc = .ok (.ireturn, 1) → cW X 600086 7301442 pc lv [iV 1] w) {n167 : Nat} (hn167 : n167 + 1 ≤ 31) {K167 : Int → Int → cI → cR → Prop} (hK167 : ∀ (x4 : Int) (x5 : Int) (I : cI) (R : cR), inR x4 → inR x5 → cM I R → K167 x4 x5 I R → cW X (404 + (31 - n167) * 12) (13041 + (31 - n167) * 136) 167 [(0, .ref (E.2.1 4 3)), (1, .ref (E.1 0)), (4, iV x4), (5, iV x5)] [] (gw E.1 cIds (cef E (I, R)) ++ [])) : ∀ n235 : Nat, n235 ≤ 11 → ∀ (x4 : Int) (x5 : Int) (x7 : Int) (q0 : Nat) (f0 : Int → Int) (I : cI) (R : cR), inR x4 → inR x5 → inR x7 → (∀ x, inR (f0 x)) → cM I R → wL_law_235 sc K167 n235 x4 x5 x7 f0 I R → cW X (404 + (31 - (n167 + 1)) * 12 + 1 + (11 - n235) * 1) (13041 + (31 - (n167 + 1)) * 136 + 4 + (11 - n235) * 12) 235 [(0, .ref (E.2.1 4 3)), (1, .ref (E.1 0)), (4, iV x4), (5, iV x5), (6, .ref q0), (7, iV x7)] [] (gw E.1 cIds (cef E (I, R)) ++ [(q0, iA E 4 f0)]) := by
  intro n235
  induction n235 with
  | zero => intro hn235 x4 x5 x7 q0 f0 I R hx4 hx5 hx7 hf0 hm hw; exact hw.elim
  | succ n235 ih =>
    intro hn235 x4 x5 x7 q0 f0 I R hx4 hx5 hx7 hf0 hm hw
    change wbL_law_235 sc K167 (wL_law_235 sc K167 n235) x4 x5 x7 f0 I R at hw
    unfold wbL_law_235 at hw
    have hsi : ∀ k, inR (sc k) := fun k => by rw [← hs]; exact scF_in
    refine q_iload F 5 dL_law_235 rfl ?_
    refine q_aload_n F 1 dL_law_237 rfl rfl ?_
    refine q_iconst F dL_law_238 ?_
    refine q_Vit F (kcX11_count hfl 0 (Or.inr (fun _ _ _ h => h)) hm (⟨by decide, by decide⟩ : inR (3)) hw) (cIds_in (show ckd 0 = 9 ∧ 0 < 353 by decide).2) (ceMill (show ckd 0 = 9 ∧ 0 < 353 by decide).1) (ci := 9) rfl (bV wd408 wd409 wd410 wd1 wd411) rfl ⟨rfl, rfl⟩ ydX11_count (rm_c hfr (by decide) (by decide)) (av := [iV 3]) rfl rfl (Nat.le_of_ble_eq_true rfl) dL_law_239 ⟨by omega, by omega⟩ (fun r1 I2 R3 h4 m5 hw => ?_)
    refine q_icmp_ge F hx7 h4 264 dL_law_242 (by decide) (fun hc => ?_) (fun hc => ?_)
    · have hw := hw.1 hc
      refine q_iload F 3 dL_law_264 rfl ?_
      refine q_if_ne F hx5 272 dL_law_266 (by decide) (fun hc => ?_) (fun hc => ?_)
      · have hw := hw.1 hc
        refine q_iconst F dL_law_272 ?_
        refine q_istore (lv' := [(0, .ref (E.2.1 4 3)), (1, .ref (E.1 0)), (4, iV x4), (5, iV x5), (6, .ref q0), (7, iV 0)]) F [1, 2, 3, 4, 5, 0] dL_law_273 (q_n hN (by decide)) rfl ?_
        obtain ⟨n6, hw⟩ := hw
        refine q_wide (nc' := ?w14a) (ns' := ?w14b) ?w14c ?w14d ?w14e
        case w14e => exact bL_law_275 F hC hsc hs hfr hcs hN hfl fin (n167 := n167) hn167 hK167 n6 x4 x5 0 q0 f0 I2 R3 hx4 hx5 (⟨by decide, by decide⟩ : inR (0)) hf0 m5 hw
        all_goals omega
      · have hw := hw.2 hc
        refine q_goto F 325 dL_law_269 (by decide) ?_
        obtain ⟨k9, hw⟩ := hw
        obtain ⟨z7, e8⟩ := ex1 (x5 + 1)
        have hw := hw z7 e8
        have hz7 : inR z7 := by rw [e8]; exact k9
        refine q_iinc (lv' := [(0, .ref (E.2.1 4 3)), (1, .ref (E.1 0)), (4, iV x4), (5, iV z7), (6, .ref q0), (7, iV x7)]) F 3 [1, 2, 3, 0, 4, 5] dL_law_325 rfl (q_n hN (by decide)) e8.symm rfl ?_
        refine q_goto F 167 dL_law_328 (by decide) ?_
        refine q_less (w' := gw E.1 cIds (cef E (I2, R3)) ++ []) (List.Sublist.append (List.Sublist.refl _) (List.nil_sublist _)) ?_
        refine q_lv [0, 1, 2, 3] rfl ?_
        refine q_wide (nc' := ?w15a) (ns' := ?w15b) ?w15c ?w15d ?w15e
        case w15e => exact hK167 x4 z7 I2 R3 hx4 hz7 m5 hw
        all_goals omega
    · have hw := hw.2 hc
      refine q_aload_n F 1 dL_law_245 rfl rfl ?_
      refine q_iload F 5 dL_law_246 rfl ?_
      refine q_aload F 4 dL_law_248 rfl ?_
      refine q_cAZ F m5 (kcL_holds hfl m5 hx7 hf0 hw) (by rw [adP_1]; rfl) (bS wd813 wd814 wd0 wd815) rfl ⟨rfl, rfl⟩ ydL_holds (rm_c hfr (by decide) (by decide)) (av := [.ref (E.1 0), iV x7, .ref q0]) rfl rfl (Nat.le_of_ble_eq_true rfl) dL_law_250 ⟨by omega, by omega⟩ (fun r13 I10 R11 f12 h14 m15 gf12 hw => ?_)
      refine q_if_ne F h14 258 dL_law_253 (by decide) (fun hc => ?_) (fun hc => ?_)
      · have hw := hw.1 hc
        obtain ⟨k18, hw⟩ := hw
        obtain ⟨z16, e17⟩ := ex1 (x7 + 1)
        have hw := hw z16 e17
        have hz16 : inR z16 := by rw [e17]; exact k18
        refine q_iinc (lv' := [(0, .ref (E.2.1 4 3)), (1, .ref (E.1 0)), (4, iV x4), (5, iV x5), (6, .ref q0), (7, iV z16)]) F 5 [1, 2, 3, 4, 5, 0] dL_law_258 rfl (q_n hN (by decide)) e17.symm rfl ?_
        refine q_goto F 235 dL_law_261 (by decide) ?_
        refine q_wide (nc' := ?w16a) (ns' := ?w16b) ?w16c ?w16d ?w16e
        case w16e => exact ih (by omega) x4 x5 z16 q0 f12 I10 R11 hx4 hx5 hz16 gf12 m15 hw
        all_goals omega
      · have hw := hw.2 hc
        refine q_iconst F dL_law_256 ?_
        exact hw.elim
set_option maxHeartbeats 4000000 in
set_option maxRecDepth 100000 in
theorem bL_law_182 {X : xC} {E : cE} (F : mF X E RL cL_law bG) (hC : sC X.2.1.1) (hsc : scL E ≤ 260) {sc : Int → Int} (hs : ∀ k, scF E k = sc k) (hfr : 60 ≤ X.1.2.2.2.frames ∧ 6000 ≤ X.1.2.2.2.locals) (hcs : 600086 ≤ X.1.2.2.2.cells ∧ 7301442 ≤ X.1.2.2.2.slots) (hN : X.2.2.1.2.2.2 = 18) (hfl : X.1.2.1.stackTraces = false) (fin : ∀ (pc : Nat) (lv : List (Nat × Value)) (w : va_W), decode cL_law pc = .ok (.ireturn, 1) → cW X 600086 7301442 pc lv [iV 1] w) {n167 : Nat} (hn167 : n167 + 1 ≤ 31) {K167 : Int → Int → cI → cR → Prop} (hK167 : ∀ (x4 : Int) (x5 : Int) (I : cI) (R : cR), inR x4 → inR x5 → cM I R → K167 x4 x5 I R → cW X (404 + (31 - n167) * 12) (13041 + (31 - n167) * 136) 167 [(0, .ref (E.2.1 4 3)), (1, .ref (E.1 0)), (4, iV x4), (5, iV x5)] [] (gw E.1 cIds (cef E (I, R)) ++ [])) : ∀ n182 : Nat, ∀ (x4 : Int) (x5 : Int) (x7 : Int) (q0 : Nat) (f0 : Int → Int) (I : cI) (R : cR), inR x4 → inR x5 → inR x7 → (∀ x, inR (f0 x)) → cM I R → wL_law_182 sc K167 n182 x4 x5 x7 f0 I R → cW X (404 + (31 - (n167 + 1)) * 12 + 1) (13041 + (31 - (n167 + 1)) * 136 + 4) 182 [(0, .ref (E.2.1 4 3)), (1, .ref (E.1 0)), (4, iV x4), (5, iV x5), (6, .ref q0), (7, iV x7)] [] (gw E.1 cIds (cef E (I, R)) ++ [(q0, iA E 4 f0)]) := by
  intro n182
  induction n182 with
  | zero => intro x4 x5 x7 q0 f0 I R hx4 hx5 hx7 hf0 hm hw; exact hw.elim
  | succ n182 ih =>
    intro x4 x5 x7 q0 f0 I R hx4 hx5 hx7 hf0 hm hw
    change wbL_law_182 sc K167 (wL_law_182 sc K167 n182) x4 x5 x7 f0 I R at hw
    unfold wbL_law_182 at hw
    have hsi : ∀ k, inR (sc k) := fun k => by rw [← hs]; exact scF_in
    refine q_iload F 5 dL_law_182 rfl ?_
    refine q_iconst F dL_law_184 ?_
    refine q_icmp_ge F hx7 (⟨by decide, by decide⟩ : inR (4)) 232 dL_law_185 (by decide) (fun hc => ?_) (fun hc => ?_)
    · have hw := hw.1 hc
      refine q_iconst F dL_law_232 ?_
      refine q_istore (lv' := [(0, .ref (E.2.1 4 3)), (1, .ref (E.1 0)), (4, iV x4), (5, iV x5), (6, .ref q0), (7, iV 0)]) F [1, 2, 3, 4, 5, 0] dL_law_233 (q_n hN (by decide)) rfl ?_
      obtain ⟨n1, hB, hw⟩ := hw
      refine q_wide (nc' := ?w17a) (ns' := ?w17b) ?w17c ?w17d ?w17e
      case w17e => exact bL_law_235 F hC hsc hs hfr hcs hN hfl fin (n167 := n167) hn167 hK167 n1 hB x4 x5 0 q0 f0 I R hx4 hx5 (⟨by decide, by decide⟩ : inR (0)) hf0 hm hw
      all_goals omega
    · have hw := hw.2 hc
      refine q_aload F 4 dL_law_188 rfl ?_
      refine q_iload F 5 dL_law_190 rfl ?_
      refine q_aload_n F 1 dL_law_192 rfl rfl ?_
      refine q_iload F 3 dL_law_193 rfl ?_
      refine q_iload F 5 dL_law_195 rfl ?_
      refine q_Vit F (kcX11_solution hfl 0 (Or.inr (fun _ _ _ h => h)) hm hx5 hx7 hw) (cIds_in (show ckd 0 = 9 ∧ 0 < 353 by decide).2) (ceMill (show ckd 0 = 9 ∧ 0 < 353 by decide).1) (ci := 9) rfl (bV wd625 wd626 wd627 wd1 wd628) rfl ⟨rfl, rfl⟩ ydX11_solution (rm_c hfr (by decide) (by decide)) (av := [iV x5, iV x7]) rfl rfl (Nat.le_of_ble_eq_true rfl) dL_law_197 ⟨by omega, by omega⟩ (fun r2 I3 R4 h5 m6 hw => ?_)
      obtain ⟨k7, hw⟩ := hw
      obtain ⟨f8, e9⟩ := ex1 (upF f0 x7 r2)
      have hw := hw f8 e9
      have gf8 : ∀ x, inR (f8 x) := upF_in hf0 e9 h5
      refine g_tast F 0 rfl k7 (by decide) (T' := [(q0, iA E 4 f8)]) (by rw [e9]; rfl) dL_law_200 ?_
      refine q_aload_n F 1 dL_law_201 rfl rfl ?_
      refine q_iload F 5 dL_law_202 rfl ?_
      refine q_Vit F (kcX11_value hfl 0 (Or.inr (fun _ _ _ h => h)) m6 hx7 hw) (cIds_in (show ckd 0 = 9 ∧ 0 < 353 by decide).2) (ceMill (show ckd 0 = 9 ∧ 0 < 353 by decide).1) (ci := 9) rfl (bV wd591 wd592 wd593 wd1 wd594) rfl ⟨rfl, rfl⟩ ydX11_value (rm_c hfr (by decide) (by decide)) (av := [iV x7]) rfl rfl (Nat.le_of_ble_eq_true rfl) dL_law_204 ⟨by omega, by omega⟩ (fun r10 I11 R12 h13 m14 hw => ?_)
      refine q_if_le F h13 226 dL_law_207 (by decide) (fun hc => ?_) (fun hc => ?_)
      · have hw := hw.1 hc
        obtain ⟨k17, hw⟩ := hw
        obtain ⟨z15, e16⟩ := ex1 (x7 + 1)
        have hw := hw z15 e16
        have hz15 : inR z15 := by rw [e16]; exact k17
        refine q_iinc (lv' := [(0, .ref (E.2.1 4 3)), (1, .ref (E.1 0)), (4, iV x4), (5, iV x5), (6, .ref q0), (7, iV z15)]) F 5 [1, 2, 3, 4, 5, 0] dL_law_226 rfl (q_n hN (by decide)) e16.symm rfl ?_
        refine q_goto F 182 dL_law_229 (by decide) ?_
        exact ih x4 x5 z15 q0 f8 I11 R12 hx4 hx5 hz15 gf8 m14 hw
      · have hw := hw.2 hc
        refine q_aload_n F 1 dL_law_210 rfl rfl ?_
        refine q_iload F 5 dL_law_211 rfl ?_
        refine q_Vit F (kcX11_value hfl 0 (Or.inr (fun _ _ _ h => h)) m14 hx7 hw) (cIds_in (show ckd 0 = 9 ∧ 0 < 353 by decide).2) (ceMill (show ckd 0 = 9 ∧ 0 < 353 by decide).1) (ci := 9) rfl (bV wd591 wd592 wd593 wd1 wd594) rfl ⟨rfl, rfl⟩ ydX11_value (rm_c hfr (by decide) (by decide)) (av := [iV x7]) rfl rfl (Nat.le_of_ble_eq_true rfl) dL_law_213 ⟨by omega, by omega⟩ (fun r18 I19 R20 h21 m22 hw => ?_)
        refine q_aload F 4 dL_law_216 rfl ?_
        refine q_iload F 5 dL_law_218 rfl ?_
        obtain ⟨k23, hw⟩ := hw
        refine g_tald F 0 rfl k23 (by decide) dL_law_220 ?_
        refine q_icmp_eq F h21 (gf8 _) 226 dL_law_221 (by decide) (fun hc => ?_) (fun hc => ?_)
        · have hw := hw.1 hc
          obtain ⟨k26, hw⟩ := hw
          obtain ⟨z24, e25⟩ := ex1 (x7 + 1)
          have hw := hw z24 e25
          have hz24 : inR z24 := by rw [e25]; exact k26
          refine q_iinc (lv' := [(0, .ref (E.2.1 4 3)), (1, .ref (E.1 0)), (4, iV x4), (5, iV x5), (6, .ref q0), (7, iV z24)]) F 5 [1, 2, 3, 4, 5, 0] dL_law_226 rfl (q_n hN (by decide)) e25.symm rfl ?_
          refine q_goto F 182 dL_law_229 (by decide) ?_
          exact ih x4 x5 z24 q0 f8 I19 R20 hx4 hx5 hz24 gf8 m22 hw
        · have hw := hw.2 hc
          refine q_iconst F dL_law_224 ?_
          exact hw.elim
set_option maxHeartbeats 4000000 in
set_option maxRecDepth 100000 in
theorem bL_law_167 {X : xC} {E : cE} (F : mF X E RL cL_law bG) (hC : sC X.2.1.1) (hsc : scL E ≤ 260) {sc : Int → Int} (hs : ∀ k, scF E k = sc k) (hfr : 60 ≤ X.1.2.2.2.frames ∧ 6000 ≤ X.1.2.2.2.locals) (hcs : 600086 ≤ X.1.2.2.2.cells ∧ 7301442 ≤ X.1.2.2.2.slots) (hN : X.2.2.1.2.2.2 = 18) (hfl : X.1.2.1.stackTraces = false) (fin : ∀ (pc : Nat) (lv : List (Nat × Value)) (w : va_W), decode cL_law pc = .ok (.ireturn, 1) → cW X 600086 7301442 pc lv [iV 1] w) : ∀ n167 : Nat, n167 ≤ 31 → ∀ (x4 : Int) (x5 : Int) (I : cI) (R : cR), inR x4 → inR x5 → cM I R → wL_law_167 sc n167 x4 x5 I R → cW X (404 + (31 - n167) * 12) (13041 + (31 - n167) * 136) 167 [(0, .ref (E.2.1 4 3)), (1, .ref (E.1 0)), (4, iV x4), (5, iV x5)] [] (gw E.1 cIds (cef E (I, R)) ++ []) := by
  intro n167
  induction n167 with
  | zero => intro hn167 x4 x5 I R hx4 hx5 hm hw; exact hw.elim
  | succ n167 ih =>
    intro hn167 x4 x5 I R hx4 hx5 hm hw
    change wbL_law_167 sc (wL_law_167 sc n167) x4 x5 I R at hw
    unfold wbL_law_167 at hw
    have hsi : ∀ k, inR (sc k) := fun k => by rw [← hs]; exact scF_in
    refine q_iload F 3 dL_law_167 rfl ?_
    refine q_iload F 2 dL_law_169 rfl ?_
    refine q_icmp_ge F hx5 hx4 331 dL_law_171 (by decide) (fun hc => ?_) (fun hc => ?_)
    · have hw := hw.1 hc
      refine q_aload_n F 1 dL_law_331 rfl rfl ?_
      refine q_Vj F (kcX11_digest hfl hm hw) (cIds_in (show ckd 0 = 9 ∧ 0 < 353 by decide).2) (ceMill (show ckd 0 = 9 ∧ 0 < 353 by decide).1) (ci := 9) rfl (bV wd774 wd775 wd776 wd1 wd777) rfl ⟨rfl, rfl⟩ ydX11_digest (rm_c hfr (by decide) (by decide)) (av := []) rfl rfl (Nat.le_of_ble_eq_true rfl) dL_law_332 ⟨by omega, by omega⟩ (fun r1 I2 R3 m5 hw => ?_)
      refine q_lstore (lv' := [(0, .ref (E.2.1 4 3)), (1, .ref (E.1 0)), (4, iV x4), (5, jV r1)]) F [1, 2, 3, 0] dL_law_335 (q_n hN (by decide)) rfl ?_
      refine q_aload_n F 1 dL_law_337 rfl rfl ?_
      refine q_aload_n F 0 dL_law_338 rfl rfl ?_
      refine q_bipush F dL_law_339 (by decide) ?_
      refine q_cS F (kL_cell (by decide) (by decide) hsc) (bS wd787 wd788 wd0 wd789) rfl ⟨rfl, rfl⟩ ydL_cell.2 (rm_c hfr (by decide) (by decide)) (av := [.ref (E.2.1 4 3), iV 10]) rfl rfl (Nat.le_of_ble_eq_true rfl) dL_law_341 ⟨by omega, by omega⟩ (fun v u hp => ?_)
      rw [hs] at hp
      subst hp
      refine q_iconst F dL_law_344 ?_
      refine q_cS F (kL_below (hsi _) (⟨by decide, by decide⟩ : inR (4)) (by decide)) (bS wd783 wd784 wd0 wd785) rfl ⟨rfl, rfl⟩ ydL_below.2 (rm_c hfr (by decide) (by decide)) (av := [iV ((sc 10)), iV 4]) rfl rfl (Nat.le_of_ble_eq_true rfl) dL_law_345 ⟨by omega, by omega⟩ (fun v u hp => ?_)
      subst hp
      refine q_Vit F (kcX11_hint hfl 0 (Or.inr (fun _ _ _ h => h)) m5 (blw_in (by decide) (⟨by decide, by decide⟩ : inR (4))) hw) (cIds_in (show ckd 0 = 9 ∧ 0 < 353 by decide).2) (ceMill (show ckd 0 = 9 ∧ 0 < 353 by decide).1) (ci := 9) rfl (bV wd656 wd657 wd658 wd1 wd659) rfl ⟨rfl, rfl⟩ ydX11_hint (rm_c hfr (by decide) (by decide)) (av := [iV ((blw ((sc 10)) 4))]) rfl rfl (Nat.le_of_ble_eq_true rfl) dL_law_348 ⟨by omega, by omega⟩ (fun r6 I7 R8 h9 m10 hw => ?_)
      refine q_pop F dL_law_351 rfl ?_
      refine q_aload_n F 1 dL_law_352 rfl rfl ?_
      refine q_iconst F dL_law_353 ?_
      refine q_Vit F (kcX11_count hfl 0 (Or.inr (fun _ _ _ h => h)) m10 (⟨by decide, by decide⟩ : inR (3)) hw) (cIds_in (show ckd 0 = 9 ∧ 0 < 353 by decide).2) (ceMill (show ckd 0 = 9 ∧ 0 < 353 by decide).1) (ci := 9) rfl (bV wd408 wd409 wd410 wd1 wd411) rfl ⟨rfl, rfl⟩ ydX11_count (rm_c hfr (by decide) (by decide)) (av := [iV 3]) rfl rfl (Nat.le_of_ble_eq_true rfl) dL_law_354 ⟨by omega, by omega⟩ (fun r11 I12 R13 h14 m15 hw => ?_)
      refine q_if_le F h14 379 dL_law_357 (by decide) (fun hc => ?_) (fun hc => ?_)
      · have hw := hw.1 hc
        refine q_wide (nc' := ?w18a) (ns' := ?w18b) ?w18c ?w18d ?w18e
        case w18e => exact bL_law_379 F hC hsc hs hfr hcs hN hfl fin x4 r1 I12 R13 hx4 m15 hw
        all_goals omega
      · have hw := hw.2 hc
        refine q_aload_n F 1 dL_law_360 rfl rfl ?_
        refine q_aload_n F 0 dL_law_361 rfl rfl ?_
        refine q_bipush F dL_law_362 (by decide) ?_
        refine q_cS F (kL_cell (by decide) (by decide) hsc) (bS wd787 wd788 wd0 wd789) rfl ⟨rfl, rfl⟩ ydL_cell.2 (rm_c hfr (by decide) (by decide)) (av := [.ref (E.2.1 4 3), iV 10]) rfl rfl (Nat.le_of_ble_eq_true rfl) dL_law_364 ⟨by omega, by omega⟩ (fun v u hp => ?_)
        rw [hs] at hp
        subst hp
        refine q_aload_n F 1 dL_law_367 rfl rfl ?_
        refine q_iconst F dL_law_368 ?_
        refine q_Vit F (kcX11_count hfl 0 (Or.inr (fun _ _ _ h => h)) m15 (⟨by decide, by decide⟩ : inR (3)) hw) (cIds_in (show ckd 0 = 9 ∧ 0 < 353 by decide).2) (ceMill (show ckd 0 = 9 ∧ 0 < 353 by decide).1) (ci := 9) rfl (bV wd408 wd409 wd410 wd1 wd411) rfl ⟨rfl, rfl⟩ ydX11_count (rm_c hfr (by decide) (by decide)) (av := [iV 3]) rfl rfl (Nat.le_of_ble_eq_true rfl) dL_law_369 ⟨by omega, by omega⟩ (fun r16 I17 R18 h19 m20 hw => ?_)
        obtain ⟨k21, hw⟩ := hw
        refine q_cS F (kL_below (hsi _) h19 k21) (bS wd783 wd784 wd0 wd785) rfl ⟨rfl, rfl⟩ ydL_below.2 (rm_c hfr (by decide) (by decide)) (av := [iV ((sc 10)), iV r16]) rfl rfl (Nat.le_of_ble_eq_true rfl) dL_law_372 ⟨by omega, by omega⟩ (fun v u hp => ?_)
        subst hp
        refine q_Vit F (kcX11_isNeeded hfl 0 (Or.inr (fun _ _ _ h => h)) m20 (blw_in k21 h19) hw) (cIds_in (show ckd 0 = 9 ∧ 0 < 353 by decide).2) (ceMill (show ckd 0 = 9 ∧ 0 < 353 by decide).1) (ci := 9) rfl (bV wd630 wd631 wd632 wd1 wd633) rfl ⟨rfl, rfl⟩ ydX11_isNeeded (rm_c hfr (by decide) (by decide)) (av := [iV ((blw ((sc 10)) r16))]) rfl rfl (Nat.le_of_ble_eq_true rfl) dL_law_375 ⟨by omega, by omega⟩ (fun r22 I23 R24 h25 m26 hw => ?_)
        refine q_pop F dL_law_378 rfl ?_
        refine q_wide (nc' := ?w19a) (ns' := ?w19b) ?w19c ?w19d ?w19e
        case w19e => exact bL_law_379 F hC hsc hs hfr hcs hN hfl fin x4 r1 I23 R24 hx4 m26 hw
        all_goals omega
    · have hw := hw.2 hc
      refine q_iconst F dL_law_174 ?_
      obtain ⟨f28, e29⟩ := ex1 (fun _ : Int => (0 : Int))
      have hw := hw f28 e29
      have gf28 : ∀ x, inR (f28 x) := by rw [e29]; exact fun _ => ti_0
      refine g_tnew F wd44 4 rfl (by decide) (by omega) (by omega) dL_law_175 (T' := fun q27 => [(q27, iA E 4 f28)]) (fun q27 => by rw [e29]; rfl) (fun q27 => ?_)
      refine q_astore (lv' := [(0, .ref (E.2.1 4 3)), (1, .ref (E.1 0)), (4, iV x4), (5, iV x5), (6, .ref q27)]) F [1, 2, 3, 4, 0] dL_law_177 (q_n hN (by decide)) rfl ?_
      refine q_iconst F dL_law_179 ?_
      refine q_istore (lv' := [(0, .ref (E.2.1 4 3)), (1, .ref (E.1 0)), (4, iV x4), (5, iV x5), (6, .ref q27), (7, iV 0)]) F [1, 2, 3, 4, 5, 0] dL_law_180 (q_n hN (by decide)) rfl ?_
      obtain ⟨n30, hw⟩ := hw
      exact bL_law_182 F hC hsc hs hfr hcs hN hfl fin (n167 := n167) hn167 (ih (by omega)) n30 x4 x5 0 q27 f28 I R hx4 hx5 (⟨by decide, by decide⟩ : inR (0)) gf28 hm hw
set_option maxHeartbeats 4000000 in
set_option maxRecDepth 100000 in
theorem bL_law_95 {X : xC} {E : cE} (F : mF X E RL cL_law bG) (hC : sC X.2.1.1) (hsc : scL E ≤ 260) {sc : Int → Int} (hs : ∀ k, scF E k = sc k) (hfr : 60 ≤ X.1.2.2.2.frames ∧ 6000 ≤ X.1.2.2.2.locals) (hcs : 600086 ≤ X.1.2.2.2.cells ∧ 7301442 ≤ X.1.2.2.2.slots) (hN : X.2.2.1.2.2.2 = 18) (hfl : X.1.2.1.stackTraces = false) (fin : ∀ (pc : Nat) (lv : List (Nat × Value)) (w : va_W), decode cL_law pc = .ok (.ireturn, 1) → cW X 600086 7301442 pc lv [iV 1] w) : ∀ n95 : Nat, ∀ (x4 : Int) (I : cI) (R : cR), inR x4 → cM I R → wL_law_95 sc n95 x4 I R → cW X (404) (13041) 95 [(0, .ref (E.2.1 4 3)), (1, .ref (E.1 0)), (4, iV x4)] [] (gw E.1 cIds (cef E (I, R)) ++ []) := by
  intro n95
  induction n95 with
  | zero => intro x4 I R hx4 hm hw; exact hw.elim
  | succ n95 ih =>
    intro x4 I R hx4 hm hw
    change wbL_law_95 sc (wL_law_95 sc n95) x4 I R at hw
    unfold wbL_law_95 at hw
    have hsi : ∀ k, inR (sc k) := fun k => by rw [← hs]; exact scF_in
    refine q_iload F 2 dL_law_95 rfl ?_
    refine q_aload_n F 0 dL_law_97 rfl rfl ?_
    refine q_bipush F dL_law_98 (by decide) ?_
    refine q_cS F (kL_cell (by decide) (by decide) hsc) (bS wd787 wd788 wd0 wd789) rfl ⟨rfl, rfl⟩ ydL_cell.2 (rm_c hfr (by decide) (by decide)) (av := [.ref (E.2.1 4 3), iV 7]) rfl rfl (Nat.le_of_ble_eq_true rfl) dL_law_100 ⟨by omega, by omega⟩ (fun v u hp => ?_)
    rw [hs] at hp
    subst hp
    refine q_iconst F dL_law_103 ?_
    refine q_cS F (kL_below (hsi _) (⟨by decide, by decide⟩ : inR (3)) (by decide)) (bS wd783 wd784 wd0 wd785) rfl ⟨rfl, rfl⟩ ydL_below.2 (rm_c hfr (by decide) (by decide)) (av := [iV ((sc 7)), iV 3]) rfl rfl (Nat.le_of_ble_eq_true rfl) dL_law_104 ⟨by omega, by omega⟩ (fun v u hp => ?_)
    subst hp
    refine q_icmp_ge F hx4 (blw_in (by decide) (⟨by decide, by decide⟩ : inR (3))) 149 dL_law_107 (by decide) (fun hc => ?_) (fun hc => ?_)
    · have hw := hw.1 hc
      refine q_aload_n F 1 dL_law_149 rfl rfl ?_
      refine q_bipush F dL_law_150 (by decide) ?_
      refine q_Vit F (kcX11_search hfl 0 (Or.inr (fun _ _ _ h => h)) hm (⟨by decide, by decide⟩ : inR (30)) hw) (cIds_in (show ckd 0 = 9 ∧ 0 < 353 by decide).2) (ceMill (show ckd 0 = 9 ∧ 0 < 353 by decide).1) (ci := 9) rfl (bV wd595 wd596 wd597 wd1 wd598) rfl ⟨rfl, rfl⟩ ydX11_search (rm_c hfr (by decide) (by decide)) (av := [iV 30]) rfl rfl (Nat.le_of_ble_eq_true rfl) dL_law_152 ⟨by omega, by omega⟩ (fun r1 I2 R3 h4 m5 hw => ?_)
      refine q_istore (lv' := [(0, .ref (E.2.1 4 3)), (1, .ref (E.1 0)), (4, iV r1)]) F [1, 2, 0] dL_law_155 (q_n hN (by decide)) rfl ?_
      refine q_iload F 2 dL_law_157 rfl ?_
      refine q_if_ge F h4 164 dL_law_159 (by decide) (fun hc => ?_) (fun hc => ?_)
      · have hw := hw.1 hc
        refine q_iconst F dL_law_164 ?_
        refine q_istore (lv' := [(0, .ref (E.2.1 4 3)), (1, .ref (E.1 0)), (4, iV r1), (5, iV 0)]) F [1, 2, 3, 0] dL_law_165 (q_n hN (by decide)) rfl ?_
        obtain ⟨n6, hB, hw⟩ := hw
        refine q_wide (nc' := ?w20a) (ns' := ?w20b) ?w20c ?w20d ?w20e
        case w20e => exact bL_law_167 F hC hsc hs hfr hcs hN hfl fin n6 hB r1 0 I2 R3 h4 (⟨by decide, by decide⟩ : inR (0)) m5 hw
        all_goals omega
      · have hw := hw.2 hc
        refine q_iconst F dL_law_162 ?_
        exact hw.elim
    · have hw := hw.2 hc
      refine q_aload_n F 1 dL_law_110 rfl rfl ?_
      refine q_aload_n F 0 dL_law_111 rfl rfl ?_
      refine q_bipush F dL_law_112 (by decide) ?_
      refine q_iload F 2 dL_law_114 rfl ?_
      refine q_iadd F dL_law_116 ?_
      obtain ⟨k7, hw⟩ := hw
      refine q_cS F (kL_cell k7.1 k7.2 hsc) (bS wd787 wd788 wd0 wd789) rfl ⟨rfl, rfl⟩ ydL_cell.2 (rm_c hfr (by decide) (by decide)) (av := [.ref (E.2.1 4 3), iV ((8 + x4))]) rfl rfl (Nat.le_of_ble_eq_true rfl) dL_law_117 ⟨by omega, by omega⟩ (fun v u hp => ?_)
      rw [hs] at hp
      subst hp
      refine q_iconst F dL_law_120 ?_
      refine q_cS F (kL_below (hsi _) (⟨by decide, by decide⟩ : inR (4)) (by decide)) (bS wd783 wd784 wd0 wd785) rfl ⟨rfl, rfl⟩ ydL_below.2 (rm_c hfr (by decide) (by decide)) (av := [iV ((sc ((8 + x4)))), iV 4]) rfl rfl (Nat.le_of_ble_eq_true rfl) dL_law_121 ⟨by omega, by omega⟩ (fun v u hp => ?_)
      subst hp
      refine q_aload_n F 0 dL_law_124 rfl rfl ?_
      refine q_bipush F dL_law_125 (by decide) ?_
      refine q_iload F 2 dL_law_127 rfl ?_
      refine q_iadd F dL_law_129 ?_
      obtain ⟨k8, hw⟩ := hw
      refine q_cS F (kL_cell k8.1 k8.2 hsc) (bS wd787 wd788 wd0 wd789) rfl ⟨rfl, rfl⟩ ydL_cell.2 (rm_c hfr (by decide) (by decide)) (av := [.ref (E.2.1 4 3), iV ((8 + x4))]) rfl rfl (Nat.le_of_ble_eq_true rfl) dL_law_130 ⟨by omega, by omega⟩ (fun v u hp => ?_)
      rw [hs] at hp
      subst hp
      refine q_iconst F dL_law_133 ?_
      refine q_ishr F dL_law_134 ?_
      refine q_iconst F dL_law_135 ?_
      refine q_cS F (kL_below (ti_rng _) (⟨by decide, by decide⟩ : inR (5)) (by decide)) (bS wd783 wd784 wd0 wd785) rfl ⟨rfl, rfl⟩ ydL_below.2 (rm_c hfr (by decide) (by decide)) (av := [iV ((iShr ((sc ((8 + x4)))) 4)), iV 5]) rfl rfl (Nat.le_of_ble_eq_true rfl) dL_law_136 ⟨by omega, by omega⟩ (fun v u hp => ?_)
      subst hp
      refine q_Vit F (kcX11_put hfl 0 (Or.inr (fun _ _ _ h => h)) hm (blw_in (by decide) (⟨by decide, by decide⟩ : inR (4))) (blw_in (by decide) (⟨by decide, by decide⟩ : inR (5))) hw) (cIds_in (show ckd 0 = 9 ∧ 0 < 353 by decide).2) (ceMill (show ckd 0 = 9 ∧ 0 < 353 by decide).1) (ci := 9) rfl (bV wd573 wd574 wd575 wd1 wd576) rfl ⟨rfl, rfl⟩ ydX11_put (rm_c hfr (by decide) (by decide)) (av := [iV ((blw ((sc ((8 + x4)))) 4)), iV ((blw ((iShr ((sc ((8 + x4)))) 4)) 5))]) rfl rfl (Nat.le_of_ble_eq_true rfl) dL_law_139 ⟨by omega, by omega⟩ (fun r9 I10 R11 h12 m13 hw => ?_)
      refine q_pop F dL_law_142 rfl ?_
      obtain ⟨k16, hw⟩ := hw
      obtain ⟨z14, e15⟩ := ex1 (x4 + 1)
      have hw := hw z14 e15
      have hz14 : inR z14 := by rw [e15]; exact k16
      refine q_iinc (lv' := [(0, .ref (E.2.1 4 3)), (1, .ref (E.1 0)), (4, iV z14)]) F 2 [1, 2, 0] dL_law_143 rfl (q_n hN (by decide)) e15.symm rfl ?_
      refine q_goto F 95 dL_law_146 (by decide) ?_
      exact ih z14 I10 R11 hz14 m13 hw
set_option maxHeartbeats 4000000 in
set_option maxRecDepth 100000 in
theorem bL_law_34 {X : xC} {E : cE} (F : mF X E RL cL_law bG) (hC : sC X.2.1.1) (hsc : scL E ≤ 260) {sc : Int → Int} (hs : ∀ k, scF E k = sc k) (hfr : 60 ≤ X.1.2.2.2.frames ∧ 6000 ≤ X.1.2.2.2.locals) (hcs : 600086 ≤ X.1.2.2.2.cells ∧ 7301442 ≤ X.1.2.2.2.slots) (hN : X.2.2.1.2.2.2 = 18) (hfl : X.1.2.1.stackTraces = false) (fin : ∀ (pc : Nat) (lv : List (Nat × Value)) (w : va_W), decode cL_law pc = .ok (.ireturn, 1) → cW X 600086 7301442 pc lv [iV 1] w) : ∀ n34 : Nat, ∀ (x3 : Int) (x4 : Int) (q0 : Nat) (f0 : Int → Int) (I : cI) (R : cR), inR x3 → inR x4 → (∀ x, inR (f0 x)) → cM I R → wL_law_34 sc n34 x3 x4 f0 I R → cW X (354) (12791) 34 [(0, .ref (E.2.1 4 3)), (1, .ref (E.1 0)), (2, .ref q0), (3, iV x3), (4, iV x4)] [] (gw E.1 cIds (cef E (I, R)) ++ [(q0, iA E 900 f0)]) := by
  intro n34
  induction n34 with
  | zero => intro x3 x4 q0 f0 I R hx3 hx4 hf0 hm hw; exact hw.elim
  | succ n34 ih =>
    intro x3 x4 q0 f0 I R hx3 hx4 hf0 hm hw
    change wbL_law_34 sc (wL_law_34 sc n34) x3 x4 f0 I R at hw
    unfold wbL_law_34 at hw
    have hsi : ∀ k, inR (sc k) := fun k => by rw [← hs]; exact scF_in
    refine q_iload F 4 dL_law_34 rfl ?_
    refine q_iload_n F 3 dL_law_36 rfl rfl ?_
    refine q_icmp_ge F hx4 hx3 75 dL_law_37 (by decide) (fun hc => ?_) (fun hc => ?_)
    · have hw := hw.1 hc
      refine q_aload_n F 1 dL_law_75 rfl rfl ?_
      refine q_aload_n F 2 dL_law_76 rfl rfl ?_
      refine q_cAZ F hm (kcL_lay hfl (by decide) hm hf0 hw) (by rw [adP_1]; rfl) (bS wd796 wd797 wd0 wd798) rfl ⟨rfl, rfl⟩ ydL_lay (rm_c hfr (by decide) (by decide)) (av := [.ref (E.1 0), .ref q0]) rfl rfl (Nat.le_of_ble_eq_true rfl) dL_law_77 ⟨by omega, by omega⟩ (fun r2 I5 R6 f1 h3 m4 gf1 hw => ?_)
      refine q_if_eq F h3 90 dL_law_80 (by decide) (fun hc => ?_) (fun hc => ?_)
      · have hw := hw.1 hc
        refine q_iconst F dL_law_90 ?_
        exact hw.elim
      · have hw := hw.2 hc
        refine q_aload_n F 1 dL_law_83 rfl rfl ?_
        refine q_Vi F (kcX11_compile m4 hw) (cIds_in (show ckd 0 = 9 ∧ 0 < 353 by decide).2) (ceMill (show ckd 0 = 9 ∧ 0 < 353 by decide).1) (ci := 9) rfl (bV wd203 wd204 wd205 wd1 wd206) rfl ⟨rfl, rfl⟩ ydX11_compile (rm_c hfr (by decide) (by decide)) (av := []) rfl rfl (Nat.le_of_ble_eq_true rfl) dL_law_84 ⟨by omega, by omega⟩ (fun r7 I8 R9 h10 m11 hw => ?_)
        refine q_if_eq F h10 92 dL_law_87 (by decide) (fun hc => ?_) (fun hc => ?_)
        · have hw := hw.1 hc
          refine q_iconst F dL_law_92 ?_
          refine q_istore (lv' := [(0, .ref (E.2.1 4 3)), (1, .ref (E.1 0)), (2, .ref q0), (3, iV x3), (4, iV 0)]) F [1, 2, 3, 4, 0] dL_law_93 (q_n hN (by decide)) rfl ?_
          refine q_less (w' := gw E.1 cIds (cef E (I8, R9)) ++ []) (List.Sublist.append (List.Sublist.refl _) (List.nil_sublist _)) ?_
          refine q_lv [0, 1, 4] rfl ?_
          obtain ⟨n12, hw⟩ := hw
          exact bL_law_95 F hC hsc hs hfr hcs hN hfl fin n12 0 I8 R9 (⟨by decide, by decide⟩ : inR (0)) m11 hw
        · have hw := hw.2 hc
          refine q_iconst F dL_law_90 ?_
          exact hw.elim
    · have hw := hw.2 hc
      refine q_aload_n F 2 dL_law_40 rfl rfl ?_
      refine q_gs F (sZ_RULES F) wd826 rfl dL_law_41 ?_
      refine q_aload_n F 0 dL_law_44 rfl rfl ?_
      refine q_iconst F dL_law_45 ?_
      refine q_iload F 4 dL_law_46 rfl ?_
      refine q_iadd F dL_law_48 ?_
      obtain ⟨k13, hw⟩ := hw
      refine q_cS F (kL_cell k13.1 k13.2 hsc) (bS wd787 wd788 wd0 wd789) rfl ⟨rfl, rfl⟩ ydL_cell.2 (rm_c hfr (by decide) (by decide)) (av := [.ref (E.2.1 4 3), iV ((1 + x4))]) rfl rfl (Nat.le_of_ble_eq_true rfl) dL_law_49 ⟨by omega, by omega⟩ (fun v u hp => ?_)
      rw [hs] at hp
      subst hp
      refine q_gs F (sZ_RULES F) wd826 rfl dL_law_52 ?_
      refine q_lenRULES F dL_law_55 ?_
      refine q_cS F (kL_below (hsi _) (⟨by decide, by decide⟩ : inR (16)) (by decide)) (bS wd783 wd784 wd0 wd785) rfl ⟨rfl, rfl⟩ ydL_below.2 (rm_c hfr (by decide) (by decide)) (av := [iV ((sc ((1 + x4)))), iV 16]) rfl rfl (Nat.le_of_ble_eq_true rfl) dL_law_56 ⟨by omega, by omega⟩ (fun v u hp => ?_)
      subst hp
      obtain ⟨k14, hw⟩ := hw
      refine q_ldRULES F k14 dL_law_59 ?_
      refine q_cAV F hm (kcL_put hfl hm (tN33 k14) hf0 hw) (by rw [adP_1]; rfl) (bS wd791 wd792 wd0 wd793) rfl ⟨rfl, rfl⟩ ydL_put (rm_c hfr (by decide) (by decide)) (av := [.ref q0, .ref (E.2.1 1 (15 + Int.toNat ((blw ((sc ((1 + x4)))) 16))))]) rfl rfl (Nat.le_of_ble_eq_true rfl) dL_law_60 ⟨by omega, by omega⟩ (fun I15 R16 f17 m18 gf17 hw => ?_)
      refine q_aload_n F 2 dL_law_63 rfl rfl ?_
      refine q_ldcT F (sR_RL_semi F) dL_law_64 ?_
      refine q_cAV F m18 (kcL_put hfl m18 (by decide) gf17 hw) (by rw [adP_1]; rfl) (bS wd791 wd792 wd0 wd793) rfl ⟨rfl, rfl⟩ ydL_put (rm_c hfr (by decide) (by decide)) (av := [.ref q0, .ref (E.2.1 1 32)]) rfl rfl (Nat.le_of_ble_eq_true rfl) dL_law_66 ⟨by omega, by omega⟩ (fun I19 R20 f21 m22 gf21 hw => ?_)
      obtain ⟨k25, hw⟩ := hw
      obtain ⟨z23, e24⟩ := ex1 (x4 + 1)
      have hw := hw z23 e24
      have hz23 : inR z23 := by rw [e24]; exact k25
      refine q_iinc (lv' := [(0, .ref (E.2.1 4 3)), (1, .ref (E.1 0)), (2, .ref q0), (3, iV x3), (4, iV z23)]) F 4 [1, 2, 3, 4, 0] dL_law_69 rfl (q_n hN (by decide)) e24.symm rfl ?_
      refine q_goto F 34 dL_law_72 (by decide) ?_
      exact ih x3 z23 q0 f21 I19 R20 hx3 hz23 gf21 m22 hw
set_option maxHeartbeats 4000000 in
set_option maxRecDepth 100000 in
theorem kL_law {X : xC} {E : cE} (F : mF X E RL cL_law bG) (hC : sC X.2.1.1) (hsc : scL E ≤ 260) {sc : Int → Int} (hs : ∀ k, scF E k = sc k) (hfr : 60 ≤ X.1.2.2.2.frames ∧ 6000 ≤ X.1.2.2.2.locals) (hcs : 600086 ≤ X.1.2.2.2.cells ∧ 7301442 ≤ X.1.2.2.2.slots) (hN : X.2.2.1.2.2.2 = 18) (hfl : X.1.2.1.stackTraces = false) (fin : ∀ (pc : Nat) (lv : List (Nat × Value)) (w : va_W), decode cL_law pc = .ok (.ireturn, 1) → cW X 600086 7301442 pc lv [iV 1] w) (hw : wL_law sc) : cW X 353 11891 8 [(0, .ref (E.2.1 4 3)), (1, .ref (E.1 0))] [] (gw E.1 cIds (cef E (I00, R00)) ++ []) := by
  unfold wL_law at hw
  have hsi : ∀ k, inR (sc k) := fun k => by rw [← hs]; exact scF_in
  refine q_sipush F dL_law_8 (by decide) ?_
  obtain ⟨f2, e3⟩ := ex1 (fun _ : Int => (0 : Int))
  have hw := hw f2 e3
  have gf2 : ∀ x, inR (f2 x) := by rw [e3]; exact fun _ => ti_0
  refine g_tnew F wd44 900 rfl (by decide) (by omega) (by omega) dL_law_11 (T' := fun q1 => [(q1, iA E 900 f2)]) (fun q1 => by rw [e3]; rfl) (fun q1 => ?_)
  refine q_astore_n (lv' := [(0, .ref (E.2.1 4 3)), (1, .ref (E.1 0)), (2, .ref q1)]) F [1, 2, 0] dL_law_13 rfl (q_n hN (by decide)) rfl ?_
  refine q_aload_n F 2 dL_law_14 rfl rfl ?_
  refine q_ldcT F (sR_RL_grid F) dL_law_15 ?_
  refine q_cAV F cM_00 (kcL_put hfl cM_00 (by decide) gf2 hw) (by rw [adP_1]; rfl) (bS wd791 wd792 wd0 wd793) rfl ⟨rfl, rfl⟩ ydL_put (rm_c hfr (by decide) (by decide)) (av := [.ref q1, .ref (E.2.1 1 31)]) rfl rfl (Nat.le_of_ble_eq_true rfl) dL_law_17 ⟨by omega, by omega⟩ (fun I4 R5 f6 m7 gf6 hw => ?_)
  refine q_aload_n F 0 dL_law_20 rfl rfl ?_
  refine q_iconst F dL_law_21 ?_
  refine q_cS F (kL_cell (by decide) (by decide) hsc) (bS wd787 wd788 wd0 wd789) rfl ⟨rfl, rfl⟩ ydL_cell.2 (rm_c hfr (by decide) (by decide)) (av := [.ref (E.2.1 4 3), iV 0]) rfl rfl (Nat.le_of_ble_eq_true rfl) dL_law_22 ⟨by omega, by omega⟩ (fun v u hp => ?_)
  rw [hs] at hp
  subst hp
  refine q_bipush F dL_law_25 (by decide) ?_
  refine q_cS F (kL_below (hsi _) (⟨by decide, by decide⟩ : inR (6)) (by decide)) (bS wd783 wd784 wd0 wd785) rfl ⟨rfl, rfl⟩ ydL_below.2 (rm_c hfr (by decide) (by decide)) (av := [iV ((sc 0)), iV 6]) rfl rfl (Nat.le_of_ble_eq_true rfl) dL_law_27 ⟨by omega, by omega⟩ (fun v u hp => ?_)
  subst hp
  obtain ⟨z8, e9⟩ := ex1 ((blw ((sc 0)) 6))
  have hw := hw z8 e9
  have hz8 : inR z8 := by rw [e9]; exact (blw_in (by decide) (⟨by decide, by decide⟩ : inR (6)))
  refine q_top e9 ?_
  refine q_istore_n (lv' := [(0, .ref (E.2.1 4 3)), (1, .ref (E.1 0)), (2, .ref q1), (3, iV z8)]) F [1, 2, 3, 0] dL_law_30 rfl (q_n hN (by decide)) rfl ?_
  refine q_iconst F dL_law_31 ?_
  refine q_istore (lv' := [(0, .ref (E.2.1 4 3)), (1, .ref (E.1 0)), (2, .ref q1), (3, iV z8), (4, iV 0)]) F [1, 2, 3, 4, 0] dL_law_32 (q_n hN (by decide)) rfl ?_
  obtain ⟨n10, hw⟩ := hw
  exact bL_law_34 F hC hsc hs hfr hcs hN hfl fin n10 z8 0 q1 f6 I4 R5 hz8 (⟨by decide, by decide⟩ : inR (0)) gf6 m7 hw
