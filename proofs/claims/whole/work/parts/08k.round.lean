/-! ===== the law's rounds, each ===== -/
def wL (E : cE) (cL : ClassId) (u : (cI × cR) × Int) (J : cI) : va_W := gw E.1 lIds (lef E cL u) ++ gw E.1 mIds (mef E J)
abbrev lv0 (E : cE) (b : Nat) (i : Int) : List (Nat × Value) := [(0, .ref b), (1, .ref (E.1 0)), (2, .ref (E.1 1000)), (3, .ref (E.1 2000)), (4, iV i)]
def rmL (X : xC) (nc ns : Nat) : Prop := 60 ≤ X.1.2.2.2.frames ∧ 6000 ≤ X.1.2.2.2.locals ∧ nc + 40 ≤ X.1.2.2.2.cells ∧ ns + 900 ≤ X.1.2.2.2.slots
theorem rm_c {k mc ms n : Nat} {R : Room} (h : 60 ≤ R.frames ∧ 6000 ≤ R.locals) (hk : k ≤ 40) (hn : n ≤ 41) : (rmK k mc ms).frames + 1 ≤ R.frames ∧ 8 + (n + 11) + (rmK k mc ms).locals ≤ R.locals := by
  refine ⟨by show k + 1 ≤ _; omega, ?_⟩
  show 8 + (n + 11) + 60 * k ≤ _
  omega
theorem bW {own : String} {idx : Nat} {y : MethodName} {b : ByteArray} {n : Nat} {r : Option FieldType} {hh : List (Nat × Nat × Nat × Nat)} (h1 : Cond.methodLink own idx y ∈ bG) (h2 : Cond.static y ∈ bG) (h4 : Cond.initialized y.cls ∈ bG) (h5 : Cond.codeWith y b n r hh ∈ bG) : GoodIn bG (va_wsS own idx y (Cond.codeWith y b n r hh :: bG)) := by
  have hm : ∀ w ∈ va_wsS own idx y (Cond.codeWith y b n r hh :: bG), w ∈ bG := by
    intro w h
    unfold va_wsS at h
    simp only [List.cons_append, List.nil_append, List.mem_cons] at h
    rcases h with rfl | rfl | rfl | rfl | h
    · exact h1
    · exact h2
    · exact h4
    · exact h5
    · exact h
  exact fun w h => ⟨hm w h, good_of_word (List.mem_filter.mp (hm w h)).2⟩
theorem mono_isN {P : Prop} (h : P) : P := h
theorem l_join {X : xC} {E : cE} {nc ns pc : Nat} {lv : List (Nat × Value)} {st : List Value} {T : va_W} {cL : ClassId} {I : cI} {R : cR} {x : Int} (h : cW X nc ns pc lv st (gw E.1 lIds (lef E cL ((I, R), x)) ++ T)) : cW X nc ns pc lv st (gw E.1 cIds (cef E (I, R)) ++ ([(E.1 2000, outE cL x)] ++ T)) := by
  rw [l_split] at h
  exact h
set_option maxHeartbeats 4000000 in
set_option maxRecDepth 100000 in
theorem kR_feed {X : xC} {E : cE} {cL : ClassId} {b L nc ns : Nat} {xs : Nat → Int32} {i x0 : Int} {I : cI} {R : cR} {J : cI} (F : mF X E RL code bG) (hG : lG X.2.2.2.2 cL X.2.1.1) (hX : sX X b L xs) (hfl : X.1.2.1.stackTraces = false) (hN : X.2.2.1.2.2.2 = 9) (hR : rmL X nc ns) (i0 : 0 ≤ i) (i5 : i + 5 < L) (hm : cM I R) (hJ : mM J) (hI : INV I R J)
    (kk : ∀ (I' : cI) (R' : cR) (x' : Int) (J' : cI), cM I' R' → mM J' → INV I' R' J' → cW X (nc + 40) (ns + 900) 1320 (lv0 E b i) [] (wL E cL ((I', R'), x') J')) : cW X nc ns 156 (lv0 E b i) [] (wL E cL ((I, R), x0) J) := by
  refine q_aload_n F 1 dL_law_156 rfl rfl ?_
  refine q_aload_n F 0 dL_law_157 rfl rfl ?_
  refine q_iload F 4 dL_law_158 rfl ?_
  refine q_iconst F dL_law_160 ?_
  refine q_iadd F dL_law_161 ?_
  refine r_sld F hX (by omega) dL_law_162 ?_
  refine q_aload_n F 0 dL_law_163 rfl rfl ?_
  refine q_iload F 4 dL_law_164 rfl ?_
  refine q_iconst F dL_law_166 ?_
  refine q_iadd F dL_law_167 ?_
  refine r_sld F hX (by omega) dL_law_168 ?_
  refine q_aload_n F 0 dL_law_169 rfl rfl ?_
  refine q_iload F 4 dL_law_170 rfl ?_
  refine q_iconst F dL_law_172 ?_
  refine q_iadd F dL_law_173 ?_
  refine r_sld F hX (by omega) dL_law_174 ?_
  refine q_aload_n F 0 dL_law_175 rfl rfl ?_
  refine q_iload F 4 dL_law_176 rfl ?_
  refine q_iconst F dL_law_178 ?_
  refine q_iadd F dL_law_179 ?_
  refine r_sld F hX (by omega) dL_law_180 ?_
  refine q_aload_n F 0 dL_law_181 rfl rfl ?_
  refine q_iload F 4 dL_law_182 rfl ?_
  refine q_iconst F dL_law_184 ?_
  refine q_iadd F dL_law_185 ?_
  refine r_sld F hX (by omega) dL_law_186 ?_
  refine q_aload_n F 3 dL_law_187 rfl rfl ?_
  unfold wL
  refine q_cSL F hG (kL_feed (E := E) (cL := cL) (x0 := x0) (Qw := (Qo (wX12_feed (xs (i + 1).toNat).toInt (xs (i + 2).toNat).toInt (xs (i + 3).toNat).toInt (xs (i + 4).toNat).toInt (xs (i + 5).toNat).toInt J))) hfl hm (ti_rng _) (ti_rng _) (ti_rng _) (ti_rng _) (ti_rng _) (by have h := st_feed (a1 := (xs (i + 1).toNat).toInt) (a2 := (xs (i + 2).toNat).toInt) (a3 := (xs (i + 3).toNat).toInt) (a4 := (xs (i + 4).toNat).toInt) (a5 := (xs (i + 5).toNat).toInt) hI; rw [Qo_0, Qo_x (x0 := x0)] at h; exact h)) (bW wd605 wd606 wd0 wd607) rfl ⟨rfl, rfl⟩ (n := 7) (by decide +kernel) (rm_c ⟨hR.1, hR.2.1⟩ (by decide) (by decide)) (av := [.ref (E.1 0), iV (xs (i + 1).toNat).toInt, iV (xs (i + 2).toNat).toInt, iV (xs (i + 3).toNat).toInt, iV (xs (i + 4).toNat).toInt, iV (xs (i + 5).toNat).toInt, .ref (E.1 2000)]) rfl rfl (Nat.le_of_ble_eq_true rfl) dL_law_188 ⟨by have := hR.2.2; omega, by have := hR.2.2; omega⟩ (fun r x2 I2 R2 hr hm2 hq => ?_)
  refine q_istore (lv' := lv0 E b i ++ [(5, iV r)]) F [1, 2, 3, 4, 5, 0] dL_law_191 (q_n hN (by decide)) rfl ?_
  refine q_aload_n F 2 dL_law_193 rfl rfl ?_
  refine q_aload_n F 0 dL_law_194 rfl rfl ?_
  refine q_iload F 4 dL_law_195 rfl ?_
  refine q_iconst F dL_law_197 ?_
  refine q_iadd F dL_law_198 ?_
  refine r_sld F hX (by omega) dL_law_199 ?_
  refine q_aload_n F 0 dL_law_200 rfl rfl ?_
  refine q_iload F 4 dL_law_201 rfl ?_
  refine q_iconst F dL_law_203 ?_
  refine q_iadd F dL_law_204 ?_
  refine r_sld F hX (by omega) dL_law_205 ?_
  refine q_aload_n F 0 dL_law_206 rfl rfl ?_
  refine q_iload F 4 dL_law_207 rfl ?_
  refine q_iconst F dL_law_209 ?_
  refine q_iadd F dL_law_210 ?_
  refine r_sld F hX (by omega) dL_law_211 ?_
  refine q_aload_n F 0 dL_law_212 rfl rfl ?_
  refine q_iload F 4 dL_law_213 rfl ?_
  refine q_iconst F dL_law_215 ?_
  refine q_iadd F dL_law_216 ?_
  refine r_sld F hX (by omega) dL_law_217 ?_
  refine q_aload_n F 0 dL_law_218 rfl rfl ?_
  refine q_iload F 4 dL_law_219 rfl ?_
  refine q_iconst F dL_law_221 ?_
  refine q_iadd F dL_law_222 ?_
  refine r_sld F hX (by omega) dL_law_223 ?_
  refine n_perm List.perm_append_comm ?_
  refine q_ViM F (kcX12_feed (E := E) hJ (ti_rng _) (ti_rng _) (ti_rng _) (ti_rng _) (ti_rng _) (hq : (wX12_feed (xs (i + 1).toNat).toInt (xs (i + 2).toNat).toInt (xs (i + 3).toNat).toInt (xs (i + 4).toNat).toInt (xs (i + 5).toNat).toInt J _))) (by decide) meObj (ci := 10) rfl (bV wd921 wd922 wd923 wd13 wd924) rfl ⟨rfl, rfl⟩ ydX12_feed (rm_c ⟨hR.1, hR.2.1⟩ (by decide) (by decide)) (av := [iV (xs (i + 1).toNat).toInt, iV (xs (i + 2).toNat).toInt, iV (xs (i + 3).toNat).toInt, iV (xs (i + 4).toNat).toInt, iV (xs (i + 5).toNat).toInt]) rfl rfl (Nat.le_of_ble_eq_true rfl) dL_law_224 ⟨by have := hR.2.2; omega, by have := hR.2.2; omega⟩ (fun y J2 hy m2 hw2 => ?_)
  refine q_istore (lv' := lv0 E b i ++ [(5, iV r), (6, iV y)]) F [1, 2, 3, 4, 5, 6, 0] dL_law_227 (q_n hN (by decide)) rfl ?_
  refine q_aload_n F 2 dL_law_229 rfl rfl ?_
  refine q_ViM F (kcX12_thrown (E := E) m2 (Q := fun r' J' => r' = J2 1000 0 ∧ J' = J2) (⟨rfl, rfl⟩ : J2 1000 0 = J2 1000 0 ∧ J2 = J2)) (by decide) meObj (ci := 10) rfl (bV wd917 wd918 wd919 wd13 wd920) rfl ⟨rfl, rfl⟩ ydX12_thrown (rm_c ⟨hR.1, hR.2.1⟩ (by decide) (by decide)) (av := []) rfl rfl (Nat.le_of_ble_eq_true rfl) dL_law_230 ⟨by have := hR.2.2; omega, by have := hR.2.2; omega⟩ (fun t J3 ht m3 h3 => ?_)
  obtain ⟨rfl, rfl⟩ := h3
  refine q_iload F 5 dL_law_233 rfl ?_
  refine q_icmp_eq F ht hr 240 dL_law_235 (by decide) (fun _ => ?_) (fun hne => absurd hw2.1 hne)
  refine q_iload F 5 dL_law_240 rfl ?_
  have fin : cW X (nc + 40) (ns + 900) 257 (lv0 E b i ++ [(5, iV r), (6, iV y)]) [] (gw E.1 lIds (lef E cL ((I2, R2), x2)) ++ gw E.1 mIds (mef E J3)) := by
    refine q_goto F 1320 dL_law_257 (by decide) ?_
    refine q_lv [0, 1, 2, 3, 4] rfl ?_
    exact kk I2 R2 x2 J3 hm2 m2 hw2.2.2
  refine n_perm List.perm_append_comm ?_
  refine q_if_ne F hr 257 dL_law_242 (by decide) (fun _ => q_wide (by omega) (by omega) fin) (fun h0 => ?_)
  refine q_aload_n F 3 dL_law_245 rfl rfl ?_
  refine q_iconst F dL_law_246 ?_
  refine l_in F hG dL_law_247 ?_
  refine q_iload F 6 dL_law_248 rfl ?_
  refine q_i2l F hy dL_law_250 ?_
  refine q_lcmp0 F (hw2.2.1 h0) dL_law_251 ?_
  refine q_if_eq F ti_0 257 dL_law_252 (by decide) (fun _ => q_wide (by omega) (by omega) fin) (fun h => absurd rfl h)
set_option maxHeartbeats 4000000 in
set_option maxRecDepth 100000 in
theorem kR_trim {X : xC} {E : cE} {cL : ClassId} {b L nc ns : Nat} {xs : Nat → Int32} {i x0 : Int} {I : cI} {R : cR} {J : cI} (F : mF X E RL code bG) (hG : lG X.2.2.2.2 cL X.2.1.1) (hX : sX X b L xs) (hfl : X.1.2.1.stackTraces = false) (hN : X.2.2.1.2.2.2 = 9) (hR : rmL X nc ns) (i0 : 0 ≤ i) (i5 : i + 5 < L) (hm : cM I R) (hJ : mM J) (hI : INV I R J)
    (kk : ∀ (I' : cI) (R' : cR) (x' : Int) (J' : cI), cM I' R' → mM J' → INV I' R' J' → cW X (nc + 40) (ns + 900) 1320 (lv0 E b i) [] (wL E cL ((I', R'), x') J')) : cW X nc ns 260 (lv0 E b i) [] (wL E cL ((I, R), x0) J) := by
  refine q_aload_n F 1 dL_law_260 rfl rfl ?_
  refine q_aload_n F 0 dL_law_261 rfl rfl ?_
  refine q_iload F 4 dL_law_262 rfl ?_
  refine q_iconst F dL_law_264 ?_
  refine q_iadd F dL_law_265 ?_
  refine r_sld F hX (by omega) dL_law_266 ?_
  refine q_aload_n F 3 dL_law_267 rfl rfl ?_
  unfold wL
  refine q_cSL F hG (kL_trim (E := E) (cL := cL) (x0 := x0) (Qw := (Qo (wX12_trim (xs (i + 1).toNat).toInt J))) hfl hm (ti_rng _) (by have h := st_trim (a := (xs (i + 1).toNat).toInt) hI; rw [Qo_0, Qo_x (x0 := x0)] at h; exact h)) (bW wd626 wd627 wd0 wd628) rfl ⟨rfl, rfl⟩ (n := 3) (by decide +kernel) (rm_c ⟨hR.1, hR.2.1⟩ (by decide) (by decide)) (av := [.ref (E.1 0), iV (xs (i + 1).toNat).toInt, .ref (E.1 2000)]) rfl rfl (Nat.le_of_ble_eq_true rfl) dL_law_268 ⟨by have := hR.2.2; omega, by have := hR.2.2; omega⟩ (fun r x2 I2 R2 hr hm2 hq => ?_)
  refine q_istore (lv' := lv0 E b i ++ [(5, iV r)]) F [1, 2, 3, 4, 5, 0] dL_law_271 (q_n hN (by decide)) rfl ?_
  refine q_aload_n F 2 dL_law_273 rfl rfl ?_
  refine q_aload_n F 0 dL_law_274 rfl rfl ?_
  refine q_iload F 4 dL_law_275 rfl ?_
  refine q_iconst F dL_law_277 ?_
  refine q_iadd F dL_law_278 ?_
  refine r_sld F hX (by omega) dL_law_279 ?_
  refine n_perm List.perm_append_comm ?_
  refine q_ViM F (kcX12_trim (E := E) hJ (ti_rng _) (hq : (wX12_trim (xs (i + 1).toNat).toInt J _))) (by decide) meObj (ci := 10) rfl (bV wd928 wd929 wd930 wd13 wd931) rfl ⟨rfl, rfl⟩ ydX12_trim (rm_c ⟨hR.1, hR.2.1⟩ (by decide) (by decide)) (av := [iV (xs (i + 1).toNat).toInt]) rfl rfl (Nat.le_of_ble_eq_true rfl) dL_law_280 ⟨by have := hR.2.2; omega, by have := hR.2.2; omega⟩ (fun y J2 hy m2 hw2 => ?_)
  refine q_istore (lv' := lv0 E b i ++ [(5, iV r), (6, iV y)]) F [1, 2, 3, 4, 5, 6, 0] dL_law_283 (q_n hN (by decide)) rfl ?_
  refine q_aload_n F 2 dL_law_285 rfl rfl ?_
  refine q_ViM F (kcX12_thrown (E := E) m2 (Q := fun r' J' => r' = J2 1000 0 ∧ J' = J2) (⟨rfl, rfl⟩ : J2 1000 0 = J2 1000 0 ∧ J2 = J2)) (by decide) meObj (ci := 10) rfl (bV wd917 wd918 wd919 wd13 wd920) rfl ⟨rfl, rfl⟩ ydX12_thrown (rm_c ⟨hR.1, hR.2.1⟩ (by decide) (by decide)) (av := []) rfl rfl (Nat.le_of_ble_eq_true rfl) dL_law_286 ⟨by have := hR.2.2; omega, by have := hR.2.2; omega⟩ (fun t J3 ht m3 h3 => ?_)
  obtain ⟨rfl, rfl⟩ := h3
  refine q_iload F 5 dL_law_289 rfl ?_
  refine q_icmp_eq F ht hr 296 dL_law_291 (by decide) (fun _ => ?_) (fun hne => absurd hw2.1 hne)
  refine q_iload F 5 dL_law_296 rfl ?_
  have fin : cW X (nc + 40) (ns + 900) 313 (lv0 E b i ++ [(5, iV r), (6, iV y)]) [] (gw E.1 lIds (lef E cL ((I2, R2), x2)) ++ gw E.1 mIds (mef E J3)) := by
    refine q_goto F 1320 dL_law_313 (by decide) ?_
    refine q_lv [0, 1, 2, 3, 4] rfl ?_
    exact kk I2 R2 x2 J3 hm2 m2 hw2.2.2
  refine n_perm List.perm_append_comm ?_
  refine q_if_ne F hr 313 dL_law_298 (by decide) (fun _ => q_wide (by omega) (by omega) fin) (fun h0 => ?_)
  refine q_aload_n F 3 dL_law_301 rfl rfl ?_
  refine q_iconst F dL_law_302 ?_
  refine l_in F hG dL_law_303 ?_
  refine q_iload F 6 dL_law_304 rfl ?_
  refine q_i2l F hy dL_law_306 ?_
  refine q_lcmp0 F (hw2.2.1 h0) dL_law_307 ?_
  refine q_if_eq F ti_0 313 dL_law_308 (by decide) (fun _ => q_wide (by omega) (by omega) fin) (fun h => absurd rfl h)
set_option maxHeartbeats 4000000 in
set_option maxRecDepth 100000 in
theorem kR_count {X : xC} {E : cE} {cL : ClassId} {b L nc ns : Nat} {xs : Nat → Int32} {i x0 : Int} {I : cI} {R : cR} {J : cI} (F : mF X E RL code bG) (hG : lG X.2.2.2.2 cL X.2.1.1) (hX : sX X b L xs) (hfl : X.1.2.1.stackTraces = false) (hN : X.2.2.1.2.2.2 = 9) (hR : rmL X nc ns) (i0 : 0 ≤ i) (i5 : i + 5 < L) (hm : cM I R) (hJ : mM J) (hI : INV I R J)
    (kk : ∀ (I' : cI) (R' : cR) (x' : Int) (J' : cI), cM I' R' → mM J' → INV I' R' J' → cW X (nc + 40) (ns + 900) 1320 (lv0 E b i) [] (wL E cL ((I', R'), x') J')) : cW X nc ns 342 (lv0 E b i) [] (wL E cL ((I, R), x0) J) := by
  refine q_aload_n F 1 dL_law_342 rfl rfl ?_
  refine q_aload_n F 0 dL_law_343 rfl rfl ?_
  refine q_iload F 4 dL_law_344 rfl ?_
  refine q_iconst F dL_law_346 ?_
  refine q_iadd F dL_law_347 ?_
  refine r_sld F hX (by omega) dL_law_348 ?_
  refine q_aload_n F 3 dL_law_349 rfl rfl ?_
  unfold wL
  refine q_cSL F hG (kL_count (E := E) (cL := cL) (x0 := x0) (Qw := (Qo (wX12_count (xs (i + 1).toNat).toInt J))) hfl hm (ti_rng _) (by have h := st_count (a := (xs (i + 1).toNat).toInt) hI; rw [Qo_0, Qo_x (x0 := x0)] at h; exact h)) (bW wd643 wd644 wd0 wd645) rfl ⟨rfl, rfl⟩ (n := 3) (by decide +kernel) (rm_c ⟨hR.1, hR.2.1⟩ (by decide) (by decide)) (av := [.ref (E.1 0), iV (xs (i + 1).toNat).toInt, .ref (E.1 2000)]) rfl rfl (Nat.le_of_ble_eq_true rfl) dL_law_350 ⟨by have := hR.2.2; omega, by have := hR.2.2; omega⟩ (fun r x2 I2 R2 hr hm2 hq => ?_)
  refine q_istore (lv' := lv0 E b i ++ [(5, iV r)]) F [1, 2, 3, 4, 5, 0] dL_law_353 (q_n hN (by decide)) rfl ?_
  refine q_aload_n F 2 dL_law_355 rfl rfl ?_
  refine q_aload_n F 0 dL_law_356 rfl rfl ?_
  refine q_iload F 4 dL_law_357 rfl ?_
  refine q_iconst F dL_law_359 ?_
  refine q_iadd F dL_law_360 ?_
  refine r_sld F hX (by omega) dL_law_361 ?_
  refine n_perm List.perm_append_comm ?_
  refine q_ViM F (kcX12_count (E := E) hJ (ti_rng _) (hq : (wX12_count (xs (i + 1).toNat).toInt J _))) (by decide) meObj (ci := 10) rfl (bV wd1011 wd1012 wd1013 wd13 wd1014) rfl ⟨rfl, rfl⟩ ydX12_count (rm_c ⟨hR.1, hR.2.1⟩ (by decide) (by decide)) (av := [iV (xs (i + 1).toNat).toInt]) rfl rfl (Nat.le_of_ble_eq_true rfl) dL_law_362 ⟨by have := hR.2.2; omega, by have := hR.2.2; omega⟩ (fun y J2 hy m2 hw2 => ?_)
  refine q_istore (lv' := lv0 E b i ++ [(5, iV r), (6, iV y)]) F [1, 2, 3, 4, 5, 6, 0] dL_law_365 (q_n hN (by decide)) rfl ?_
  refine q_aload_n F 2 dL_law_367 rfl rfl ?_
  refine q_ViM F (kcX12_thrown (E := E) m2 (Q := fun r' J' => r' = J2 1000 0 ∧ J' = J2) (⟨rfl, rfl⟩ : J2 1000 0 = J2 1000 0 ∧ J2 = J2)) (by decide) meObj (ci := 10) rfl (bV wd917 wd918 wd919 wd13 wd920) rfl ⟨rfl, rfl⟩ ydX12_thrown (rm_c ⟨hR.1, hR.2.1⟩ (by decide) (by decide)) (av := []) rfl rfl (Nat.le_of_ble_eq_true rfl) dL_law_368 ⟨by have := hR.2.2; omega, by have := hR.2.2; omega⟩ (fun t J3 ht m3 h3 => ?_)
  obtain ⟨rfl, rfl⟩ := h3
  refine q_iload F 5 dL_law_371 rfl ?_
  refine q_icmp_eq F ht hr 378 dL_law_373 (by decide) (fun _ => ?_) (fun hne => absurd hw2.1 hne)
  refine q_iload F 5 dL_law_378 rfl ?_
  have fin : cW X (nc + 40) (ns + 900) 395 (lv0 E b i ++ [(5, iV r), (6, iV y)]) [] (gw E.1 lIds (lef E cL ((I2, R2), x2)) ++ gw E.1 mIds (mef E J3)) := by
    refine q_goto F 1320 dL_law_395 (by decide) ?_
    refine q_lv [0, 1, 2, 3, 4] rfl ?_
    exact kk I2 R2 x2 J3 hm2 m2 hw2.2.2
  refine n_perm List.perm_append_comm ?_
  refine q_if_ne F hr 395 dL_law_380 (by decide) (fun _ => q_wide (by omega) (by omega) fin) (fun h0 => ?_)
  refine q_aload_n F 3 dL_law_383 rfl rfl ?_
  refine q_iconst F dL_law_384 ?_
  refine l_in F hG dL_law_385 ?_
  refine q_iload F 6 dL_law_386 rfl ?_
  refine q_i2l F hy dL_law_388 ?_
  refine q_lcmp0 F (hw2.2.1 h0) dL_law_389 ?_
  refine q_if_eq F ti_0 395 dL_law_390 (by decide) (fun _ => q_wide (by omega) (by omega) fin) (fun h => absurd rfl h)
set_option maxHeartbeats 4000000 in
set_option maxRecDepth 100000 in
theorem kR_rule {X : xC} {E : cE} {cL : ClassId} {b L nc ns : Nat} {xs : Nat → Int32} {i x0 : Int} {I : cI} {R : cR} {J : cI} (F : mF X E RL code bG) (hG : lG X.2.2.2.2 cL X.2.1.1) (hX : sX X b L xs) (hfl : X.1.2.1.stackTraces = false) (hN : X.2.2.1.2.2.2 = 9) (hR : rmL X nc ns) (i0 : 0 ≤ i) (i5 : i + 5 < L) (hm : cM I R) (hJ : mM J) (hI : INV I R J)
    (kk : ∀ (I' : cI) (R' : cR) (x' : Int) (J' : cI), cM I' R' → mM J' → INV I' R' J' → cW X (nc + 40) (ns + 900) 1320 (lv0 E b i) [] (wL E cL ((I', R'), x') J')) : cW X nc ns 398 (lv0 E b i) [] (wL E cL ((I, R), x0) J) := by
  refine q_aload_n F 1 dL_law_398 rfl rfl ?_
  refine q_aload_n F 0 dL_law_399 rfl rfl ?_
  refine q_iload F 4 dL_law_400 rfl ?_
  refine q_iconst F dL_law_402 ?_
  refine q_iadd F dL_law_403 ?_
  refine r_sld F hX (by omega) dL_law_404 ?_
  refine q_aload_n F 0 dL_law_405 rfl rfl ?_
  refine q_iload F 4 dL_law_406 rfl ?_
  refine q_iconst F dL_law_408 ?_
  refine q_iadd F dL_law_409 ?_
  refine r_sld F hX (by omega) dL_law_410 ?_
  refine q_aload_n F 3 dL_law_411 rfl rfl ?_
  unfold wL
  refine q_cSL F hG (kL_rule (E := E) (cL := cL) (x0 := x0) (Qw := (Qo (wX12_rule (xs (i + 1).toNat).toInt (xs (i + 2).toNat).toInt J))) hfl hm (ti_rng _) (ti_rng _) (by have h := st_rule (a := (xs (i + 1).toNat).toInt) (b := (xs (i + 2).toNat).toInt) hI; rw [Qo_0, Qo_x (x0 := x0)] at h; exact h)) (bW wd648 wd649 wd0 wd650) rfl ⟨rfl, rfl⟩ (n := 4) (by decide +kernel) (rm_c ⟨hR.1, hR.2.1⟩ (by decide) (by decide)) (av := [.ref (E.1 0), iV (xs (i + 1).toNat).toInt, iV (xs (i + 2).toNat).toInt, .ref (E.1 2000)]) rfl rfl (Nat.le_of_ble_eq_true rfl) dL_law_412 ⟨by have := hR.2.2; omega, by have := hR.2.2; omega⟩ (fun r x2 I2 R2 hr hm2 hq => ?_)
  refine q_istore (lv' := lv0 E b i ++ [(5, iV r)]) F [1, 2, 3, 4, 5, 0] dL_law_415 (q_n hN (by decide)) rfl ?_
  refine q_aload_n F 2 dL_law_417 rfl rfl ?_
  refine q_aload_n F 0 dL_law_418 rfl rfl ?_
  refine q_iload F 4 dL_law_419 rfl ?_
  refine q_iconst F dL_law_421 ?_
  refine q_iadd F dL_law_422 ?_
  refine r_sld F hX (by omega) dL_law_423 ?_
  refine q_aload_n F 0 dL_law_424 rfl rfl ?_
  refine q_iload F 4 dL_law_425 rfl ?_
  refine q_iconst F dL_law_427 ?_
  refine q_iadd F dL_law_428 ?_
  refine r_sld F hX (by omega) dL_law_429 ?_
  refine n_perm List.perm_append_comm ?_
  refine q_ViM F (kcX12_rule (E := E) hJ (ti_rng _) (ti_rng _) (hq : (wX12_rule (xs (i + 1).toNat).toInt (xs (i + 2).toNat).toInt J _))) (by decide) meObj (ci := 10) rfl (bV wd1043 wd1044 wd1045 wd13 wd1046) rfl ⟨rfl, rfl⟩ ydX12_rule (rm_c ⟨hR.1, hR.2.1⟩ (by decide) (by decide)) (av := [iV (xs (i + 1).toNat).toInt, iV (xs (i + 2).toNat).toInt]) rfl rfl (Nat.le_of_ble_eq_true rfl) dL_law_430 ⟨by have := hR.2.2; omega, by have := hR.2.2; omega⟩ (fun y J2 hy m2 hw2 => ?_)
  refine q_istore (lv' := lv0 E b i ++ [(5, iV r), (6, iV y)]) F [1, 2, 3, 4, 5, 6, 0] dL_law_433 (q_n hN (by decide)) rfl ?_
  refine q_aload_n F 2 dL_law_435 rfl rfl ?_
  refine q_ViM F (kcX12_thrown (E := E) m2 (Q := fun r' J' => r' = J2 1000 0 ∧ J' = J2) (⟨rfl, rfl⟩ : J2 1000 0 = J2 1000 0 ∧ J2 = J2)) (by decide) meObj (ci := 10) rfl (bV wd917 wd918 wd919 wd13 wd920) rfl ⟨rfl, rfl⟩ ydX12_thrown (rm_c ⟨hR.1, hR.2.1⟩ (by decide) (by decide)) (av := []) rfl rfl (Nat.le_of_ble_eq_true rfl) dL_law_436 ⟨by have := hR.2.2; omega, by have := hR.2.2; omega⟩ (fun t J3 ht m3 h3 => ?_)
  obtain ⟨rfl, rfl⟩ := h3
  refine q_iload F 5 dL_law_439 rfl ?_
  refine q_icmp_eq F ht hr 446 dL_law_441 (by decide) (fun _ => ?_) (fun hne => absurd hw2.1 hne)
  refine q_iload F 5 dL_law_446 rfl ?_
  have fin : cW X (nc + 40) (ns + 900) 463 (lv0 E b i ++ [(5, iV r), (6, iV y)]) [] (gw E.1 lIds (lef E cL ((I2, R2), x2)) ++ gw E.1 mIds (mef E J3)) := by
    refine q_goto F 1320 dL_law_463 (by decide) ?_
    refine q_lv [0, 1, 2, 3, 4] rfl ?_
    exact kk I2 R2 x2 J3 hm2 m2 hw2.2.2
  refine n_perm List.perm_append_comm ?_
  refine q_if_ne F hr 463 dL_law_448 (by decide) (fun _ => q_wide (by omega) (by omega) fin) (fun h0 => ?_)
  refine q_aload_n F 3 dL_law_451 rfl rfl ?_
  refine q_iconst F dL_law_452 ?_
  refine l_in F hG dL_law_453 ?_
  refine q_iload F 6 dL_law_454 rfl ?_
  refine q_i2l F hy dL_law_456 ?_
  refine q_lcmp0 F (hw2.2.1 h0) dL_law_457 ?_
  refine q_if_eq F ti_0 463 dL_law_458 (by decide) (fun _ => q_wide (by omega) (by omega) fin) (fun h => absurd rfl h)
set_option maxHeartbeats 4000000 in
set_option maxRecDepth 100000 in
theorem kR_drop {X : xC} {E : cE} {cL : ClassId} {b L nc ns : Nat} {xs : Nat → Int32} {i x0 : Int} {I : cI} {R : cR} {J : cI} (F : mF X E RL code bG) (hG : lG X.2.2.2.2 cL X.2.1.1) (hX : sX X b L xs) (hfl : X.1.2.1.stackTraces = false) (hN : X.2.2.1.2.2.2 = 9) (hR : rmL X nc ns) (i0 : 0 ≤ i) (i5 : i + 5 < L) (hm : cM I R) (hJ : mM J) (hI : INV I R J)
    (kk : ∀ (I' : cI) (R' : cR) (x' : Int) (J' : cI), cM I' R' → mM J' → INV I' R' J' → cW X (nc + 40) (ns + 900) 1320 (lv0 E b i) [] (wL E cL ((I', R'), x') J')) : cW X nc ns 466 (lv0 E b i) [] (wL E cL ((I, R), x0) J) := by
  refine q_aload_n F 1 dL_law_466 rfl rfl ?_
  refine q_aload_n F 0 dL_law_467 rfl rfl ?_
  refine q_iload F 4 dL_law_468 rfl ?_
  refine q_iconst F dL_law_470 ?_
  refine q_iadd F dL_law_471 ?_
  refine r_sld F hX (by omega) dL_law_472 ?_
  refine q_aload_n F 3 dL_law_473 rfl rfl ?_
  unfold wL
  refine q_cSL F hG (kL_drop (E := E) (cL := cL) (x0 := x0) (Qw := (Qo (wX12_drop (xs (i + 1).toNat).toInt J))) hfl hm (ti_rng _) (by have h := st_drop (a := (xs (i + 1).toNat).toInt) hI; rw [Qo_0, Qo_x (x0 := x0)] at h; exact h)) (bW wd652 wd653 wd0 wd654) rfl ⟨rfl, rfl⟩ (n := 3) (by decide +kernel) (rm_c ⟨hR.1, hR.2.1⟩ (by decide) (by decide)) (av := [.ref (E.1 0), iV (xs (i + 1).toNat).toInt, .ref (E.1 2000)]) rfl rfl (Nat.le_of_ble_eq_true rfl) dL_law_474 ⟨by have := hR.2.2; omega, by have := hR.2.2; omega⟩ (fun r x2 I2 R2 hr hm2 hq => ?_)
  refine q_istore (lv' := lv0 E b i ++ [(5, iV r)]) F [1, 2, 3, 4, 5, 0] dL_law_477 (q_n hN (by decide)) rfl ?_
  refine q_aload_n F 2 dL_law_479 rfl rfl ?_
  refine q_aload_n F 0 dL_law_480 rfl rfl ?_
  refine q_iload F 4 dL_law_481 rfl ?_
  refine q_iconst F dL_law_483 ?_
  refine q_iadd F dL_law_484 ?_
  refine r_sld F hX (by omega) dL_law_485 ?_
  refine n_perm List.perm_append_comm ?_
  refine q_ViM F (kcX12_drop (E := E) hJ (ti_rng _) (hq : (wX12_drop (xs (i + 1).toNat).toInt J _))) (by decide) meObj (ci := 10) rfl (bV wd1053 wd1054 wd1055 wd13 wd1056) rfl ⟨rfl, rfl⟩ ydX12_drop (rm_c ⟨hR.1, hR.2.1⟩ (by decide) (by decide)) (av := [iV (xs (i + 1).toNat).toInt]) rfl rfl (Nat.le_of_ble_eq_true rfl) dL_law_486 ⟨by have := hR.2.2; omega, by have := hR.2.2; omega⟩ (fun y J2 hy m2 hw2 => ?_)
  refine q_istore (lv' := lv0 E b i ++ [(5, iV r), (6, iV y)]) F [1, 2, 3, 4, 5, 6, 0] dL_law_489 (q_n hN (by decide)) rfl ?_
  refine q_aload_n F 2 dL_law_491 rfl rfl ?_
  refine q_ViM F (kcX12_thrown (E := E) m2 (Q := fun r' J' => r' = J2 1000 0 ∧ J' = J2) (⟨rfl, rfl⟩ : J2 1000 0 = J2 1000 0 ∧ J2 = J2)) (by decide) meObj (ci := 10) rfl (bV wd917 wd918 wd919 wd13 wd920) rfl ⟨rfl, rfl⟩ ydX12_thrown (rm_c ⟨hR.1, hR.2.1⟩ (by decide) (by decide)) (av := []) rfl rfl (Nat.le_of_ble_eq_true rfl) dL_law_492 ⟨by have := hR.2.2; omega, by have := hR.2.2; omega⟩ (fun t J3 ht m3 h3 => ?_)
  obtain ⟨rfl, rfl⟩ := h3
  refine q_iload F 5 dL_law_495 rfl ?_
  refine q_icmp_eq F ht hr 502 dL_law_497 (by decide) (fun _ => ?_) (fun hne => absurd hw2.1 hne)
  refine q_iload F 5 dL_law_502 rfl ?_
  have fin : cW X (nc + 40) (ns + 900) 519 (lv0 E b i ++ [(5, iV r), (6, iV y)]) [] (gw E.1 lIds (lef E cL ((I2, R2), x2)) ++ gw E.1 mIds (mef E J3)) := by
    refine q_goto F 1320 dL_law_519 (by decide) ?_
    refine q_lv [0, 1, 2, 3, 4] rfl ?_
    exact kk I2 R2 x2 J3 hm2 m2 hw2.2.2
  refine n_perm List.perm_append_comm ?_
  refine q_if_ne F hr 519 dL_law_504 (by decide) (fun _ => q_wide (by omega) (by omega) fin) (fun h0 => ?_)
  refine q_aload_n F 3 dL_law_507 rfl rfl ?_
  refine q_iconst F dL_law_508 ?_
  refine l_in F hG dL_law_509 ?_
  refine q_iload F 6 dL_law_510 rfl ?_
  refine q_i2l F hy dL_law_512 ?_
  refine q_lcmp0 F (hw2.2.1 h0) dL_law_513 ?_
  refine q_if_eq F ti_0 519 dL_law_514 (by decide) (fun _ => q_wide (by omega) (by omega) fin) (fun h => absurd rfl h)
set_option maxHeartbeats 4000000 in
set_option maxRecDepth 100000 in
theorem kR_write {X : xC} {E : cE} {cL : ClassId} {b L nc ns : Nat} {xs : Nat → Int32} {i x0 : Int} {I : cI} {R : cR} {J : cI} (F : mF X E RL code bG) (hG : lG X.2.2.2.2 cL X.2.1.1) (hX : sX X b L xs) (hfl : X.1.2.1.stackTraces = false) (hN : X.2.2.1.2.2.2 = 9) (hR : rmL X nc ns) (i0 : 0 ≤ i) (i5 : i + 5 < L) (hm : cM I R) (hJ : mM J) (hI : INV I R J)
    (kk : ∀ (I' : cI) (R' : cR) (x' : Int) (J' : cI), cM I' R' → mM J' → INV I' R' J' → cW X (nc + 40) (ns + 900) 1320 (lv0 E b i) [] (wL E cL ((I', R'), x') J')) : cW X nc ns 522 (lv0 E b i) [] (wL E cL ((I, R), x0) J) := by
  refine q_aload_n F 1 dL_law_522 rfl rfl ?_
  refine q_aload_n F 3 dL_law_523 rfl rfl ?_
  unfold wL
  refine q_cSL F hG (kL_write (E := E) (cL := cL) (x0 := x0) (Qw := (Qo (wX12_write J))) hfl hm  (by have h := st_write hI; rw [Qo_0, Qo_x (x0 := x0)] at h; exact h)) (bW wd663 wd664 wd0 wd665) rfl ⟨rfl, rfl⟩ (n := 2) (by decide +kernel) (rm_c ⟨hR.1, hR.2.1⟩ (by decide) (by decide)) (av := [.ref (E.1 0), .ref (E.1 2000)]) rfl rfl (Nat.le_of_ble_eq_true rfl) dL_law_524 ⟨by have := hR.2.2; omega, by have := hR.2.2; omega⟩ (fun r x2 I2 R2 hr hm2 hq => ?_)
  refine q_istore (lv' := lv0 E b i ++ [(5, iV r)]) F [1, 2, 3, 4, 5, 0] dL_law_527 (q_n hN (by decide)) rfl ?_
  refine q_aload_n F 2 dL_law_529 rfl rfl ?_
  refine n_perm List.perm_append_comm ?_
  refine q_ViM F (kcX12_write (E := E) hJ  (hq : (wX12_write J _))) (by decide) meObj (ci := 10) rfl (bV wd1063 wd1064 wd1065 wd13 wd1066) rfl ⟨rfl, rfl⟩ ydX12_write (rm_c ⟨hR.1, hR.2.1⟩ (by decide) (by decide)) (av := []) rfl rfl (Nat.le_of_ble_eq_true rfl) dL_law_530 ⟨by have := hR.2.2; omega, by have := hR.2.2; omega⟩ (fun y J2 hy m2 hw2 => ?_)
  refine q_istore (lv' := lv0 E b i ++ [(5, iV r), (6, iV y)]) F [1, 2, 3, 4, 5, 6, 0] dL_law_533 (q_n hN (by decide)) rfl ?_
  refine q_aload_n F 2 dL_law_535 rfl rfl ?_
  refine q_ViM F (kcX12_thrown (E := E) m2 (Q := fun r' J' => r' = J2 1000 0 ∧ J' = J2) (⟨rfl, rfl⟩ : J2 1000 0 = J2 1000 0 ∧ J2 = J2)) (by decide) meObj (ci := 10) rfl (bV wd917 wd918 wd919 wd13 wd920) rfl ⟨rfl, rfl⟩ ydX12_thrown (rm_c ⟨hR.1, hR.2.1⟩ (by decide) (by decide)) (av := []) rfl rfl (Nat.le_of_ble_eq_true rfl) dL_law_536 ⟨by have := hR.2.2; omega, by have := hR.2.2; omega⟩ (fun t J3 ht m3 h3 => ?_)
  obtain ⟨rfl, rfl⟩ := h3
  refine q_iload F 5 dL_law_539 rfl ?_
  refine q_icmp_eq F ht hr 546 dL_law_541 (by decide) (fun _ => ?_) (fun hne => absurd hw2.1 hne)
  refine q_iload F 5 dL_law_546 rfl ?_
  have fin : cW X (nc + 40) (ns + 900) 563 (lv0 E b i ++ [(5, iV r), (6, iV y)]) [] (gw E.1 lIds (lef E cL ((I2, R2), x2)) ++ gw E.1 mIds (mef E J3)) := by
    refine q_goto F 1320 dL_law_563 (by decide) ?_
    refine q_lv [0, 1, 2, 3, 4] rfl ?_
    exact kk I2 R2 x2 J3 hm2 m2 hw2.2.2
  refine n_perm List.perm_append_comm ?_
  refine q_if_ne F hr 563 dL_law_548 (by decide) (fun _ => q_wide (by omega) (by omega) fin) (fun h0 => ?_)
  refine q_aload_n F 3 dL_law_551 rfl rfl ?_
  refine q_iconst F dL_law_552 ?_
  refine l_in F hG dL_law_553 ?_
  refine q_iload F 6 dL_law_554 rfl ?_
  refine q_i2l F hy dL_law_556 ?_
  refine q_lcmp0 F (hw2.2.1 h0) dL_law_557 ?_
  refine q_if_eq F ti_0 563 dL_law_558 (by decide) (fun _ => q_wide (by omega) (by omega) fin) (fun h => absurd rfl h)
set_option maxHeartbeats 4000000 in
set_option maxRecDepth 100000 in
theorem kR_byteAt {X : xC} {E : cE} {cL : ClassId} {b L nc ns : Nat} {xs : Nat → Int32} {i x0 : Int} {I : cI} {R : cR} {J : cI} (F : mF X E RL code bG) (hG : lG X.2.2.2.2 cL X.2.1.1) (hX : sX X b L xs) (hfl : X.1.2.1.stackTraces = false) (hN : X.2.2.1.2.2.2 = 9) (hR : rmL X nc ns) (i0 : 0 ≤ i) (i5 : i + 5 < L) (hm : cM I R) (hJ : mM J) (hI : INV I R J)
    (kk : ∀ (I' : cI) (R' : cR) (x' : Int) (J' : cI), cM I' R' → mM J' → INV I' R' J' → cW X (nc + 40) (ns + 900) 1320 (lv0 E b i) [] (wL E cL ((I', R'), x') J')) : cW X nc ns 566 (lv0 E b i) [] (wL E cL ((I, R), x0) J) := by
  refine q_aload_n F 1 dL_law_566 rfl rfl ?_
  refine q_aload_n F 0 dL_law_567 rfl rfl ?_
  refine q_iload F 4 dL_law_568 rfl ?_
  refine q_iconst F dL_law_570 ?_
  refine q_iadd F dL_law_571 ?_
  refine r_sld F hX (by omega) dL_law_572 ?_
  refine q_aload_n F 3 dL_law_573 rfl rfl ?_
  unfold wL
  refine q_cSL F hG (kL_byteAt (E := E) (cL := cL) (x0 := x0) (Qw := (Qo (wX12_byteAt (xs (i + 1).toNat).toInt J))) hfl hm (ti_rng _) (by have h := st_byteAt (a := (xs (i + 1).toNat).toInt) hI; rw [Qo_0, Qo_x (x0 := x0)] at h; exact h)) (bW wd701 wd702 wd0 wd703) rfl ⟨rfl, rfl⟩ (n := 3) (by decide +kernel) (rm_c ⟨hR.1, hR.2.1⟩ (by decide) (by decide)) (av := [.ref (E.1 0), iV (xs (i + 1).toNat).toInt, .ref (E.1 2000)]) rfl rfl (Nat.le_of_ble_eq_true rfl) dL_law_574 ⟨by have := hR.2.2; omega, by have := hR.2.2; omega⟩ (fun r x2 I2 R2 hr hm2 hq => ?_)
  refine q_istore (lv' := lv0 E b i ++ [(5, iV r)]) F [1, 2, 3, 4, 5, 0] dL_law_577 (q_n hN (by decide)) rfl ?_
  refine q_aload_n F 2 dL_law_579 rfl rfl ?_
  refine q_aload_n F 0 dL_law_580 rfl rfl ?_
  refine q_iload F 4 dL_law_581 rfl ?_
  refine q_iconst F dL_law_583 ?_
  refine q_iadd F dL_law_584 ?_
  refine r_sld F hX (by omega) dL_law_585 ?_
  refine n_perm List.perm_append_comm ?_
  refine q_ViM F (kcX12_byteAt (E := E) hJ (ti_rng _) (hq : (wX12_byteAt (xs (i + 1).toNat).toInt J _))) (by decide) meObj (ci := 10) rfl (bV wd1079 wd1080 wd1081 wd13 wd1082) rfl ⟨rfl, rfl⟩ ydX12_byteAt (rm_c ⟨hR.1, hR.2.1⟩ (by decide) (by decide)) (av := [iV (xs (i + 1).toNat).toInt]) rfl rfl (Nat.le_of_ble_eq_true rfl) dL_law_586 ⟨by have := hR.2.2; omega, by have := hR.2.2; omega⟩ (fun y J2 hy m2 hw2 => ?_)
  refine q_istore (lv' := lv0 E b i ++ [(5, iV r), (6, iV y)]) F [1, 2, 3, 4, 5, 6, 0] dL_law_589 (q_n hN (by decide)) rfl ?_
  refine q_aload_n F 2 dL_law_591 rfl rfl ?_
  refine q_ViM F (kcX12_thrown (E := E) m2 (Q := fun r' J' => r' = J2 1000 0 ∧ J' = J2) (⟨rfl, rfl⟩ : J2 1000 0 = J2 1000 0 ∧ J2 = J2)) (by decide) meObj (ci := 10) rfl (bV wd917 wd918 wd919 wd13 wd920) rfl ⟨rfl, rfl⟩ ydX12_thrown (rm_c ⟨hR.1, hR.2.1⟩ (by decide) (by decide)) (av := []) rfl rfl (Nat.le_of_ble_eq_true rfl) dL_law_592 ⟨by have := hR.2.2; omega, by have := hR.2.2; omega⟩ (fun t J3 ht m3 h3 => ?_)
  obtain ⟨rfl, rfl⟩ := h3
  refine q_iload F 5 dL_law_595 rfl ?_
  refine q_icmp_eq F ht hr 602 dL_law_597 (by decide) (fun _ => ?_) (fun hne => absurd hw2.1 hne)
  refine q_iload F 5 dL_law_602 rfl ?_
  have fin : cW X (nc + 40) (ns + 900) 619 (lv0 E b i ++ [(5, iV r), (6, iV y)]) [] (gw E.1 lIds (lef E cL ((I2, R2), x2)) ++ gw E.1 mIds (mef E J3)) := by
    refine q_goto F 1320 dL_law_619 (by decide) ?_
    refine q_lv [0, 1, 2, 3, 4] rfl ?_
    exact kk I2 R2 x2 J3 hm2 m2 hw2.2.2
  refine n_perm List.perm_append_comm ?_
  refine q_if_ne F hr 619 dL_law_604 (by decide) (fun _ => q_wide (by omega) (by omega) fin) (fun h0 => ?_)
  refine q_aload_n F 3 dL_law_607 rfl rfl ?_
  refine q_iconst F dL_law_608 ?_
  refine l_in F hG dL_law_609 ?_
  refine q_iload F 6 dL_law_610 rfl ?_
  refine q_i2l F hy dL_law_612 ?_
  refine q_lcmp0 F (hw2.2.1 h0) dL_law_613 ?_
  refine q_if_eq F ti_0 619 dL_law_614 (by decide) (fun _ => q_wide (by omega) (by omega) fin) (fun h => absurd rfl h)
set_option maxHeartbeats 4000000 in
set_option maxRecDepth 100000 in
theorem kR_put {X : xC} {E : cE} {cL : ClassId} {b L nc ns : Nat} {xs : Nat → Int32} {i x0 : Int} {I : cI} {R : cR} {J : cI} (F : mF X E RL code bG) (hG : lG X.2.2.2.2 cL X.2.1.1) (hX : sX X b L xs) (hfl : X.1.2.1.stackTraces = false) (hN : X.2.2.1.2.2.2 = 9) (hR : rmL X nc ns) (i0 : 0 ≤ i) (i5 : i + 5 < L) (hm : cM I R) (hJ : mM J) (hI : INV I R J)
    (kk : ∀ (I' : cI) (R' : cR) (x' : Int) (J' : cI), cM I' R' → mM J' → INV I' R' J' → cW X (nc + 40) (ns + 900) 1320 (lv0 E b i) [] (wL E cL ((I', R'), x') J')) : cW X nc ns 622 (lv0 E b i) [] (wL E cL ((I, R), x0) J) := by
  refine q_aload_n F 1 dL_law_622 rfl rfl ?_
  refine q_aload_n F 0 dL_law_623 rfl rfl ?_
  refine q_iload F 4 dL_law_624 rfl ?_
  refine q_iconst F dL_law_626 ?_
  refine q_iadd F dL_law_627 ?_
  refine r_sld F hX (by omega) dL_law_628 ?_
  refine q_aload_n F 0 dL_law_629 rfl rfl ?_
  refine q_iload F 4 dL_law_630 rfl ?_
  refine q_iconst F dL_law_632 ?_
  refine q_iadd F dL_law_633 ?_
  refine r_sld F hX (by omega) dL_law_634 ?_
  refine q_aload_n F 3 dL_law_635 rfl rfl ?_
  unfold wL
  refine q_cSL F hG (kL_put (E := E) (cL := cL) (x0 := x0) (Qw := (Qo (wX12_put__ (xs (i + 1).toNat).toInt (xs (i + 2).toNat).toInt J))) hfl hm (ti_rng _) (ti_rng _) (by have h := st_put (a := (xs (i + 1).toNat).toInt) (b := (xs (i + 2).toNat).toInt) hI; rw [Qo_0, Qo_x (x0 := x0)] at h; exact h)) (bW wd709 wd710 wd0 wd711) rfl ⟨rfl, rfl⟩ (n := 4) (by decide +kernel) (rm_c ⟨hR.1, hR.2.1⟩ (by decide) (by decide)) (av := [.ref (E.1 0), iV (xs (i + 1).toNat).toInt, iV (xs (i + 2).toNat).toInt, .ref (E.1 2000)]) rfl rfl (Nat.le_of_ble_eq_true rfl) dL_law_636 ⟨by have := hR.2.2; omega, by have := hR.2.2; omega⟩ (fun r x2 I2 R2 hr hm2 hq => ?_)
  refine q_istore (lv' := lv0 E b i ++ [(5, iV r)]) F [1, 2, 3, 4, 5, 0] dL_law_639 (q_n hN (by decide)) rfl ?_
  refine q_aload_n F 2 dL_law_641 rfl rfl ?_
  refine q_aload_n F 0 dL_law_642 rfl rfl ?_
  refine q_iload F 4 dL_law_643 rfl ?_
  refine q_iconst F dL_law_645 ?_
  refine q_iadd F dL_law_646 ?_
  refine r_sld F hX (by omega) dL_law_647 ?_
  refine q_aload_n F 0 dL_law_648 rfl rfl ?_
  refine q_iload F 4 dL_law_649 rfl ?_
  refine q_iconst F dL_law_651 ?_
  refine q_iadd F dL_law_652 ?_
  refine r_sld F hX (by omega) dL_law_653 ?_
  refine n_perm List.perm_append_comm ?_
  refine q_ViM F (kcX12_put__ (E := E) hJ (ti_rng _) (ti_rng _) (hq : (wX12_put__ (xs (i + 1).toNat).toInt (xs (i + 2).toNat).toInt J _))) (by decide) meObj (ci := 10) rfl (bV wd1083 wd1084 wd1085 wd13 wd1086) rfl ⟨rfl, rfl⟩ ydX12_put__ (rm_c ⟨hR.1, hR.2.1⟩ (by decide) (by decide)) (av := [iV (xs (i + 1).toNat).toInt, iV (xs (i + 2).toNat).toInt]) rfl rfl (Nat.le_of_ble_eq_true rfl) dL_law_654 ⟨by have := hR.2.2; omega, by have := hR.2.2; omega⟩ (fun y J2 hy m2 hw2 => ?_)
  refine q_istore (lv' := lv0 E b i ++ [(5, iV r), (6, iV y)]) F [1, 2, 3, 4, 5, 6, 0] dL_law_657 (q_n hN (by decide)) rfl ?_
  refine q_aload_n F 2 dL_law_659 rfl rfl ?_
  refine q_ViM F (kcX12_thrown (E := E) m2 (Q := fun r' J' => r' = J2 1000 0 ∧ J' = J2) (⟨rfl, rfl⟩ : J2 1000 0 = J2 1000 0 ∧ J2 = J2)) (by decide) meObj (ci := 10) rfl (bV wd917 wd918 wd919 wd13 wd920) rfl ⟨rfl, rfl⟩ ydX12_thrown (rm_c ⟨hR.1, hR.2.1⟩ (by decide) (by decide)) (av := []) rfl rfl (Nat.le_of_ble_eq_true rfl) dL_law_660 ⟨by have := hR.2.2; omega, by have := hR.2.2; omega⟩ (fun t J3 ht m3 h3 => ?_)
  obtain ⟨rfl, rfl⟩ := h3
  refine q_iload F 5 dL_law_663 rfl ?_
  refine q_icmp_eq F ht hr 670 dL_law_665 (by decide) (fun _ => ?_) (fun hne => absurd hw2.1 hne)
  refine q_iload F 5 dL_law_670 rfl ?_
  have fin : cW X (nc + 40) (ns + 900) 687 (lv0 E b i ++ [(5, iV r), (6, iV y)]) [] (gw E.1 lIds (lef E cL ((I2, R2), x2)) ++ gw E.1 mIds (mef E J3)) := by
    refine q_goto F 1320 dL_law_687 (by decide) ?_
    refine q_lv [0, 1, 2, 3, 4] rfl ?_
    exact kk I2 R2 x2 J3 hm2 m2 hw2.2.2
  refine n_perm List.perm_append_comm ?_
  refine q_if_ne F hr 687 dL_law_672 (by decide) (fun _ => q_wide (by omega) (by omega) fin) (fun h0 => ?_)
  refine q_aload_n F 3 dL_law_675 rfl rfl ?_
  refine q_iconst F dL_law_676 ?_
  refine l_in F hG dL_law_677 ?_
  refine q_iload F 6 dL_law_678 rfl ?_
  refine q_i2l F hy dL_law_680 ?_
  refine q_lcmp0 F (hw2.2.1 h0) dL_law_681 ?_
  refine q_if_eq F ti_0 687 dL_law_682 (by decide) (fun _ => q_wide (by omega) (by omega) fin) (fun h => absurd rfl h)
set_option maxHeartbeats 4000000 in
set_option maxRecDepth 100000 in
theorem kR_value {X : xC} {E : cE} {cL : ClassId} {b L nc ns : Nat} {xs : Nat → Int32} {i x0 : Int} {I : cI} {R : cR} {J : cI} (F : mF X E RL code bG) (hG : lG X.2.2.2.2 cL X.2.1.1) (hX : sX X b L xs) (hfl : X.1.2.1.stackTraces = false) (hN : X.2.2.1.2.2.2 = 9) (hR : rmL X nc ns) (i0 : 0 ≤ i) (i5 : i + 5 < L) (hm : cM I R) (hJ : mM J) (hI : INV I R J)
    (kk : ∀ (I' : cI) (R' : cR) (x' : Int) (J' : cI), cM I' R' → mM J' → INV I' R' J' → cW X (nc + 40) (ns + 900) 1320 (lv0 E b i) [] (wL E cL ((I', R'), x') J')) : cW X nc ns 690 (lv0 E b i) [] (wL E cL ((I, R), x0) J) := by
  refine q_aload_n F 1 dL_law_690 rfl rfl ?_
  refine q_aload_n F 0 dL_law_691 rfl rfl ?_
  refine q_iload F 4 dL_law_692 rfl ?_
  refine q_iconst F dL_law_694 ?_
  refine q_iadd F dL_law_695 ?_
  refine r_sld F hX (by omega) dL_law_696 ?_
  refine q_aload_n F 3 dL_law_697 rfl rfl ?_
  unfold wL
  refine q_cSL F hG (kL_value (E := E) (cL := cL) (x0 := x0) (Qw := (Qo (wX12_value (xs (i + 1).toNat).toInt J))) hfl hm (ti_rng _) (by have h := st_value (a := (xs (i + 1).toNat).toInt) hI; rw [Qo_0, Qo_x (x0 := x0)] at h; exact h)) (bW wd721 wd722 wd0 wd723) rfl ⟨rfl, rfl⟩ (n := 3) (by decide +kernel) (rm_c ⟨hR.1, hR.2.1⟩ (by decide) (by decide)) (av := [.ref (E.1 0), iV (xs (i + 1).toNat).toInt, .ref (E.1 2000)]) rfl rfl (Nat.le_of_ble_eq_true rfl) dL_law_698 ⟨by have := hR.2.2; omega, by have := hR.2.2; omega⟩ (fun r x2 I2 R2 hr hm2 hq => ?_)
  refine q_istore (lv' := lv0 E b i ++ [(5, iV r)]) F [1, 2, 3, 4, 5, 0] dL_law_701 (q_n hN (by decide)) rfl ?_
  refine q_aload_n F 2 dL_law_703 rfl rfl ?_
  refine q_aload_n F 0 dL_law_704 rfl rfl ?_
  refine q_iload F 4 dL_law_705 rfl ?_
  refine q_iconst F dL_law_707 ?_
  refine q_iadd F dL_law_708 ?_
  refine r_sld F hX (by omega) dL_law_709 ?_
  refine n_perm List.perm_append_comm ?_
  refine q_ViM F (kcX12_value (E := E) hJ (ti_rng _) (hq : (wX12_value (xs (i + 1).toNat).toInt J _))) (by decide) meObj (ci := 10) rfl (bV wd1090 wd1091 wd1092 wd13 wd1093) rfl ⟨rfl, rfl⟩ ydX12_value (rm_c ⟨hR.1, hR.2.1⟩ (by decide) (by decide)) (av := [iV (xs (i + 1).toNat).toInt]) rfl rfl (Nat.le_of_ble_eq_true rfl) dL_law_710 ⟨by have := hR.2.2; omega, by have := hR.2.2; omega⟩ (fun y J2 hy m2 hw2 => ?_)
  refine q_istore (lv' := lv0 E b i ++ [(5, iV r), (6, iV y)]) F [1, 2, 3, 4, 5, 6, 0] dL_law_713 (q_n hN (by decide)) rfl ?_
  refine q_aload_n F 2 dL_law_715 rfl rfl ?_
  refine q_ViM F (kcX12_thrown (E := E) m2 (Q := fun r' J' => r' = J2 1000 0 ∧ J' = J2) (⟨rfl, rfl⟩ : J2 1000 0 = J2 1000 0 ∧ J2 = J2)) (by decide) meObj (ci := 10) rfl (bV wd917 wd918 wd919 wd13 wd920) rfl ⟨rfl, rfl⟩ ydX12_thrown (rm_c ⟨hR.1, hR.2.1⟩ (by decide) (by decide)) (av := []) rfl rfl (Nat.le_of_ble_eq_true rfl) dL_law_716 ⟨by have := hR.2.2; omega, by have := hR.2.2; omega⟩ (fun t J3 ht m3 h3 => ?_)
  obtain ⟨rfl, rfl⟩ := h3
  refine q_iload F 5 dL_law_719 rfl ?_
  refine q_icmp_eq F ht hr 726 dL_law_721 (by decide) (fun _ => ?_) (fun hne => absurd hw2.1 hne)
  refine q_iload F 5 dL_law_726 rfl ?_
  have fin : cW X (nc + 40) (ns + 900) 743 (lv0 E b i ++ [(5, iV r), (6, iV y)]) [] (gw E.1 lIds (lef E cL ((I2, R2), x2)) ++ gw E.1 mIds (mef E J3)) := by
    refine q_goto F 1320 dL_law_743 (by decide) ?_
    refine q_lv [0, 1, 2, 3, 4] rfl ?_
    exact kk I2 R2 x2 J3 hm2 m2 hw2.2.2
  refine n_perm List.perm_append_comm ?_
  refine q_if_ne F hr 743 dL_law_728 (by decide) (fun _ => q_wide (by omega) (by omega) fin) (fun h0 => ?_)
  refine q_aload_n F 3 dL_law_731 rfl rfl ?_
  refine q_iconst F dL_law_732 ?_
  refine l_in F hG dL_law_733 ?_
  refine q_iload F 6 dL_law_734 rfl ?_
  refine q_i2l F hy dL_law_736 ?_
  refine q_lcmp0 F (hw2.2.1 h0) dL_law_737 ?_
  refine q_if_eq F ti_0 743 dL_law_738 (by decide) (fun _ => q_wide (by omega) (by omega) fin) (fun h => absurd rfl h)
set_option maxHeartbeats 4000000 in
set_option maxRecDepth 100000 in
theorem kR_search {X : xC} {E : cE} {cL : ClassId} {b L nc ns : Nat} {xs : Nat → Int32} {i x0 : Int} {I : cI} {R : cR} {J : cI} (F : mF X E RL code bG) (hG : lG X.2.2.2.2 cL X.2.1.1) (hX : sX X b L xs) (hfl : X.1.2.1.stackTraces = false) (hN : X.2.2.1.2.2.2 = 9) (hR : rmL X nc ns) (i0 : 0 ≤ i) (i5 : i + 5 < L) (hm : cM I R) (hJ : mM J) (hI : INV I R J)
    (kk : ∀ (I' : cI) (R' : cR) (x' : Int) (J' : cI), cM I' R' → mM J' → INV I' R' J' → cW X (nc + 40) (ns + 900) 1320 (lv0 E b i) [] (wL E cL ((I', R'), x') J')) : cW X nc ns 759 (lv0 E b i) [] (wL E cL ((I, R), x0) J) := by
  refine q_aload_n F 1 dL_law_759 rfl rfl ?_
  refine q_aload_n F 0 dL_law_760 rfl rfl ?_
  refine q_iload F 4 dL_law_761 rfl ?_
  refine q_iconst F dL_law_763 ?_
  refine q_iadd F dL_law_764 ?_
  refine r_sld F hX (by omega) dL_law_765 ?_
  refine q_aload_n F 3 dL_law_766 rfl rfl ?_
  unfold wL
  refine q_cSL F hG (kL_search (E := E) (cL := cL) (x0 := x0) (Qw := (Qo (wX12_search (xs (i + 1).toNat).toInt J))) hfl hm (ti_rng _) (by have h := st_search (a := (xs (i + 1).toNat).toInt) hI; rw [Qo_0, Qo_x (x0 := x0)] at h; exact h)) (bW wd728 wd729 wd0 wd730) rfl ⟨rfl, rfl⟩ (n := 3) (by decide +kernel) (rm_c ⟨hR.1, hR.2.1⟩ (by decide) (by decide)) (av := [.ref (E.1 0), iV (xs (i + 1).toNat).toInt, .ref (E.1 2000)]) rfl rfl (Nat.le_of_ble_eq_true rfl) dL_law_767 ⟨by have := hR.2.2; omega, by have := hR.2.2; omega⟩ (fun r x2 I2 R2 hr hm2 hq => ?_)
  refine q_istore (lv' := lv0 E b i ++ [(5, iV r)]) F [1, 2, 3, 4, 5, 0] dL_law_770 (q_n hN (by decide)) rfl ?_
  refine q_aload_n F 2 dL_law_772 rfl rfl ?_
  refine q_aload_n F 0 dL_law_773 rfl rfl ?_
  refine q_iload F 4 dL_law_774 rfl ?_
  refine q_iconst F dL_law_776 ?_
  refine q_iadd F dL_law_777 ?_
  refine r_sld F hX (by omega) dL_law_778 ?_
  refine n_perm List.perm_append_comm ?_
  refine q_ViM F (kcX12_search (E := E) hJ (ti_rng _) (hq : (wX12_search (xs (i + 1).toNat).toInt J _))) (by decide) meObj (ci := 10) rfl (bV wd1098 wd1099 wd1100 wd13 wd1101) rfl ⟨rfl, rfl⟩ ydX12_search (rm_c ⟨hR.1, hR.2.1⟩ (by decide) (by decide)) (av := [iV (xs (i + 1).toNat).toInt]) rfl rfl (Nat.le_of_ble_eq_true rfl) dL_law_779 ⟨by have := hR.2.2; omega, by have := hR.2.2; omega⟩ (fun y J2 hy m2 hw2 => ?_)
  refine q_istore (lv' := lv0 E b i ++ [(5, iV r), (6, iV y)]) F [1, 2, 3, 4, 5, 6, 0] dL_law_782 (q_n hN (by decide)) rfl ?_
  refine q_aload_n F 2 dL_law_784 rfl rfl ?_
  refine q_ViM F (kcX12_thrown (E := E) m2 (Q := fun r' J' => r' = J2 1000 0 ∧ J' = J2) (⟨rfl, rfl⟩ : J2 1000 0 = J2 1000 0 ∧ J2 = J2)) (by decide) meObj (ci := 10) rfl (bV wd917 wd918 wd919 wd13 wd920) rfl ⟨rfl, rfl⟩ ydX12_thrown (rm_c ⟨hR.1, hR.2.1⟩ (by decide) (by decide)) (av := []) rfl rfl (Nat.le_of_ble_eq_true rfl) dL_law_785 ⟨by have := hR.2.2; omega, by have := hR.2.2; omega⟩ (fun t J3 ht m3 h3 => ?_)
  obtain ⟨rfl, rfl⟩ := h3
  refine q_iload F 5 dL_law_788 rfl ?_
  refine q_icmp_eq F ht hr 795 dL_law_790 (by decide) (fun _ => ?_) (fun hne => absurd hw2.1 hne)
  refine q_iload F 5 dL_law_795 rfl ?_
  have fin : cW X (nc + 40) (ns + 900) 812 (lv0 E b i ++ [(5, iV r), (6, iV y)]) [] (gw E.1 lIds (lef E cL ((I2, R2), x2)) ++ gw E.1 mIds (mef E J3)) := by
    refine q_goto F 1320 dL_law_812 (by decide) ?_
    refine q_lv [0, 1, 2, 3, 4] rfl ?_
    exact kk I2 R2 x2 J3 hm2 m2 hw2.2.2
  refine n_perm List.perm_append_comm ?_
  refine q_if_ne F hr 812 dL_law_797 (by decide) (fun _ => q_wide (by omega) (by omega) fin) (fun h0 => ?_)
  refine q_aload_n F 3 dL_law_800 rfl rfl ?_
  refine q_iconst F dL_law_801 ?_
  refine l_in F hG dL_law_802 ?_
  refine q_iload F 6 dL_law_803 rfl ?_
  refine q_i2l F hy dL_law_805 ?_
  refine q_lcmp0 F (hw2.2.1 h0) dL_law_806 ?_
  refine q_if_eq F ti_0 812 dL_law_807 (by decide) (fun _ => q_wide (by omega) (by omega) fin) (fun h => absurd rfl h)
set_option maxHeartbeats 4000000 in
set_option maxRecDepth 100000 in
theorem kR_solution {X : xC} {E : cE} {cL : ClassId} {b L nc ns : Nat} {xs : Nat → Int32} {i x0 : Int} {I : cI} {R : cR} {J : cI} (F : mF X E RL code bG) (hG : lG X.2.2.2.2 cL X.2.1.1) (hX : sX X b L xs) (hfl : X.1.2.1.stackTraces = false) (hN : X.2.2.1.2.2.2 = 9) (hR : rmL X nc ns) (i0 : 0 ≤ i) (i5 : i + 5 < L) (hm : cM I R) (hJ : mM J) (hI : INV I R J)
    (kk : ∀ (I' : cI) (R' : cR) (x' : Int) (J' : cI), cM I' R' → mM J' → INV I' R' J' → cW X (nc + 40) (ns + 900) 1320 (lv0 E b i) [] (wL E cL ((I', R'), x') J')) : cW X nc ns 815 (lv0 E b i) [] (wL E cL ((I, R), x0) J) := by
  refine q_aload_n F 1 dL_law_815 rfl rfl ?_
  refine q_aload_n F 0 dL_law_816 rfl rfl ?_
  refine q_iload F 4 dL_law_817 rfl ?_
  refine q_iconst F dL_law_819 ?_
  refine q_iadd F dL_law_820 ?_
  refine r_sld F hX (by omega) dL_law_821 ?_
  refine q_aload_n F 0 dL_law_822 rfl rfl ?_
  refine q_iload F 4 dL_law_823 rfl ?_
  refine q_iconst F dL_law_825 ?_
  refine q_iadd F dL_law_826 ?_
  refine r_sld F hX (by omega) dL_law_827 ?_
  refine q_aload_n F 3 dL_law_828 rfl rfl ?_
  unfold wL
  refine q_cSL F hG (kL_solution (E := E) (cL := cL) (x0 := x0) (Qw := (Qo (wX12_solution (xs (i + 1).toNat).toInt (xs (i + 2).toNat).toInt J))) hfl hm (ti_rng _) (ti_rng _) (by have h := st_solution (a := (xs (i + 1).toNat).toInt) (b := (xs (i + 2).toNat).toInt) hI; rw [Qo_0, Qo_x (x0 := x0)] at h; exact h)) (bW wd761 wd762 wd0 wd763) rfl ⟨rfl, rfl⟩ (n := 4) (by decide +kernel) (rm_c ⟨hR.1, hR.2.1⟩ (by decide) (by decide)) (av := [.ref (E.1 0), iV (xs (i + 1).toNat).toInt, iV (xs (i + 2).toNat).toInt, .ref (E.1 2000)]) rfl rfl (Nat.le_of_ble_eq_true rfl) dL_law_829 ⟨by have := hR.2.2; omega, by have := hR.2.2; omega⟩ (fun r x2 I2 R2 hr hm2 hq => ?_)
  refine q_istore (lv' := lv0 E b i ++ [(5, iV r)]) F [1, 2, 3, 4, 5, 0] dL_law_832 (q_n hN (by decide)) rfl ?_
  refine q_aload_n F 2 dL_law_834 rfl rfl ?_
  refine q_aload_n F 0 dL_law_835 rfl rfl ?_
  refine q_iload F 4 dL_law_836 rfl ?_
  refine q_iconst F dL_law_838 ?_
  refine q_iadd F dL_law_839 ?_
  refine r_sld F hX (by omega) dL_law_840 ?_
  refine q_aload_n F 0 dL_law_841 rfl rfl ?_
  refine q_iload F 4 dL_law_842 rfl ?_
  refine q_iconst F dL_law_844 ?_
  refine q_iadd F dL_law_845 ?_
  refine r_sld F hX (by omega) dL_law_846 ?_
  refine n_perm List.perm_append_comm ?_
  refine q_ViM F (kcX12_solution (E := E) hJ (ti_rng _) (ti_rng _) (hq : (wX12_solution (xs (i + 1).toNat).toInt (xs (i + 2).toNat).toInt J _))) (by decide) meObj (ci := 10) rfl (bV wd1114 wd1115 wd1116 wd13 wd1117) rfl ⟨rfl, rfl⟩ ydX12_solution (rm_c ⟨hR.1, hR.2.1⟩ (by decide) (by decide)) (av := [iV (xs (i + 1).toNat).toInt, iV (xs (i + 2).toNat).toInt]) rfl rfl (Nat.le_of_ble_eq_true rfl) dL_law_847 ⟨by have := hR.2.2; omega, by have := hR.2.2; omega⟩ (fun y J2 hy m2 hw2 => ?_)
  refine q_istore (lv' := lv0 E b i ++ [(5, iV r), (6, iV y)]) F [1, 2, 3, 4, 5, 6, 0] dL_law_850 (q_n hN (by decide)) rfl ?_
  refine q_aload_n F 2 dL_law_852 rfl rfl ?_
  refine q_ViM F (kcX12_thrown (E := E) m2 (Q := fun r' J' => r' = J2 1000 0 ∧ J' = J2) (⟨rfl, rfl⟩ : J2 1000 0 = J2 1000 0 ∧ J2 = J2)) (by decide) meObj (ci := 10) rfl (bV wd917 wd918 wd919 wd13 wd920) rfl ⟨rfl, rfl⟩ ydX12_thrown (rm_c ⟨hR.1, hR.2.1⟩ (by decide) (by decide)) (av := []) rfl rfl (Nat.le_of_ble_eq_true rfl) dL_law_853 ⟨by have := hR.2.2; omega, by have := hR.2.2; omega⟩ (fun t J3 ht m3 h3 => ?_)
  obtain ⟨rfl, rfl⟩ := h3
  refine q_iload F 5 dL_law_856 rfl ?_
  refine q_icmp_eq F ht hr 863 dL_law_858 (by decide) (fun _ => ?_) (fun hne => absurd hw2.1 hne)
  refine q_iload F 5 dL_law_863 rfl ?_
  have fin : cW X (nc + 40) (ns + 900) 880 (lv0 E b i ++ [(5, iV r), (6, iV y)]) [] (gw E.1 lIds (lef E cL ((I2, R2), x2)) ++ gw E.1 mIds (mef E J3)) := by
    refine q_goto F 1320 dL_law_880 (by decide) ?_
    refine q_lv [0, 1, 2, 3, 4] rfl ?_
    exact kk I2 R2 x2 J3 hm2 m2 hw2.2.2
  refine n_perm List.perm_append_comm ?_
  refine q_if_ne F hr 880 dL_law_865 (by decide) (fun _ => q_wide (by omega) (by omega) fin) (fun h0 => ?_)
  refine q_aload_n F 3 dL_law_868 rfl rfl ?_
  refine q_iconst F dL_law_869 ?_
  refine l_in F hG dL_law_870 ?_
  refine q_iload F 6 dL_law_871 rfl ?_
  refine q_i2l F hy dL_law_873 ?_
  refine q_lcmp0 F (hw2.2.1 h0) dL_law_874 ?_
  refine q_if_eq F ti_0 880 dL_law_875 (by decide) (fun _ => q_wide (by omega) (by omega) fin) (fun h => absurd rfl h)
set_option maxHeartbeats 4000000 in
set_option maxRecDepth 100000 in
theorem kR_isNeeded {X : xC} {E : cE} {cL : ClassId} {b L nc ns : Nat} {xs : Nat → Int32} {i x0 : Int} {I : cI} {R : cR} {J : cI} (F : mF X E RL code bG) (hG : lG X.2.2.2.2 cL X.2.1.1) (hX : sX X b L xs) (hfl : X.1.2.1.stackTraces = false) (hN : X.2.2.1.2.2.2 = 9) (hR : rmL X nc ns) (i0 : 0 ≤ i) (i5 : i + 5 < L) (hm : cM I R) (hJ : mM J) (hI : INV I R J)
    (kk : ∀ (I' : cI) (R' : cR) (x' : Int) (J' : cI), cM I' R' → mM J' → INV I' R' J' → cW X (nc + 40) (ns + 900) 1320 (lv0 E b i) [] (wL E cL ((I', R'), x') J')) : cW X nc ns 883 (lv0 E b i) [] (wL E cL ((I, R), x0) J) := by
  refine q_aload_n F 1 dL_law_883 rfl rfl ?_
  refine q_aload_n F 0 dL_law_884 rfl rfl ?_
  refine q_iload F 4 dL_law_885 rfl ?_
  refine q_iconst F dL_law_887 ?_
  refine q_iadd F dL_law_888 ?_
  refine r_sld F hX (by omega) dL_law_889 ?_
  refine q_aload_n F 3 dL_law_890 rfl rfl ?_
  unfold wL
  refine q_cSL F hG (kL_isNeeded (E := E) (cL := cL) (x0 := x0) (Qw := (fun r x I R => ∃ z : Int, (r = 0 → x = if z = 0 then 0 else 1) ∧ Qo (wX12_isNeeded (xs (i + 1).toNat).toInt J) r z I R)) hfl hm (ti_rng _) (Q := fun x I R => Qo (wX12_isNeeded (xs (i + 1).toNat).toInt J) 0 x I R) (fun x I R h => ⟨x, fun _ => rfl, h⟩) (Qx := fun k I R => 1 ≤ xf 0 0 1 k ∧ Qo (wX12_isNeeded (xs (i + 1).toNat).toInt J) (xf 0 0 1 k) x0 I R) (fun k I R h => ⟨h.1, x0, fun z => absurd h.1 (by rw [z]; decide), h.2⟩) (by have h := st_isNeeded (a := (xs (i + 1).toNat).toInt) hI; rw [Qo_0, Qo_x (x0 := x0)] at h; exact mono_isN h)) (bW wd769 wd770 wd0 wd771) rfl ⟨rfl, rfl⟩ (n := 3) (by decide +kernel) (rm_c ⟨hR.1, hR.2.1⟩ (by decide) (by decide)) (av := [.ref (E.1 0), iV (xs (i + 1).toNat).toInt, .ref (E.1 2000)]) rfl rfl (Nat.le_of_ble_eq_true rfl) dL_law_891 ⟨by have := hR.2.2; omega, by have := hR.2.2; omega⟩ (fun r x2 I2 R2 hr hm2 hq => ?_)
  refine q_istore (lv' := lv0 E b i ++ [(5, iV r)]) F [1, 2, 3, 4, 5, 0] dL_law_894 (q_n hN (by decide)) rfl ?_
  refine q_aload_n F 2 dL_law_896 rfl rfl ?_
  refine q_aload_n F 0 dL_law_897 rfl rfl ?_
  refine q_iload F 4 dL_law_898 rfl ?_
  refine q_iconst F dL_law_900 ?_
  refine q_iadd F dL_law_901 ?_
  refine r_sld F hX (by omega) dL_law_902 ?_
  obtain ⟨z, hz, hq⟩ := hq
  refine n_perm List.perm_append_comm ?_
  refine q_ViM F (kcX12_isNeeded (E := E) hJ (ti_rng _) (hq : (wX12_isNeeded (xs (i + 1).toNat).toInt J _))) (by decide) meObj (ci := 10) rfl (bV wd1118 wd1119 wd1120 wd13 wd1121) rfl ⟨rfl, rfl⟩ ydX12_isNeeded (rm_c ⟨hR.1, hR.2.1⟩ (by decide) (by decide)) (av := [iV (xs (i + 1).toNat).toInt]) rfl rfl (Nat.le_of_ble_eq_true rfl) dL_law_903 ⟨by have := hR.2.2; omega, by have := hR.2.2; omega⟩ (fun y J2 hy m2 hw2 => ?_)
  refine q_istore (lv' := lv0 E b i ++ [(5, iV r), (6, iV y)]) F [1, 2, 3, 4, 5, 6, 0] dL_law_906 (q_n hN (by decide)) rfl ?_
  refine q_aload_n F 2 dL_law_908 rfl rfl ?_
  refine q_ViM F (kcX12_thrown (E := E) m2 (Q := fun r' J' => r' = J2 1000 0 ∧ J' = J2) (⟨rfl, rfl⟩ : J2 1000 0 = J2 1000 0 ∧ J2 = J2)) (by decide) meObj (ci := 10) rfl (bV wd917 wd918 wd919 wd13 wd920) rfl ⟨rfl, rfl⟩ ydX12_thrown (rm_c ⟨hR.1, hR.2.1⟩ (by decide) (by decide)) (av := []) rfl rfl (Nat.le_of_ble_eq_true rfl) dL_law_909 ⟨by have := hR.2.2; omega, by have := hR.2.2; omega⟩ (fun t J3 ht m3 h3 => ?_)
  obtain ⟨rfl, rfl⟩ := h3
  refine q_iload F 5 dL_law_912 rfl ?_
  refine q_icmp_eq F ht hr 919 dL_law_914 (by decide) (fun _ => ?_) (fun hne => absurd hw2.1 hne)
  refine q_iload F 5 dL_law_919 rfl ?_
  have fin : cW X (nc + 40) (ns + 900) 943 (lv0 E b i ++ [(5, iV r), (6, iV y)]) [] (gw E.1 lIds (lef E cL ((I2, R2), x2)) ++ gw E.1 mIds (mef E J3)) := by
    refine q_goto F 1320 dL_law_943 (by decide) ?_
    refine q_lv [0, 1, 2, 3, 4] rfl ?_
    exact kk I2 R2 x2 J3 hm2 m2 hw2.2.2
  refine n_perm List.perm_append_comm ?_
  refine q_if_ne F hr 943 dL_law_921 (by decide) (fun _ => q_wide (by omega) (by omega) fin) (fun h0 => ?_)
  refine q_aload_n F 3 dL_law_924 rfl rfl ?_
  refine q_iconst F dL_law_925 ?_
  refine l_in F hG dL_law_926 ?_
  refine q_iload F 6 dL_law_927 rfl ?_
  have hzy : z = y := hw2.2.1 h0
  refine q_if_eq F hy 936 dL_law_929 (by decide) (fun hc => ?_) (fun hc => ?_)
  · refine q_lconst F (z := 0) dL_law_936 rfl ?_
    refine q_lcmp0 F ((hz h0).trans (if_pos (hzy.trans hc))) dL_law_937 ?_
    refine q_if_eq F ti_0 943 dL_law_938 (by decide) (fun _ => q_wide (by omega) (by omega) fin) (fun h => absurd rfl h)
  · refine q_lconst F (z := 1) dL_law_932 rfl ?_
    refine q_goto F 937 dL_law_933 (by decide) ?_
    refine q_lcmp0 F ((hz h0).trans (if_neg (fun e => hc (hzy.symm.trans e)))) dL_law_937 ?_
    refine q_if_eq F ti_0 943 dL_law_938 (by decide) (fun _ => q_wide (by omega) (by omega) fin) (fun h => absurd rfl h)
set_option maxHeartbeats 4000000 in
set_option maxRecDepth 100000 in
theorem kR_possible {X : xC} {E : cE} {cL : ClassId} {b L nc ns : Nat} {xs : Nat → Int32} {i x0 : Int} {I : cI} {R : cR} {J : cI} (F : mF X E RL code bG) (hG : lG X.2.2.2.2 cL X.2.1.1) (hX : sX X b L xs) (hfl : X.1.2.1.stackTraces = false) (hN : X.2.2.1.2.2.2 = 9) (hR : rmL X nc ns) (i0 : 0 ≤ i) (i5 : i + 5 < L) (hm : cM I R) (hJ : mM J) (hI : INV I R J)
    (kk : ∀ (I' : cI) (R' : cR) (x' : Int) (J' : cI), cM I' R' → mM J' → INV I' R' J' → cW X (nc + 40) (ns + 900) 1320 (lv0 E b i) [] (wL E cL ((I', R'), x') J')) : cW X nc ns 959 (lv0 E b i) [] (wL E cL ((I, R), x0) J) := by
  refine q_aload_n F 1 dL_law_959 rfl rfl ?_
  refine q_aload_n F 0 dL_law_960 rfl rfl ?_
  refine q_iload F 4 dL_law_961 rfl ?_
  refine q_iconst F dL_law_963 ?_
  refine q_iadd F dL_law_964 ?_
  refine r_sld F hX (by omega) dL_law_965 ?_
  refine q_aload_n F 3 dL_law_966 rfl rfl ?_
  unfold wL
  refine q_cSL F hG (kL_possible (E := E) (cL := cL) (x0 := x0) (Qw := (Qo (wX12_possible (xs (i + 1).toNat).toInt J))) hfl hm (ti_rng _) (by have h := st_possible (a := (xs (i + 1).toNat).toInt) hI; rw [Qo_0, Qo_x (x0 := x0)] at h; exact h)) (bW wd780 wd781 wd0 wd782) rfl ⟨rfl, rfl⟩ (n := 3) (by decide +kernel) (rm_c ⟨hR.1, hR.2.1⟩ (by decide) (by decide)) (av := [.ref (E.1 0), iV (xs (i + 1).toNat).toInt, .ref (E.1 2000)]) rfl rfl (Nat.le_of_ble_eq_true rfl) dL_law_967 ⟨by have := hR.2.2; omega, by have := hR.2.2; omega⟩ (fun r x2 I2 R2 hr hm2 hq => ?_)
  refine q_istore (lv' := lv0 E b i ++ [(5, iV r)]) F [1, 2, 3, 4, 5, 0] dL_law_970 (q_n hN (by decide)) rfl ?_
  refine q_aload_n F 2 dL_law_972 rfl rfl ?_
  refine q_aload_n F 0 dL_law_973 rfl rfl ?_
  refine q_iload F 4 dL_law_974 rfl ?_
  refine q_iconst F dL_law_976 ?_
  refine q_iadd F dL_law_977 ?_
  refine r_sld F hX (by omega) dL_law_978 ?_
  refine n_perm List.perm_append_comm ?_
  refine q_ViM F (kcX12_possible (E := E) hJ (ti_rng _) (hq : (wX12_possible (xs (i + 1).toNat).toInt J _))) (by decide) meObj (ci := 10) rfl (bV wd1126 wd1127 wd1128 wd13 wd1129) rfl ⟨rfl, rfl⟩ ydX12_possible (rm_c ⟨hR.1, hR.2.1⟩ (by decide) (by decide)) (av := [iV (xs (i + 1).toNat).toInt]) rfl rfl (Nat.le_of_ble_eq_true rfl) dL_law_979 ⟨by have := hR.2.2; omega, by have := hR.2.2; omega⟩ (fun y J2 hy m2 hw2 => ?_)
  refine q_istore (lv' := lv0 E b i ++ [(5, iV r), (6, iV y)]) F [1, 2, 3, 4, 5, 6, 0] dL_law_982 (q_n hN (by decide)) rfl ?_
  refine q_aload_n F 2 dL_law_984 rfl rfl ?_
  refine q_ViM F (kcX12_thrown (E := E) m2 (Q := fun r' J' => r' = J2 1000 0 ∧ J' = J2) (⟨rfl, rfl⟩ : J2 1000 0 = J2 1000 0 ∧ J2 = J2)) (by decide) meObj (ci := 10) rfl (bV wd917 wd918 wd919 wd13 wd920) rfl ⟨rfl, rfl⟩ ydX12_thrown (rm_c ⟨hR.1, hR.2.1⟩ (by decide) (by decide)) (av := []) rfl rfl (Nat.le_of_ble_eq_true rfl) dL_law_985 ⟨by have := hR.2.2; omega, by have := hR.2.2; omega⟩ (fun t J3 ht m3 h3 => ?_)
  obtain ⟨rfl, rfl⟩ := h3
  refine q_iload F 5 dL_law_988 rfl ?_
  refine q_icmp_eq F ht hr 995 dL_law_990 (by decide) (fun _ => ?_) (fun hne => absurd hw2.1 hne)
  refine q_iload F 5 dL_law_995 rfl ?_
  have fin : cW X (nc + 40) (ns + 900) 1012 (lv0 E b i ++ [(5, iV r), (6, iV y)]) [] (gw E.1 lIds (lef E cL ((I2, R2), x2)) ++ gw E.1 mIds (mef E J3)) := by
    refine q_goto F 1320 dL_law_1012 (by decide) ?_
    refine q_lv [0, 1, 2, 3, 4] rfl ?_
    exact kk I2 R2 x2 J3 hm2 m2 hw2.2.2
  refine n_perm List.perm_append_comm ?_
  refine q_if_ne F hr 1012 dL_law_997 (by decide) (fun _ => q_wide (by omega) (by omega) fin) (fun h0 => ?_)
  refine q_aload_n F 3 dL_law_1000 rfl rfl ?_
  refine q_iconst F dL_law_1001 ?_
  refine l_in F hG dL_law_1002 ?_
  refine q_iload F 6 dL_law_1003 rfl ?_
  refine q_i2l F hy dL_law_1005 ?_
  refine q_lcmp0 F (hw2.2.1 h0) dL_law_1006 ?_
  refine q_if_eq F ti_0 1012 dL_law_1007 (by decide) (fun _ => q_wide (by omega) (by omega) fin) (fun h => absurd rfl h)
set_option maxHeartbeats 4000000 in
set_option maxRecDepth 100000 in
theorem kR_hint {X : xC} {E : cE} {cL : ClassId} {b L nc ns : Nat} {xs : Nat → Int32} {i x0 : Int} {I : cI} {R : cR} {J : cI} (F : mF X E RL code bG) (hG : lG X.2.2.2.2 cL X.2.1.1) (hX : sX X b L xs) (hfl : X.1.2.1.stackTraces = false) (hN : X.2.2.1.2.2.2 = 9) (hR : rmL X nc ns) (i0 : 0 ≤ i) (i5 : i + 5 < L) (hm : cM I R) (hJ : mM J) (hI : INV I R J)
    (kk : ∀ (I' : cI) (R' : cR) (x' : Int) (J' : cI), cM I' R' → mM J' → INV I' R' J' → cW X (nc + 40) (ns + 900) 1320 (lv0 E b i) [] (wL E cL ((I', R'), x') J')) : cW X nc ns 1015 (lv0 E b i) [] (wL E cL ((I, R), x0) J) := by
  refine q_aload_n F 1 dL_law_1015 rfl rfl ?_
  refine q_aload_n F 0 dL_law_1016 rfl rfl ?_
  refine q_iload F 4 dL_law_1017 rfl ?_
  refine q_iconst F dL_law_1019 ?_
  refine q_iadd F dL_law_1020 ?_
  refine r_sld F hX (by omega) dL_law_1021 ?_
  refine q_aload_n F 3 dL_law_1022 rfl rfl ?_
  unfold wL
  refine q_cSL F hG (kL_hint (E := E) (cL := cL) (x0 := x0) (Qw := (Qo (wX12_hint (xs (i + 1).toNat).toInt J))) hfl hm (ti_rng _) (by have h := st_hint (a := (xs (i + 1).toNat).toInt) hI; rw [Qo_0, Qo_x (x0 := x0)] at h; exact h)) (bW wd787 wd788 wd0 wd789) rfl ⟨rfl, rfl⟩ (n := 3) (by decide +kernel) (rm_c ⟨hR.1, hR.2.1⟩ (by decide) (by decide)) (av := [.ref (E.1 0), iV (xs (i + 1).toNat).toInt, .ref (E.1 2000)]) rfl rfl (Nat.le_of_ble_eq_true rfl) dL_law_1023 ⟨by have := hR.2.2; omega, by have := hR.2.2; omega⟩ (fun r x2 I2 R2 hr hm2 hq => ?_)
  refine q_istore (lv' := lv0 E b i ++ [(5, iV r)]) F [1, 2, 3, 4, 5, 0] dL_law_1026 (q_n hN (by decide)) rfl ?_
  refine q_aload_n F 2 dL_law_1028 rfl rfl ?_
  refine q_aload_n F 0 dL_law_1029 rfl rfl ?_
  refine q_iload F 4 dL_law_1030 rfl ?_
  refine q_iconst F dL_law_1032 ?_
  refine q_iadd F dL_law_1033 ?_
  refine r_sld F hX (by omega) dL_law_1034 ?_
  refine n_perm List.perm_append_comm ?_
  refine q_ViM F (kcX12_hint (E := E) hJ (ti_rng _) (hq : (wX12_hint (xs (i + 1).toNat).toInt J _))) (by decide) meObj (ci := 10) rfl (bV wd1130 wd1131 wd1132 wd13 wd1133) rfl ⟨rfl, rfl⟩ ydX12_hint (rm_c ⟨hR.1, hR.2.1⟩ (by decide) (by decide)) (av := [iV (xs (i + 1).toNat).toInt]) rfl rfl (Nat.le_of_ble_eq_true rfl) dL_law_1035 ⟨by have := hR.2.2; omega, by have := hR.2.2; omega⟩ (fun y J2 hy m2 hw2 => ?_)
  refine q_istore (lv' := lv0 E b i ++ [(5, iV r), (6, iV y)]) F [1, 2, 3, 4, 5, 6, 0] dL_law_1038 (q_n hN (by decide)) rfl ?_
  refine q_aload_n F 2 dL_law_1040 rfl rfl ?_
  refine q_ViM F (kcX12_thrown (E := E) m2 (Q := fun r' J' => r' = J2 1000 0 ∧ J' = J2) (⟨rfl, rfl⟩ : J2 1000 0 = J2 1000 0 ∧ J2 = J2)) (by decide) meObj (ci := 10) rfl (bV wd917 wd918 wd919 wd13 wd920) rfl ⟨rfl, rfl⟩ ydX12_thrown (rm_c ⟨hR.1, hR.2.1⟩ (by decide) (by decide)) (av := []) rfl rfl (Nat.le_of_ble_eq_true rfl) dL_law_1041 ⟨by have := hR.2.2; omega, by have := hR.2.2; omega⟩ (fun t J3 ht m3 h3 => ?_)
  obtain ⟨rfl, rfl⟩ := h3
  refine q_iload F 5 dL_law_1044 rfl ?_
  refine q_icmp_eq F ht hr 1051 dL_law_1046 (by decide) (fun _ => ?_) (fun hne => absurd hw2.1 hne)
  refine q_iload F 5 dL_law_1051 rfl ?_
  have fin : cW X (nc + 40) (ns + 900) 1068 (lv0 E b i ++ [(5, iV r), (6, iV y)]) [] (gw E.1 lIds (lef E cL ((I2, R2), x2)) ++ gw E.1 mIds (mef E J3)) := by
    refine q_goto F 1320 dL_law_1068 (by decide) ?_
    refine q_lv [0, 1, 2, 3, 4] rfl ?_
    exact kk I2 R2 x2 J3 hm2 m2 hw2.2.2
  refine n_perm List.perm_append_comm ?_
  refine q_if_ne F hr 1068 dL_law_1053 (by decide) (fun _ => q_wide (by omega) (by omega) fin) (fun h0 => ?_)
  refine q_aload_n F 3 dL_law_1056 rfl rfl ?_
  refine q_iconst F dL_law_1057 ?_
  refine l_in F hG dL_law_1058 ?_
  refine q_iload F 6 dL_law_1059 rfl ?_
  refine q_i2l F hy dL_law_1061 ?_
  refine q_lcmp0 F (hw2.2.1 h0) dL_law_1062 ?_
  refine q_if_eq F ti_0 1068 dL_law_1063 (by decide) (fun _ => q_wide (by omega) (by omega) fin) (fun h => absurd rfl h)
set_option maxHeartbeats 4000000 in
set_option maxRecDepth 100000 in
theorem kR_reasoned {X : xC} {E : cE} {cL : ClassId} {b L nc ns : Nat} {xs : Nat → Int32} {i x0 : Int} {I : cI} {R : cR} {J : cI} (F : mF X E RL code bG) (hG : lG X.2.2.2.2 cL X.2.1.1) (hX : sX X b L xs) (hfl : X.1.2.1.stackTraces = false) (hN : X.2.2.1.2.2.2 = 9) (hR : rmL X nc ns) (i0 : 0 ≤ i) (i5 : i + 5 < L) (hm : cM I R) (hJ : mM J) (hI : INV I R J)
    (kk : ∀ (I' : cI) (R' : cR) (x' : Int) (J' : cI), cM I' R' → mM J' → INV I' R' J' → cW X (nc + 40) (ns + 900) 1320 (lv0 E b i) [] (wL E cL ((I', R'), x') J')) : cW X nc ns 1097 (lv0 E b i) [] (wL E cL ((I, R), x0) J) := by
  refine q_aload_n F 1 dL_law_1097 rfl rfl ?_
  refine q_aload_n F 0 dL_law_1098 rfl rfl ?_
  refine q_iload F 4 dL_law_1099 rfl ?_
  refine q_iconst F dL_law_1101 ?_
  refine q_iadd F dL_law_1102 ?_
  refine r_sld F hX (by omega) dL_law_1103 ?_
  refine q_aload_n F 3 dL_law_1104 rfl rfl ?_
  unfold wL
  refine q_cSL F hG (kL_reasoned (E := E) (cL := cL) (x0 := x0) (Qw := (Qo (wX12_reasoned (xs (i + 1).toNat).toInt J))) hfl hm (ti_rng _) (by have h := st_reasoned (a := (xs (i + 1).toNat).toInt) hI; rw [Qo_0, Qo_x (x0 := x0)] at h; exact h)) (bW wd795 wd796 wd0 wd797) rfl ⟨rfl, rfl⟩ (n := 3) (by decide +kernel) (rm_c ⟨hR.1, hR.2.1⟩ (by decide) (by decide)) (av := [.ref (E.1 0), iV (xs (i + 1).toNat).toInt, .ref (E.1 2000)]) rfl rfl (Nat.le_of_ble_eq_true rfl) dL_law_1105 ⟨by have := hR.2.2; omega, by have := hR.2.2; omega⟩ (fun r x2 I2 R2 hr hm2 hq => ?_)
  refine q_istore (lv' := lv0 E b i ++ [(5, iV r)]) F [1, 2, 3, 4, 5, 0] dL_law_1108 (q_n hN (by decide)) rfl ?_
  refine q_aload_n F 2 dL_law_1110 rfl rfl ?_
  refine q_aload_n F 0 dL_law_1111 rfl rfl ?_
  refine q_iload F 4 dL_law_1112 rfl ?_
  refine q_iconst F dL_law_1114 ?_
  refine q_iadd F dL_law_1115 ?_
  refine r_sld F hX (by omega) dL_law_1116 ?_
  refine n_perm List.perm_append_comm ?_
  refine q_ViM F (kcX12_reasoned (E := E) hJ (ti_rng _) (hq : (wX12_reasoned (xs (i + 1).toNat).toInt J _))) (by decide) meObj (ci := 10) rfl (bV wd1157 wd1158 wd1159 wd13 wd1160) rfl ⟨rfl, rfl⟩ ydX12_reasoned (rm_c ⟨hR.1, hR.2.1⟩ (by decide) (by decide)) (av := [iV (xs (i + 1).toNat).toInt]) rfl rfl (Nat.le_of_ble_eq_true rfl) dL_law_1117 ⟨by have := hR.2.2; omega, by have := hR.2.2; omega⟩ (fun y J2 hy m2 hw2 => ?_)
  refine q_istore (lv' := lv0 E b i ++ [(5, iV r), (6, iV y)]) F [1, 2, 3, 4, 5, 6, 0] dL_law_1120 (q_n hN (by decide)) rfl ?_
  refine q_aload_n F 2 dL_law_1122 rfl rfl ?_
  refine q_ViM F (kcX12_thrown (E := E) m2 (Q := fun r' J' => r' = J2 1000 0 ∧ J' = J2) (⟨rfl, rfl⟩ : J2 1000 0 = J2 1000 0 ∧ J2 = J2)) (by decide) meObj (ci := 10) rfl (bV wd917 wd918 wd919 wd13 wd920) rfl ⟨rfl, rfl⟩ ydX12_thrown (rm_c ⟨hR.1, hR.2.1⟩ (by decide) (by decide)) (av := []) rfl rfl (Nat.le_of_ble_eq_true rfl) dL_law_1123 ⟨by have := hR.2.2; omega, by have := hR.2.2; omega⟩ (fun t J3 ht m3 h3 => ?_)
  obtain ⟨rfl, rfl⟩ := h3
  refine q_iload F 5 dL_law_1126 rfl ?_
  refine q_icmp_eq F ht hr 1133 dL_law_1128 (by decide) (fun _ => ?_) (fun hne => absurd hw2.1 hne)
  refine q_iload F 5 dL_law_1133 rfl ?_
  have fin : cW X (nc + 40) (ns + 900) 1150 (lv0 E b i ++ [(5, iV r), (6, iV y)]) [] (gw E.1 lIds (lef E cL ((I2, R2), x2)) ++ gw E.1 mIds (mef E J3)) := by
    refine q_goto F 1320 dL_law_1150 (by decide) ?_
    refine q_lv [0, 1, 2, 3, 4] rfl ?_
    exact kk I2 R2 x2 J3 hm2 m2 hw2.2.2
  refine n_perm List.perm_append_comm ?_
  refine q_if_ne F hr 1150 dL_law_1135 (by decide) (fun _ => q_wide (by omega) (by omega) fin) (fun h0 => ?_)
  refine q_aload_n F 3 dL_law_1138 rfl rfl ?_
  refine q_iconst F dL_law_1139 ?_
  refine l_in F hG dL_law_1140 ?_
  refine q_iload F 6 dL_law_1141 rfl ?_
  refine q_i2l F hy dL_law_1143 ?_
  refine q_lcmp0 F (hw2.2.1 h0) dL_law_1144 ?_
  refine q_if_eq F ti_0 1150 dL_law_1145 (by decide) (fun _ => q_wide (by omega) (by omega) fin) (fun h => absurd rfl h)
set_option maxHeartbeats 4000000 in
set_option maxRecDepth 100000 in
theorem kR_make {X : xC} {E : cE} {cL : ClassId} {b L nc ns : Nat} {xs : Nat → Int32} {i x0 : Int} {I : cI} {R : cR} {J : cI} (F : mF X E RL code bG) (hG : lG X.2.2.2.2 cL X.2.1.1) (hX : sX X b L xs) (hfl : X.1.2.1.stackTraces = false) (hN : X.2.2.1.2.2.2 = 9) (hR : rmL X nc ns) (i0 : 0 ≤ i) (i5 : i + 5 < L) (hm : cM I R) (hJ : mM J) (hI : INV I R J)
    (kk : ∀ (I' : cI) (R' : cR) (x' : Int) (J' : cI), cM I' R' → mM J' → INV I' R' J' → cW X (nc + 40) (ns + 900) 1320 (lv0 E b i) [] (wL E cL ((I', R'), x') J')) : cW X nc ns 1153 (lv0 E b i) [] (wL E cL ((I, R), x0) J) := by
  refine q_aload_n F 1 dL_law_1153 rfl rfl ?_
  refine q_aload_n F 0 dL_law_1154 rfl rfl ?_
  refine q_iload F 4 dL_law_1155 rfl ?_
  refine q_iconst F dL_law_1157 ?_
  refine q_iadd F dL_law_1158 ?_
  refine r_sld F hX (by omega) dL_law_1159 ?_
  refine q_aload_n F 3 dL_law_1160 rfl rfl ?_
  unfold wL
  refine q_cSL F hG (kL_make (E := E) (cL := cL) (x0 := x0) (Qw := (Qo (wX12_make (xs (i + 1).toNat).toInt J))) hfl hm (ti_rng _) (by have h := st_make (a := (xs (i + 1).toNat).toInt) hI; rw [Qo_0, Qo_x (x0 := x0)] at h; exact h)) (bW wd799 wd800 wd0 wd801) rfl ⟨rfl, rfl⟩ (n := 3) (by decide +kernel) (rm_c ⟨hR.1, hR.2.1⟩ (by decide) (by decide)) (av := [.ref (E.1 0), iV (xs (i + 1).toNat).toInt, .ref (E.1 2000)]) rfl rfl (Nat.le_of_ble_eq_true rfl) dL_law_1161 ⟨by have := hR.2.2; omega, by have := hR.2.2; omega⟩ (fun r x2 I2 R2 hr hm2 hq => ?_)
  refine q_istore (lv' := lv0 E b i ++ [(5, iV r)]) F [1, 2, 3, 4, 5, 0] dL_law_1164 (q_n hN (by decide)) rfl ?_
  refine q_aload_n F 2 dL_law_1166 rfl rfl ?_
  refine q_aload_n F 0 dL_law_1167 rfl rfl ?_
  refine q_iload F 4 dL_law_1168 rfl ?_
  refine q_iconst F dL_law_1170 ?_
  refine q_iadd F dL_law_1171 ?_
  refine r_sld F hX (by omega) dL_law_1172 ?_
  refine n_perm List.perm_append_comm ?_
  refine q_ViM F (kcX12_make (E := E) hJ (ti_rng _) (hq : (wX12_make (xs (i + 1).toNat).toInt J _))) (by decide) meObj (ci := 10) rfl (bV wd1167 wd1168 wd1169 wd13 wd1170) rfl ⟨rfl, rfl⟩ ydX12_make (rm_c ⟨hR.1, hR.2.1⟩ (by decide) (by decide)) (av := [iV (xs (i + 1).toNat).toInt]) rfl rfl (Nat.le_of_ble_eq_true rfl) dL_law_1173 ⟨by have := hR.2.2; omega, by have := hR.2.2; omega⟩ (fun y J2 hy m2 hw2 => ?_)
  refine q_istore (lv' := lv0 E b i ++ [(5, iV r), (6, iV y)]) F [1, 2, 3, 4, 5, 6, 0] dL_law_1176 (q_n hN (by decide)) rfl ?_
  refine q_aload_n F 2 dL_law_1178 rfl rfl ?_
  refine q_ViM F (kcX12_thrown (E := E) m2 (Q := fun r' J' => r' = J2 1000 0 ∧ J' = J2) (⟨rfl, rfl⟩ : J2 1000 0 = J2 1000 0 ∧ J2 = J2)) (by decide) meObj (ci := 10) rfl (bV wd917 wd918 wd919 wd13 wd920) rfl ⟨rfl, rfl⟩ ydX12_thrown (rm_c ⟨hR.1, hR.2.1⟩ (by decide) (by decide)) (av := []) rfl rfl (Nat.le_of_ble_eq_true rfl) dL_law_1179 ⟨by have := hR.2.2; omega, by have := hR.2.2; omega⟩ (fun t J3 ht m3 h3 => ?_)
  obtain ⟨rfl, rfl⟩ := h3
  refine q_iload F 5 dL_law_1182 rfl ?_
  refine q_icmp_eq F ht hr 1189 dL_law_1184 (by decide) (fun _ => ?_) (fun hne => absurd hw2.1 hne)
  refine q_iload F 5 dL_law_1189 rfl ?_
  have fin : cW X (nc + 40) (ns + 900) 1206 (lv0 E b i ++ [(5, iV r), (6, iV y)]) [] (gw E.1 lIds (lef E cL ((I2, R2), x2)) ++ gw E.1 mIds (mef E J3)) := by
    refine q_goto F 1320 dL_law_1206 (by decide) ?_
    refine q_lv [0, 1, 2, 3, 4] rfl ?_
    exact kk I2 R2 x2 J3 hm2 m2 hw2.2.2
  refine n_perm List.perm_append_comm ?_
  refine q_if_ne F hr 1206 dL_law_1191 (by decide) (fun _ => q_wide (by omega) (by omega) fin) (fun h0 => ?_)
  refine q_aload_n F 3 dL_law_1194 rfl rfl ?_
  refine q_iconst F dL_law_1195 ?_
  refine l_in F hG dL_law_1196 ?_
  refine q_iload F 6 dL_law_1197 rfl ?_
  refine q_i2l F hy dL_law_1199 ?_
  refine q_lcmp0 F (hw2.2.1 h0) dL_law_1200 ?_
  refine q_if_eq F ti_0 1206 dL_law_1201 (by decide) (fun _ => q_wide (by omega) (by omega) fin) (fun h => absurd rfl h)
set_option maxHeartbeats 4000000 in
set_option maxRecDepth 100000 in
theorem kR_change {X : xC} {E : cE} {cL : ClassId} {b L nc ns : Nat} {xs : Nat → Int32} {i x0 : Int} {I : cI} {R : cR} {J : cI} (F : mF X E RL code bG) (hG : lG X.2.2.2.2 cL X.2.1.1) (hX : sX X b L xs) (hfl : X.1.2.1.stackTraces = false) (hN : X.2.2.1.2.2.2 = 9) (hR : rmL X nc ns) (i0 : 0 ≤ i) (i5 : i + 5 < L) (hm : cM I R) (hJ : mM J) (hI : INV I R J)
    (kk : ∀ (I' : cI) (R' : cR) (x' : Int) (J' : cI), cM I' R' → mM J' → INV I' R' J' → cW X (nc + 40) (ns + 900) 1320 (lv0 E b i) [] (wL E cL ((I', R'), x') J')) : cW X nc ns 1209 (lv0 E b i) [] (wL E cL ((I, R), x0) J) := by
  refine q_aload_n F 1 dL_law_1209 rfl rfl ?_
  refine q_aload_n F 0 dL_law_1210 rfl rfl ?_
  refine q_iload F 4 dL_law_1211 rfl ?_
  refine q_iconst F dL_law_1213 ?_
  refine q_iadd F dL_law_1214 ?_
  refine r_sld F hX (by omega) dL_law_1215 ?_
  refine q_aload_n F 3 dL_law_1216 rfl rfl ?_
  unfold wL
  refine q_cSL F hG (kL_change (E := E) (cL := cL) (x0 := x0) (Qw := (Qo (wX12_change (xs (i + 1).toNat).toInt J))) hfl hm (ti_rng _) (by have h := st_change (a := (xs (i + 1).toNat).toInt) hI; rw [Qo_0, Qo_x (x0 := x0)] at h; exact h)) (bW wd851 wd852 wd0 wd853) rfl ⟨rfl, rfl⟩ (n := 3) (by decide +kernel) (rm_c ⟨hR.1, hR.2.1⟩ (by decide) (by decide)) (av := [.ref (E.1 0), iV (xs (i + 1).toNat).toInt, .ref (E.1 2000)]) rfl rfl (Nat.le_of_ble_eq_true rfl) dL_law_1217 ⟨by have := hR.2.2; omega, by have := hR.2.2; omega⟩ (fun r x2 I2 R2 hr hm2 hq => ?_)
  refine q_istore (lv' := lv0 E b i ++ [(5, iV r)]) F [1, 2, 3, 4, 5, 0] dL_law_1220 (q_n hN (by decide)) rfl ?_
  refine q_aload_n F 2 dL_law_1222 rfl rfl ?_
  refine q_aload_n F 0 dL_law_1223 rfl rfl ?_
  refine q_iload F 4 dL_law_1224 rfl ?_
  refine q_iconst F dL_law_1226 ?_
  refine q_iadd F dL_law_1227 ?_
  refine r_sld F hX (by omega) dL_law_1228 ?_
  refine n_perm List.perm_append_comm ?_
  refine q_ViM F (kcX12_change (E := E) hJ (ti_rng _) (hq : (wX12_change (xs (i + 1).toNat).toInt J _))) (by decide) meObj (ci := 10) rfl (bV wd1179 wd1180 wd1181 wd13 wd1182) rfl ⟨rfl, rfl⟩ ydX12_change (rm_c ⟨hR.1, hR.2.1⟩ (by decide) (by decide)) (av := [iV (xs (i + 1).toNat).toInt]) rfl rfl (Nat.le_of_ble_eq_true rfl) dL_law_1229 ⟨by have := hR.2.2; omega, by have := hR.2.2; omega⟩ (fun y J2 hy m2 hw2 => ?_)
  refine q_istore (lv' := lv0 E b i ++ [(5, iV r), (6, iV y)]) F [1, 2, 3, 4, 5, 6, 0] dL_law_1232 (q_n hN (by decide)) rfl ?_
  refine q_aload_n F 2 dL_law_1234 rfl rfl ?_
  refine q_ViM F (kcX12_thrown (E := E) m2 (Q := fun r' J' => r' = J2 1000 0 ∧ J' = J2) (⟨rfl, rfl⟩ : J2 1000 0 = J2 1000 0 ∧ J2 = J2)) (by decide) meObj (ci := 10) rfl (bV wd917 wd918 wd919 wd13 wd920) rfl ⟨rfl, rfl⟩ ydX12_thrown (rm_c ⟨hR.1, hR.2.1⟩ (by decide) (by decide)) (av := []) rfl rfl (Nat.le_of_ble_eq_true rfl) dL_law_1235 ⟨by have := hR.2.2; omega, by have := hR.2.2; omega⟩ (fun t J3 ht m3 h3 => ?_)
  obtain ⟨rfl, rfl⟩ := h3
  refine q_iload F 5 dL_law_1238 rfl ?_
  refine q_icmp_eq F ht hr 1245 dL_law_1240 (by decide) (fun _ => ?_) (fun hne => absurd hw2.1 hne)
  refine q_iload F 5 dL_law_1245 rfl ?_
  have fin : cW X (nc + 40) (ns + 900) 1262 (lv0 E b i ++ [(5, iV r), (6, iV y)]) [] (gw E.1 lIds (lef E cL ((I2, R2), x2)) ++ gw E.1 mIds (mef E J3)) := by
    refine q_goto F 1320 dL_law_1262 (by decide) ?_
    refine q_lv [0, 1, 2, 3, 4] rfl ?_
    exact kk I2 R2 x2 J3 hm2 m2 hw2.2.2
  refine n_perm List.perm_append_comm ?_
  refine q_if_ne F hr 1262 dL_law_1247 (by decide) (fun _ => q_wide (by omega) (by omega) fin) (fun h0 => ?_)
  refine q_aload_n F 3 dL_law_1250 rfl rfl ?_
  refine q_iconst F dL_law_1251 ?_
  refine l_in F hG dL_law_1252 ?_
  refine q_iload F 6 dL_law_1253 rfl ?_
  refine q_i2l F hy dL_law_1255 ?_
  refine q_lcmp0 F (hw2.2.1 h0) dL_law_1256 ?_
  refine q_if_eq F ti_0 1262 dL_law_1257 (by decide) (fun _ => q_wide (by omega) (by omega) fin) (fun h => absurd rfl h)
