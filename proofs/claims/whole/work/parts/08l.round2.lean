/-! ===== the law's rounds that throw nothing ===== -/
set_option maxHeartbeats 4000000 in
set_option maxRecDepth 100000 in
theorem kR_compile {X : xC} {E : cE} {cL : ClassId} {b L nc ns : Nat} {xs : Nat → Int32} {i x0 : Int} {I : cI} {R : cR} {J : cI} (F : mF X E RL code bG) (hG : lG X.2.2.2.2 cL X.2.1.1) (hX : sX X b L xs) (hfl : X.1.2.1.stackTraces = false) (hN : X.2.2.1.2.2.2 = 9) (hR : rmL X nc ns) (i0 : 0 ≤ i) (i5 : i + 5 < L) (hm : cM I R) (hJ : mM J) (hI : INV I R J)
    (kk : ∀ (I' : cI) (R' : cR) (x' : Int) (J' : cI), cM I' R' → mM J' → INV I' R' J' → cW X (nc + 40) (ns + 900) 1320 (lv0 E b i) [] (wL E cL ((I', R'), x') J')) : cW X nc ns 316 (lv0 E b i) [] (wL E cL ((I, R), x0) J) := by
  refine q_aload_n F 1 dL_law_316 rfl rfl ?_
  unfold wL
  rw [l_split]
  refine q_Vi F (kcX11_compile (E := E) hm (st_compile hI)) (cIds_in (show ckd 0 = 9 ∧ 0 < 353 by decide).2) (ceMill (show ckd 0 = 9 ∧ 0 < 353 by decide).1) (ci := 9) rfl (bV wd205 wd206 wd207 wd1 wd208) rfl ⟨rfl, rfl⟩ ydX11_compile (rm_c ⟨hR.1, hR.2.1⟩ (by decide) (by decide)) (av := []) rfl rfl (Nat.le_of_ble_eq_true rfl) dL_law_317 ⟨by have := hR.2.2; omega, by have := hR.2.2; omega⟩ (fun r I2 R2 hr hm2 hq => ?_)
  refine l_join ?_
  refine q_aload_n F 2 dL_law_320 rfl rfl ?_
  refine n_perm List.perm_append_comm ?_
  refine q_ViM F (kcX12_compile (E := E) hJ (hq : (wX12_compile J _))) (by decide) meObj (ci := 10) rfl (bV wd935 wd936 wd937 wd13 wd938) rfl ⟨rfl, rfl⟩ ydX12_compile (rm_c ⟨hR.1, hR.2.1⟩ (by decide) (by decide)) (av := []) rfl rfl (Nat.le_of_ble_eq_true rfl) dL_law_321 ⟨by have := hR.2.2; omega, by have := hR.2.2; omega⟩ (fun y J2 hy m2 hw2 => ?_)
  refine n_perm List.perm_append_comm ?_
  refine q_icmp_eq F hr hy 1320 dL_law_324 (by decide) (fun _ => q_wide (by omega) (by omega) (kk I2 R2 x0 J2 hm2 m2 hw2.2.2)) (fun hne => absurd hw2.2.1 hne)
set_option maxHeartbeats 4000000 in
set_option maxRecDepth 100000 in
theorem kR_errorAt {X : xC} {E : cE} {cL : ClassId} {b L nc ns : Nat} {xs : Nat → Int32} {i x0 : Int} {I : cI} {R : cR} {J : cI} (F : mF X E RL code bG) (hG : lG X.2.2.2.2 cL X.2.1.1) (hX : sX X b L xs) (hfl : X.1.2.1.stackTraces = false) (hN : X.2.2.1.2.2.2 = 9) (hR : rmL X nc ns) (i0 : 0 ≤ i) (i5 : i + 5 < L) (hm : cM I R) (hJ : mM J) (hI : INV I R J)
    (kk : ∀ (I' : cI) (R' : cR) (x' : Int) (J' : cI), cM I' R' → mM J' → INV I' R' J' → cW X (nc + 40) (ns + 900) 1320 (lv0 E b i) [] (wL E cL ((I', R'), x') J')) : cW X nc ns 329 (lv0 E b i) [] (wL E cL ((I, R), x0) J) := by
  refine q_aload_n F 1 dL_law_329 rfl rfl ?_
  unfold wL
  rw [l_split]
  refine q_Vi F (kcX11_errorAt (E := E) hm (st_errorAt hI)) (cIds_in (show ckd 0 = 9 ∧ 0 < 353 by decide).2) (ceMill (show ckd 0 = 9 ∧ 0 < 353 by decide).1) (ci := 9) rfl (bV wd410 wd411 wd412 wd1 wd413) rfl ⟨rfl, rfl⟩ ydX11_errorAt (rm_c ⟨hR.1, hR.2.1⟩ (by decide) (by decide)) (av := []) rfl rfl (Nat.le_of_ble_eq_true rfl) dL_law_330 ⟨by have := hR.2.2; omega, by have := hR.2.2; omega⟩ (fun r I2 R2 hr hm2 hq => ?_)
  refine l_join ?_
  refine q_aload_n F 2 dL_law_333 rfl rfl ?_
  refine n_perm List.perm_append_comm ?_
  refine q_ViM F (kcX12_errorAt (E := E) hJ (hq : (wX12_errorAt J _))) (by decide) meObj (ci := 10) rfl (bV wd1007 wd1008 wd1009 wd13 wd1010) rfl ⟨rfl, rfl⟩ ydX12_errorAt (rm_c ⟨hR.1, hR.2.1⟩ (by decide) (by decide)) (av := []) rfl rfl (Nat.le_of_ble_eq_true rfl) dL_law_334 ⟨by have := hR.2.2; omega, by have := hR.2.2; omega⟩ (fun y J2 hy m2 hw2 => ?_)
  refine n_perm List.perm_append_comm ?_
  refine q_icmp_eq F hr hy 1320 dL_law_337 (by decide) (fun _ => q_wide (by omega) (by omega) (kk I2 R2 x0 J2 hm2 m2 hw2.2.2)) (fun hne => absurd hw2.2.1 hne)
set_option maxHeartbeats 4000000 in
set_option maxRecDepth 100000 in
theorem kR_clear {X : xC} {E : cE} {cL : ClassId} {b L nc ns : Nat} {xs : Nat → Int32} {i x0 : Int} {I : cI} {R : cR} {J : cI} (F : mF X E RL code bG) (hG : lG X.2.2.2.2 cL X.2.1.1) (hX : sX X b L xs) (hfl : X.1.2.1.stackTraces = false) (hN : X.2.2.1.2.2.2 = 9) (hR : rmL X nc ns) (i0 : 0 ≤ i) (i5 : i + 5 < L) (hm : cM I R) (hJ : mM J) (hI : INV I R J)
    (kk : ∀ (I' : cI) (R' : cR) (x' : Int) (J' : cI), cM I' R' → mM J' → INV I' R' J' → cW X (nc + 40) (ns + 900) 1320 (lv0 E b i) [] (wL E cL ((I', R'), x') J')) : cW X nc ns 746 (lv0 E b i) [] (wL E cL ((I, R), x0) J) := by
  refine q_aload_n F 1 dL_law_746 rfl rfl ?_
  unfold wL
  rw [l_split]
  refine q_Vi F (kcX11_clear (E := E) hm (st_clear hI)) (cIds_in (show ckd 0 = 9 ∧ 0 < 353 by decide).2) (ceMill (show ckd 0 = 9 ∧ 0 < 353 by decide).1) (ci := 9) rfl (bV wd414 wd415 wd416 wd1 wd417) rfl ⟨rfl, rfl⟩ ydX11_clear (rm_c ⟨hR.1, hR.2.1⟩ (by decide) (by decide)) (av := []) rfl rfl (Nat.le_of_ble_eq_true rfl) dL_law_747 ⟨by have := hR.2.2; omega, by have := hR.2.2; omega⟩ (fun r I2 R2 hr hm2 hq => ?_)
  refine l_join ?_
  refine q_aload_n F 2 dL_law_750 rfl rfl ?_
  refine n_perm List.perm_append_comm ?_
  refine q_ViM F (kcX12_clear (E := E) hJ (hq : (wX12_clear J _))) (by decide) meObj (ci := 10) rfl (bV wd1094 wd1095 wd1096 wd13 wd1097) rfl ⟨rfl, rfl⟩ ydX12_clear (rm_c ⟨hR.1, hR.2.1⟩ (by decide) (by decide)) (av := []) rfl rfl (Nat.le_of_ble_eq_true rfl) dL_law_751 ⟨by have := hR.2.2; omega, by have := hR.2.2; omega⟩ (fun y J2 hy m2 hw2 => ?_)
  refine n_perm List.perm_append_comm ?_
  refine q_icmp_eq F hr hy 1320 dL_law_754 (by decide) (fun _ => q_wide (by omega) (by omega) (kk I2 R2 x0 J2 hm2 m2 hw2.2.2)) (fun hne => absurd hw2.2.1 hne)
set_option maxHeartbeats 4000000 in
set_option maxRecDepth 100000 in
theorem kR_look {X : xC} {E : cE} {cL : ClassId} {b L nc ns : Nat} {xs : Nat → Int32} {i x0 : Int} {I : cI} {R : cR} {J : cI} (F : mF X E RL code bG) (hG : lG X.2.2.2.2 cL X.2.1.1) (hX : sX X b L xs) (hfl : X.1.2.1.stackTraces = false) (hN : X.2.2.1.2.2.2 = 9) (hR : rmL X nc ns) (i0 : 0 ≤ i) (i5 : i + 5 < L) (hm : cM I R) (hJ : mM J) (hI : INV I R J)
    (kk : ∀ (I' : cI) (R' : cR) (x' : Int) (J' : cI), cM I' R' → mM J' → INV I' R' J' → cW X (nc + 40) (ns + 900) 1320 (lv0 E b i) [] (wL E cL ((I', R'), x') J')) : cW X nc ns 946 (lv0 E b i) [] (wL E cL ((I, R), x0) J) := by
  refine q_aload_n F 1 dL_law_946 rfl rfl ?_
  unfold wL
  rw [l_split]
  refine q_Vi F (kcX11_look (E := E) hm (st_look hI)) (cIds_in (show ckd 0 = 9 ∧ 0 < 353 by decide).2) (ceMill (show ckd 0 = 9 ∧ 0 < 353 by decide).1) (ci := 9) rfl (bV wd424 wd425 wd426 wd1 wd427) rfl ⟨rfl, rfl⟩ ydX11_look (rm_c ⟨hR.1, hR.2.1⟩ (by decide) (by decide)) (av := []) rfl rfl (Nat.le_of_ble_eq_true rfl) dL_law_947 ⟨by have := hR.2.2; omega, by have := hR.2.2; omega⟩ (fun r I2 R2 hr hm2 hq => ?_)
  refine l_join ?_
  refine q_aload_n F 2 dL_law_950 rfl rfl ?_
  refine n_perm List.perm_append_comm ?_
  refine q_ViM F (kcX12_look_ (E := E) hJ (hq : (wX12_look_ J _))) (by decide) meObj (ci := 10) rfl (bV wd1122 wd1123 wd1124 wd13 wd1125) rfl ⟨rfl, rfl⟩ ydX12_look_ (rm_c ⟨hR.1, hR.2.1⟩ (by decide) (by decide)) (av := []) rfl rfl (Nat.le_of_ble_eq_true rfl) dL_law_951 ⟨by have := hR.2.2; omega, by have := hR.2.2; omega⟩ (fun y J2 hy m2 hw2 => ?_)
  refine n_perm List.perm_append_comm ?_
  refine q_icmp_eq F hr hy 1320 dL_law_954 (by decide) (fun _ => q_wide (by omega) (by omega) (kk I2 R2 x0 J2 hm2 m2 hw2.2.2)) (fun hne => absurd hw2.2.1 hne)
set_option maxHeartbeats 4000000 in
set_option maxRecDepth 100000 in
theorem kR_step {X : xC} {E : cE} {cL : ClassId} {b L nc ns : Nat} {xs : Nat → Int32} {i x0 : Int} {I : cI} {R : cR} {J : cI} (F : mF X E RL code bG) (hG : lG X.2.2.2.2 cL X.2.1.1) (hX : sX X b L xs) (hfl : X.1.2.1.stackTraces = false) (hN : X.2.2.1.2.2.2 = 9) (hR : rmL X nc ns) (i0 : 0 ≤ i) (i5 : i + 5 < L) (hm : cM I R) (hJ : mM J) (hI : INV I R J)
    (kk : ∀ (I' : cI) (R' : cR) (x' : Int) (J' : cI), cM I' R' → mM J' → INV I' R' J' → cW X (nc + 40) (ns + 900) 1320 (lv0 E b i) [] (wL E cL ((I', R'), x') J')) : cW X nc ns 1071 (lv0 E b i) [] (wL E cL ((I, R), x0) J) := by
  refine q_aload_n F 1 dL_law_1071 rfl rfl ?_
  unfold wL
  rw [l_split]
  refine q_Vi F (kcX11_step (E := E) hm (st_step hI)) (cIds_in (show ckd 0 = 9 ∧ 0 < 353 by decide).2) (ceMill (show ckd 0 = 9 ∧ 0 < 353 by decide).1) (ci := 9) rfl (bV wd438 wd439 wd440 wd1 wd441) rfl ⟨rfl, rfl⟩ ydX11_step (rm_c ⟨hR.1, hR.2.1⟩ (by decide) (by decide)) (av := []) rfl rfl (Nat.le_of_ble_eq_true rfl) dL_law_1072 ⟨by have := hR.2.2; omega, by have := hR.2.2; omega⟩ (fun r I2 R2 hr hm2 hq => ?_)
  refine l_join ?_
  refine q_aload_n F 2 dL_law_1075 rfl rfl ?_
  refine n_perm List.perm_append_comm ?_
  refine q_ViM F (kcX12_step (E := E) hJ (hq : (wX12_step J _))) (by decide) meObj (ci := 10) rfl (bV wd1146 wd1147 wd1148 wd13 wd1149) rfl ⟨rfl, rfl⟩ ydX12_step (rm_c ⟨hR.1, hR.2.1⟩ (by decide) (by decide)) (av := []) rfl rfl (Nat.le_of_ble_eq_true rfl) dL_law_1076 ⟨by have := hR.2.2; omega, by have := hR.2.2; omega⟩ (fun y J2 hy m2 hw2 => ?_)
  refine n_perm List.perm_append_comm ?_
  refine q_icmp_eq F hr hy 1320 dL_law_1079 (by decide) (fun _ => q_wide (by omega) (by omega) (kk I2 R2 x0 J2 hm2 m2 hw2.2.2)) (fun hne => absurd hw2.2.1 hne)
set_option maxHeartbeats 4000000 in
set_option maxRecDepth 100000 in
theorem kR_reason {X : xC} {E : cE} {cL : ClassId} {b L nc ns : Nat} {xs : Nat → Int32} {i x0 : Int} {I : cI} {R : cR} {J : cI} (F : mF X E RL code bG) (hG : lG X.2.2.2.2 cL X.2.1.1) (hX : sX X b L xs) (hfl : X.1.2.1.stackTraces = false) (hN : X.2.2.1.2.2.2 = 9) (hR : rmL X nc ns) (i0 : 0 ≤ i) (i5 : i + 5 < L) (hm : cM I R) (hJ : mM J) (hI : INV I R J)
    (kk : ∀ (I' : cI) (R' : cR) (x' : Int) (J' : cI), cM I' R' → mM J' → INV I' R' J' → cW X (nc + 40) (ns + 900) 1320 (lv0 E b i) [] (wL E cL ((I', R'), x') J')) : cW X nc ns 1084 (lv0 E b i) [] (wL E cL ((I, R), x0) J) := by
  refine q_aload_n F 1 dL_law_1084 rfl rfl ?_
  unfold wL
  rw [l_split]
  refine q_Vi F (kcX11_reason (E := E) hm (st_reason hI)) (cIds_in (show ckd 0 = 9 ∧ 0 < 353 by decide).2) (ceMill (show ckd 0 = 9 ∧ 0 < 353 by decide).1) (ci := 9) rfl (bV wd498 wd499 wd500 wd1 wd501) rfl ⟨rfl, rfl⟩ ydX11_reason (rm_c ⟨hR.1, hR.2.1⟩ (by decide) (by decide)) (av := []) rfl rfl (Nat.le_of_ble_eq_true rfl) dL_law_1085 ⟨by have := hR.2.2; omega, by have := hR.2.2; omega⟩ (fun r I2 R2 hr hm2 hq => ?_)
  refine l_join ?_
  refine q_aload_n F 2 dL_law_1088 rfl rfl ?_
  refine n_perm List.perm_append_comm ?_
  refine q_ViM F (kcX12_reason (E := E) hJ (hq : (wX12_reason J _))) (by decide) meObj (ci := 10) rfl (bV wd1150 wd1151 wd1152 wd13 wd1153) rfl ⟨rfl, rfl⟩ ydX12_reason (rm_c ⟨hR.1, hR.2.1⟩ (by decide) (by decide)) (av := []) rfl rfl (Nat.le_of_ble_eq_true rfl) dL_law_1089 ⟨by have := hR.2.2; omega, by have := hR.2.2; omega⟩ (fun y J2 hy m2 hw2 => ?_)
  refine n_perm List.perm_append_comm ?_
  refine q_icmp_eq F hr hy 1320 dL_law_1092 (by decide) (fun _ => q_wide (by omega) (by omega) (kk I2 R2 x0 J2 hm2 m2 hw2.2.2)) (fun hne => absurd hw2.2.1 hne)
set_option maxHeartbeats 4000000 in
set_option maxRecDepth 100000 in
theorem kR_digest {X : xC} {E : cE} {cL : ClassId} {b L nc ns : Nat} {xs : Nat → Int32} {i x0 : Int} {I : cI} {R : cR} {J : cI} (F : mF X E RL code bG) (hG : lG X.2.2.2.2 cL X.2.1.1) (hX : sX X b L xs) (hfl : X.1.2.1.stackTraces = false) (hN : X.2.2.1.2.2.2 = 9) (hR : rmL X nc ns) (i0 : 0 ≤ i) (i5 : i + 5 < L) (hm : cM I R) (hJ : mM J) (hI : INV I R J)
    (kk : ∀ (I' : cI) (R' : cR) (x' : Int) (J' : cI), cM I' R' → mM J' → INV I' R' J' → cW X (nc + 40) (ns + 900) 1320 (lv0 E b i) [] (wL E cL ((I', R'), x') J')) : cW X nc ns 1306 (lv0 E b i) [] (wL E cL ((I, R), x0) J) := by
  refine q_aload_n F 1 dL_law_1306 rfl rfl ?_
  unfold wL
  rw [l_split]
  refine q_Vj F (kcX11_digest (E := E) hfl hm (st_digest hI)) (cIds_in (show ckd 0 = 9 ∧ 0 < 353 by decide).2) (ceMill (show ckd 0 = 9 ∧ 0 < 353 by decide).1) (ci := 9) rfl (bV wd518 wd519 wd520 wd1 wd521) rfl ⟨rfl, rfl⟩ ydX11_digest (rm_c ⟨hR.1, hR.2.1⟩ (by decide) (by decide)) (av := []) rfl rfl (Nat.le_of_ble_eq_true rfl) dL_law_1307 ⟨by have := hR.2.2; omega, by have := hR.2.2; omega⟩ (fun r I2 R2 hm2 hq => ?_)
  refine l_join ?_
  refine q_aload_n F 2 dL_law_1310 rfl rfl ?_
  refine n_perm List.perm_append_comm ?_
  refine q_VjM F (kcX12_digest (E := E) hJ (hq : (wX12_digest J _))) (by decide) meObj (ci := 10) rfl (bV wd1187 wd1188 wd1189 wd13 wd1190) rfl ⟨rfl, rfl⟩ ydX12_digest (rm_c ⟨hR.1, hR.2.1⟩ (by decide) (by decide)) (av := []) rfl rfl (Nat.le_of_ble_eq_true rfl) dL_law_1311 ⟨by have := hR.2.2; omega, by have := hR.2.2; omega⟩ (fun y J2 m2 hw2 => ?_)
  refine n_perm List.perm_append_comm ?_
  refine q_lcmp0 F hw2.2.1 dL_law_1314 ?_
  exact q_if_eq F ti_0 1320 dL_law_1315 (by decide) (fun _ => q_wide (by omega) (by omega) (kk I2 R2 x0 J2 hm2 m2 hw2.2.2)) (fun h => absurd rfl h)
theorem q_dstore {X : xC} {E : cE} {own : String} {cc : ByteArray} {Ts : List Cond} {nc ns pc : Nat} {lv lv' : List (Nat × Value)} {st : List Value} {ws : va_W} (F : mF X E own cc Ts) (ks : List Nat) {i : Nat} {x : UInt64} (hd : decode cc pc = .ok (.dstore i, 2)) (hn : i + 1 < X.2.2.1.2.2.2) (h : lv_pick ((i, .double x) :: lv.filter (fun q => !(q.1 == i) && (!(q.1 == i + 1) && !(q.1 + 1 == i && q.2.category == 2)))) ks = lv') (k : cW X nc ns (pc + 2) lv' st ws) : cW X nc ns pc lv (.double x :: st) ws := fun H locs ls hP hD hS hl => lv_dstore F.hx F.hb hd hl hn rfl fun ls' hl' => k H locs ls' hP hD hS (lv_sub hl' ks h)
theorem l_dd {X : xC} {E : cE} {b nc ns : Nat} {i : Int} {x : UInt64} {w : va_W} (F : mF X E RL code bG) (k : cW X nc ns 1303 (lv0 E b i ++ [(5, .double x), (7, .double x)]) [] w) : cW X nc ns 1277 (lv0 E b i ++ [(5, .double x), (7, .double x)]) [] w := by
  intro H locs ls hP hD hS hl
  have h5 := lv_at hl 5 rfl
  have h7 := lv_at hl 6 rfl
  have hk := k H locs ls hP hD hS hl
  refine lv_dload F.hx F.hb dL_law_1277 h5 ?_
  refine lv_dload F.hx F.hb dL_law_1279 h7 ?_
  refine lv_dcmp F.hx F.hb dL_law_1281 ?_
  refine lv_if_eq (tgt := 1303) F.hx F.hb dL_law_1282 (by decide) (fun _ => hk) (fun hv => ?_)
  refine lv_dload F.hx F.hb dL_law_1285 h5 ?_
  refine lv_dload F.hx F.hb dL_law_1287 h5 ?_
  refine lv_dcmp F.hx F.hb dL_law_1289 ?_
  refine lv_if_eq (tgt := 1301) F.hx F.hb dL_law_1290 (by decide) (fun h0 => absurd h0 hv) (fun _ => ?_)
  refine lv_dload F.hx F.hb dL_law_1293 h7 ?_
  refine lv_dload F.hx F.hb dL_law_1295 h7 ?_
  refine lv_dcmp F.hx F.hb dL_law_1297 ?_
  exact lv_if_ne (tgt := 1303) F.hx F.hb dL_law_1298 (by decide) (fun _ => hk) (fun h0 => absurd h0 hv)
set_option maxHeartbeats 4000000 in
set_option maxRecDepth 100000 in
theorem kR_doubt {X : xC} {E : cE} {cL : ClassId} {b L nc ns : Nat} {xs : Nat → Int32} {i x0 : Int} {I : cI} {R : cR} {J : cI} (F : mF X E RL code bG) (hG : lG X.2.2.2.2 cL X.2.1.1) (hX : sX X b L xs) (hfl : X.1.2.1.stackTraces = false) (hN : X.2.2.1.2.2.2 = 9) (hR : rmL X nc ns) (i0 : 0 ≤ i) (i5 : i + 5 < L) (hm : cM I R) (hJ : mM J) (hI : INV I R J)
    (kk : ∀ (I' : cI) (R' : cR) (x' : Int) (J' : cI), cM I' R' → mM J' → INV I' R' J' → cW X (nc + 40) (ns + 900) 1320 (lv0 E b i) [] (wL E cL ((I', R'), x') J')) : cW X nc ns 1265 (lv0 E b i) [] (wL E cL ((I, R), x0) J) := by
  refine q_aload_n F 1 dL_law_1265 rfl rfl ?_
  unfold wL
  rw [l_split]
  refine q_cV F (kcX11_doubt (E := E) hm (st_doubt hI)) (cIds_in (show ckd 0 = 9 ∧ 0 < 353 by decide).2) (ceMill (show ckd 0 = 9 ∧ 0 < 353 by decide).1) (ci := 9) rfl (bV wd513 wd514 wd515 wd1 wd516) rfl ⟨rfl, rfl⟩ ydX11_doubt (rm_c ⟨hR.1, hR.2.1⟩ (by decide) (by decide)) (av := []) rfl rfl (Nat.le_of_ble_eq_true rfl) dL_law_1266 ⟨by have := hR.2.2; omega, by have := hR.2.2; omega⟩ (fun v u hp => ?_)
  obtain ⟨r, rfl, hm2, hq⟩ := hp
  obtain ⟨I2, R2⟩ := u
  refine l_join ?_
  refine q_dstore (lv' := lv0 E b i ++ [(5, .double r)]) F [1, 2, 3, 4, 5, 0] dL_law_1269 (by rw [hN]; decide) rfl ?_
  refine q_aload_n F 2 dL_law_1271 rfl rfl ?_
  refine n_perm List.perm_append_comm ?_
  refine q_cV F (kcX12_doubt (E := E) hJ (hq : (wX12_doubt J _))) (by decide) meObj (ci := 10) rfl (bV wd1183 wd1184 wd1185 wd13 wd1186) rfl ⟨rfl, rfl⟩ ydX12_doubt (rm_c ⟨hR.1, hR.2.1⟩ (by decide) (by decide)) (av := []) rfl rfl (Nat.le_of_ble_eq_true rfl) dL_law_1272 ⟨by have := hR.2.2; omega, by have := hR.2.2; omega⟩ (fun v J2 hp => ?_)
  obtain ⟨y, rfl, m2, hw2⟩ := hp
  obtain ⟨-, hy, hw3⟩ := hw2
  subst hy
  refine n_perm List.perm_append_comm ?_
  refine q_dstore (lv' := lv0 E b i ++ [(5, .double r), (7, .double r)]) F [1, 2, 3, 4, 5, 6, 0] dL_law_1275 (by rw [hN]; decide) rfl ?_
  refine l_dd F ?_
  refine q_goto F 1320 dL_law_1303 (by decide) ?_
  refine q_lv [0, 1, 2, 3, 4] rfl ?_
  exact q_wide (by omega) (by omega) (kk I2 R2 x0 J2 hm2 m2 hw3)
