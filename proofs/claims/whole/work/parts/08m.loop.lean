/-! ===== the law's loop ===== -/
theorem l_sw {X : xC} {E : cE} {cL : ClassId} {b L nc ns : Nat} {xs : Nat → Int32} {i x0 : Int} {I : cI} {R : cR} {J : cI} (F : mF X E RL code bG) (hG : lG X.2.2.2.2 cL X.2.1.1) (hX : sX X b L xs) (hfl : X.1.2.1.stackTraces = false) (hN : X.2.2.1.2.2.2 = 9) (hR : rmL X nc ns) (i0 : 0 ≤ i) (i5 : i + 5 < L) (hm : cM I R) (hJ : mM J) (hI : INV I R J)
    (kk : ∀ (I' : cI) (R' : cR) (x' : Int) (J' : cI), cM I' R' → mM J' → INV I' R' J' → cW X (nc + 40) (ns + 900) 1320 (lv0 E b i) [] (wL E cL ((I', R'), x') J')) (v : Int) (hv0 : inR v) : cW X nc ns 40 (lv0 E b i) [iV v] (wL E cL ((I, R), x0) J) := by
  by_cases hs : 0 ≤ v ∧ v ≤ 24
  · have hc : v = 0 ∨ v = 1 ∨ v = 2 ∨ v = 3 ∨ v = 4 ∨ v = 5 ∨ v = 6 ∨ v = 7 ∨ v = 8 ∨ v = 9 ∨ v = 10 ∨ v = 11 ∨ v = 12 ∨ v = 13 ∨ v = 14 ∨ v = 15 ∨ v = 16 ∨ v = 17 ∨ v = 18 ∨ v = 19 ∨ v = 20 ∨ v = 21 ∨ v = 22 ∨ v = 23 ∨ v = 24 := by omega
    rcases hc with hv | hv | hv | hv | hv | hv | hv | hv | hv | hv | hv | hv | hv | hv | hv | hv | hv | hv | hv | hv | hv | hv | hv | hv | hv
    · exact q_swIn F 0 hv0 156 dL_law_40 (hv.trans (by decide)) (by decide) rfl (by decide) (kR_feed F hG hX hfl hN hR i0 i5 hm hJ hI kk)
    · exact q_swIn F 1 hv0 260 dL_law_40 (hv.trans (by decide)) (by decide) rfl (by decide) (kR_trim F hG hX hfl hN hR i0 i5 hm hJ hI kk)
    · exact q_swIn F 2 hv0 316 dL_law_40 (hv.trans (by decide)) (by decide) rfl (by decide) (kR_compile F hG hX hfl hN hR i0 i5 hm hJ hI kk)
    · exact q_swIn F 3 hv0 329 dL_law_40 (hv.trans (by decide)) (by decide) rfl (by decide) (kR_errorAt F hG hX hfl hN hR i0 i5 hm hJ hI kk)
    · exact q_swIn F 4 hv0 342 dL_law_40 (hv.trans (by decide)) (by decide) rfl (by decide) (kR_count F hG hX hfl hN hR i0 i5 hm hJ hI kk)
    · exact q_swIn F 5 hv0 398 dL_law_40 (hv.trans (by decide)) (by decide) rfl (by decide) (kR_rule F hG hX hfl hN hR i0 i5 hm hJ hI kk)
    · exact q_swIn F 6 hv0 466 dL_law_40 (hv.trans (by decide)) (by decide) rfl (by decide) (kR_drop F hG hX hfl hN hR i0 i5 hm hJ hI kk)
    · exact q_swIn F 7 hv0 522 dL_law_40 (hv.trans (by decide)) (by decide) rfl (by decide) (kR_write F hG hX hfl hN hR i0 i5 hm hJ hI kk)
    · exact q_swIn F 8 hv0 566 dL_law_40 (hv.trans (by decide)) (by decide) rfl (by decide) (kR_byteAt F hG hX hfl hN hR i0 i5 hm hJ hI kk)
    · exact q_swIn F 9 hv0 622 dL_law_40 (hv.trans (by decide)) (by decide) rfl (by decide) (kR_put F hG hX hfl hN hR i0 i5 hm hJ hI kk)
    · exact q_swIn F 10 hv0 690 dL_law_40 (hv.trans (by decide)) (by decide) rfl (by decide) (kR_value F hG hX hfl hN hR i0 i5 hm hJ hI kk)
    · exact q_swIn F 11 hv0 746 dL_law_40 (hv.trans (by decide)) (by decide) rfl (by decide) (kR_clear F hG hX hfl hN hR i0 i5 hm hJ hI kk)
    · exact q_swIn F 12 hv0 759 dL_law_40 (hv.trans (by decide)) (by decide) rfl (by decide) (kR_search F hG hX hfl hN hR i0 i5 hm hJ hI kk)
    · exact q_swIn F 13 hv0 815 dL_law_40 (hv.trans (by decide)) (by decide) rfl (by decide) (kR_solution F hG hX hfl hN hR i0 i5 hm hJ hI kk)
    · exact q_swIn F 14 hv0 883 dL_law_40 (hv.trans (by decide)) (by decide) rfl (by decide) (kR_isNeeded F hG hX hfl hN hR i0 i5 hm hJ hI kk)
    · exact q_swIn F 15 hv0 946 dL_law_40 (hv.trans (by decide)) (by decide) rfl (by decide) (kR_look F hG hX hfl hN hR i0 i5 hm hJ hI kk)
    · exact q_swIn F 16 hv0 959 dL_law_40 (hv.trans (by decide)) (by decide) rfl (by decide) (kR_possible F hG hX hfl hN hR i0 i5 hm hJ hI kk)
    · exact q_swIn F 17 hv0 1015 dL_law_40 (hv.trans (by decide)) (by decide) rfl (by decide) (kR_hint F hG hX hfl hN hR i0 i5 hm hJ hI kk)
    · exact q_swIn F 18 hv0 1071 dL_law_40 (hv.trans (by decide)) (by decide) rfl (by decide) (kR_step F hG hX hfl hN hR i0 i5 hm hJ hI kk)
    · exact q_swIn F 19 hv0 1084 dL_law_40 (hv.trans (by decide)) (by decide) rfl (by decide) (kR_reason F hG hX hfl hN hR i0 i5 hm hJ hI kk)
    · exact q_swIn F 20 hv0 1097 dL_law_40 (hv.trans (by decide)) (by decide) rfl (by decide) (kR_reasoned F hG hX hfl hN hR i0 i5 hm hJ hI kk)
    · exact q_swIn F 21 hv0 1153 dL_law_40 (hv.trans (by decide)) (by decide) rfl (by decide) (kR_make F hG hX hfl hN hR i0 i5 hm hJ hI kk)
    · exact q_swIn F 22 hv0 1209 dL_law_40 (hv.trans (by decide)) (by decide) rfl (by decide) (kR_change F hG hX hfl hN hR i0 i5 hm hJ hI kk)
    · exact q_swIn F 23 hv0 1265 dL_law_40 (hv.trans (by decide)) (by decide) rfl (by decide) (kR_doubt F hG hX hfl hN hR i0 i5 hm hJ hI kk)
    · exact q_swIn F 24 hv0 1306 dL_law_40 (hv.trans (by decide)) (by decide) rfl (by decide) (kR_digest F hG hX hfl hN hR i0 i5 hm hJ hI kk)
  · exact q_swOut F hv0 1320 dL_law_40 (by omega) (by decide) (q_wide (by omega) (by omega) (kk I R x0 J hm hJ hI))
theorem iAnd_in (x y : Int) : inR (iAnd x y) := by
  unfold iAnd
  exact ti_rng _
set_option maxRecDepth 100000 in
theorem l_loop {X : xC} {E : cE} {cL : ClassId} {b L : Nat} {xs : Nat → Int32} (F : mF X E RL code bG) (hG : lG X.2.2.2.2 cL X.2.1.1) (hX : sX X b L xs) (hfl : X.1.2.1.stackTraces = false) (hN : X.2.2.1.2.2.2 = 9) (hfr : 60 ≤ X.1.2.2.2.frames ∧ 6000 ≤ X.1.2.2.2.locals) (nf sf : Nat)
    (fin : ∀ (i : Int) (w : va_W), cW X nf sf 1326 (lv0 E b i) [] w) : ∀ (m nc ns : Nat) (i x0 : Int) (I : cI) (R : cR) (J : cI), 0 ≤ i → L - i < 6 * m → nc + 40 * m ≤ nf → ns + 900 * m ≤ sf → nf ≤ X.1.2.2.2.cells → sf ≤ X.1.2.2.2.slots → i ≤ L + 6 → cM I R → mM J → INV I R J → cW X nc ns 23 (lv0 E b i) [] (wL E cL ((I, R), x0) J) := by
  intro m
  induction m with
  | zero =>
    intro nc ns i x0 I R J i0 i1 h1 h2 h3 h4 i6 hm hJ hI
    have hL := hX.2.2.2
    refine q_iload F 4 dL_law_23 rfl ?_
    refine q_aload_n F 0 dL_law_25 rfl rfl ?_
    refine r_slen F hX dL_law_26 ?_
    refine q_bipush F dL_law_27 (by decide) ?_
    refine q_isub F dL_law_29 ?_
    refine q_icmp_gt F (by unfold inR; omega) (by unfold inR; omega) 1326 dL_law_30 (by decide) (fun _ => q_wide (by omega) (by omega) (fin i _)) (fun h => by omega)
  | succ m ih =>
    intro nc ns i x0 I R J i0 i1 h1 h2 h3 h4 i6 hm hJ hI
    have hL := hX.2.2.2
    refine q_iload F 4 dL_law_23 rfl ?_
    refine q_aload_n F 0 dL_law_25 rfl rfl ?_
    refine r_slen F hX dL_law_26 ?_
    refine q_bipush F dL_law_27 (by decide) ?_
    refine q_isub F dL_law_29 ?_
    refine q_icmp_gt F (by unfold inR; omega) (by unfold inR; omega) 1326 dL_law_30 (by decide) (fun _ => q_wide (by omega) (by omega) (fin i _)) (fun h => ?_)
    refine q_aload_n F 0 dL_law_33 rfl rfl ?_
    refine q_iload F 4 dL_law_34 rfl ?_
    refine r_sld F hX (by omega) dL_law_36 ?_
    refine q_bipush F dL_law_37 (by decide) ?_
    refine q_iand F dL_law_39 ?_
    refine l_sw F hG hX hfl hN ⟨hfr.1, hfr.2, by omega, by omega⟩ i0 (by omega) hm hJ hI (fun I' R' x' J' hm' hJ' hI' => ?_) _ (iAnd_in _ _)
    refine q_iinc (lv' := lv0 E b (i + 6)) F 4 [1, 2, 3, 4, 0] dL_law_1320 rfl (q_n hN (by decide)) rfl rfl ?_
    refine q_goto F 23 dL_law_1323 (by decide) ?_
    exact ih (nc + 40) (ns + 900) (i + 6) x' I' R' J' (by omega) (by omega) (by omega) (by omega) h3 h4 (by omega) hm' hJ' hI'
