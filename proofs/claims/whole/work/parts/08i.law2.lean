/-! ===== the law's calls of the class, each ===== -/
theorem l_ret {X : xC} {E : cE} {cc : ByteArray} {mc ms pc : Nat} {lv : List (Nat × Value)} {T : va_W} {cL : ClassId} {I : cI} {R : cR} {y x : Int} {Qw : Int → Int → cI → cR → Prop} (F : mF X E RL cc bG) (K : kX X E lIds (some .int) (lef E cL) (oL Qw) mc ms) (hd : decode cc pc = .ok (.ireturn, 1)) (hx : inR x) (hm : cM I R) (hq : Qw x y I R) : cW X mc ms pc lv [iV x] (gw E.1 cIds (cef E (I, R)) ++ ([(E.1 2000, outE cL y)] ++ T)) := by
  have h := k_reti (u := ((I, R), y)) (T := T) (lv := lv) (pc := pc) F K rfl (x := x) rfl hd ⟨x, rfl, hx, hm, hq⟩
  rw [l_split] at h
  exact h
def vL_feed : List Cond := Cond.codeWith yL_feed cL_feed 8 (some .int) [(0, 16, 19, 13)] :: bG
set_option maxHeartbeats 4000000 in
set_option maxRecDepth 100000 in
theorem kL_feed {l : Launch} {D : va_G} {E : cE} {cL : ClassId} (hfl : l.stackTraces = false) {a1 : Int} {a2 : Int} {a3 : Int} {a4 : Int} {a5 : Int} {x0 : Int} {I : cI} {R : cR} (hm : cM I R) (ha1 : inR a1) (ha2 : inR a2) (ha3 : inR a3) (ha4 : inR a4) (ha5 : inR a5) {Qw : Int → Int → cI → cR → Prop} (hw : wX11_feed a1 a2 a3 a4 a5 I R (fun x I R => Qw 0 x I R) (fun k I R => 1 ≤ xf 1 0 0 k ∧ Qw (xf 1 0 0 k) x0 I R)) : lM l D E cL yL_feed vL_feed (rmK 8 1 6) [.ref (E.1 0), iV a1, iV a2, iV a3, iV a4, iV a5, .ref (E.1 2000)] ((I, R), x0) (oL Qw) 1 6 := by
  refine l_ofW (cc := cL_feed) (maxL := 8) (hh := [(0, 16, 19, 13)]) (lv := [(0, .ref (E.1 0)), (1, iV a1), (2, iV a2), (3, iV a3), (4, iV a4), (5, iV a5), (6, .ref (E.1 2000))]) (by decide) rfl rfl (Nat.le_of_ble_eq_true rfl) rfl (fun X hl hR hN hD F K ht hG => ?_)
  subst hl; subst hD
  rw [l_split]
  refine q_aload F 6 dL_feed_0 rfl ?_
  refine q_iconst F dL_feed_2 ?_
  refine q_aload_n F 0 dL_feed_3 rfl rfl ?_
  refine q_iload_n F 1 dL_feed_4 rfl rfl ?_
  refine q_iload_n F 2 dL_feed_5 rfl rfl ?_
  refine q_iload_n F 3 dL_feed_6 rfl rfl ?_
  refine q_iload F 4 dL_feed_7 rfl ?_
  refine q_iload F 5 dL_feed_9 rfl ?_
  have hcatch : ∀ k, k < 3 → ∀ I R, (1 ≤ xf 1 0 0 k ∧ Qw (xf 1 0 0 k) x0 I R) → lH X RL 11 k ((fun k => 19) k) := by
    intro k hk I R h
    have hk' : k = 0 ∨ k = 1 ∨ k = 2 := by omega
    rcases hk' with rfl | rfl | rfl
    · exact ⟨[], ⟨0, 16, 19, 13⟩, [], "java/lang/IllegalStateException", ht, (fun z hz => nomatch hz), by decide, by decide, F.ht _ wd608, va_Nw.use rfl F.hS.2.2.2.2.2.2.2.2.2.2.1, rfl⟩
    · exact absurd h.1 (by decide)
    · exact absurd h.1 (by decide)
  refine q_cVc F (kcX11_feed (E := E) hfl 1 (Or.inl rfl) hm ha1 ha2 ha3 ha4 ha5 hw) (cIds_in (show ckd 0 = 9 ∧ 0 < 353 by decide).2) (ceMill (show ckd 0 = 9 ∧ 0 < 353 by decide).1) (ci := 9) rfl (bV wd609 wd610 wd611 wd1 wd612) rfl ⟨rfl, rfl⟩ ydX11_feed (rmK_le hR (by decide) (by decide)) (av := [iV a1, iV a2, iV a3, iV a4, iV a5]) rfl rfl (Nat.le_of_ble_eq_true rfl) dL_feed_11 (by rw [hR]; exact ⟨by decide, by decide⟩) (fun k => 19) hcatch (fun k I2 R2 q9 hk hm2 hq => ?_) (fun r I2 R2 hr hm2 hq => ?_)
  · have hk' : k = 0 ∨ k = 1 ∨ k = 2 := by omega
    rcases hk' with rfl | rfl | rfl
    · show cW X _ _ 19 _ _ _
      refine q_astore (lv' := [(7, .ref q9)]) F [0] dL_feed_19 (q_n hN (by decide)) rfl ?_
      refine q_iconst F dL_feed_21 ?_
      exact l_ret F K dL_feed_22 (by unfold inR; decide) hm2 hq.2
    · exact absurd hq.1 (by decide)
    · exact absurd hq.1 (by decide)
  · refine q_i2l F hr dL_feed_14 ?_
    refine l_out F hG dL_feed_15 ?_
    refine q_goto F 23 dL_feed_16 (by decide) ?_
    refine q_iconst F dL_feed_23 ?_
    exact l_ret F K dL_feed_24 (by unfold inR; decide) hm2 hq
def vL_trim : List Cond := Cond.codeWith yL_trim cL_trim 4 (some .int) [(0, 9, 12, 19)] :: bG
set_option maxHeartbeats 4000000 in
set_option maxRecDepth 100000 in
theorem kL_trim {l : Launch} {D : va_G} {E : cE} {cL : ClassId} (hfl : l.stackTraces = false) {a1 : Int} {x0 : Int} {I : cI} {R : cR} (hm : cM I R) (ha1 : inR a1) {Qw : Int → Int → cI → cR → Prop} (hw : wX11_trim a1 I R (fun x I R => Qw 0 x I R) (fun k I R => 1 ≤ xf 0 1 0 k ∧ Qw (xf 0 1 0 k) x0 I R)) : lM l D E cL yL_trim vL_trim (rmK 8 1 6) [.ref (E.1 0), iV a1, .ref (E.1 2000)] ((I, R), x0) (oL Qw) 1 6 := by
  refine l_ofW (cc := cL_trim) (maxL := 4) (hh := [(0, 9, 12, 19)]) (lv := [(0, .ref (E.1 0)), (1, iV a1), (2, .ref (E.1 2000))]) (by decide) rfl rfl (Nat.le_of_ble_eq_true rfl) rfl (fun X hl hR hN hD F K ht hG => ?_)
  subst hl; subst hD
  rw [l_split]
  refine q_aload_n F 2 dL_trim_0 rfl rfl ?_
  refine q_iconst F dL_trim_1 ?_
  refine q_aload_n F 0 dL_trim_2 rfl rfl ?_
  refine q_iload_n F 1 dL_trim_3 rfl rfl ?_
  have hcatch : ∀ k, k < 3 → ∀ I R, (1 ≤ xf 0 1 0 k ∧ Qw (xf 0 1 0 k) x0 I R) → lH X RL 4 k ((fun k => 12) k) := by
    intro k hk I R h
    have hk' : k = 0 ∨ k = 1 ∨ k = 2 := by omega
    rcases hk' with rfl | rfl | rfl
    · exact absurd h.1 (by decide)
    · exact ⟨[], ⟨0, 9, 12, 19⟩, [], "java/lang/IllegalArgumentException", ht, (fun z hz => nomatch hz), by decide, by decide, F.ht _ wd629, va_Nw.use rfl F.hS.2.2.2.2.2.2.2.2.2.2.2.1, rfl⟩
    · exact absurd h.1 (by decide)
  refine q_cVc F (kcX11_trim (E := E) hfl 1 (Or.inl rfl) hm ha1 hw) (cIds_in (show ckd 0 = 9 ∧ 0 < 353 by decide).2) (ceMill (show ckd 0 = 9 ∧ 0 < 353 by decide).1) (ci := 9) rfl (bV wd630 wd631 wd632 wd1 wd633) rfl ⟨rfl, rfl⟩ ydX11_trim (rmK_le hR (by decide) (by decide)) (av := [iV a1]) rfl rfl (Nat.le_of_ble_eq_true rfl) dL_trim_4 (by rw [hR]; exact ⟨by decide, by decide⟩) (fun k => 12) hcatch (fun k I2 R2 q9 hk hm2 hq => ?_) (fun r I2 R2 hr hm2 hq => ?_)
  · have hk' : k = 0 ∨ k = 1 ∨ k = 2 := by omega
    rcases hk' with rfl | rfl | rfl
    · exact absurd hq.1 (by decide)
    · show cW X _ _ 12 _ _ _
      refine q_astore_n (lv' := [(3, .ref q9)]) F [0] dL_trim_12 rfl (q_n hN (by decide)) rfl ?_
      refine q_iconst F dL_trim_13 ?_
      exact l_ret F K dL_trim_14 (by unfold inR; decide) hm2 hq.2
    · exact absurd hq.1 (by decide)
  · refine q_i2l F hr dL_trim_7 ?_
    refine l_out F hG dL_trim_8 ?_
    refine q_goto F 15 dL_trim_9 (by decide) ?_
    refine q_iconst F dL_trim_15 ?_
    exact l_ret F K dL_trim_16 (by unfold inR; decide) hm2 hq
def vL_count : List Cond := Cond.codeWith yL_count cL_count 4 (some .int) [(0, 9, 12, 24)] :: bG
set_option maxHeartbeats 4000000 in
set_option maxRecDepth 100000 in
theorem kL_count {l : Launch} {D : va_G} {E : cE} {cL : ClassId} (hfl : l.stackTraces = false) {a1 : Int} {x0 : Int} {I : cI} {R : cR} (hm : cM I R) (ha1 : inR a1) {Qw : Int → Int → cI → cR → Prop} (hw : wX11_count a1 I R (fun x I R => Qw 0 x I R) (fun k I R => 1 ≤ xf 0 0 1 k ∧ Qw (xf 0 0 1 k) x0 I R)) : lM l D E cL yL_count vL_count (rmK 8 1 6) [.ref (E.1 0), iV a1, .ref (E.1 2000)] ((I, R), x0) (oL Qw) 1 6 := by
  refine l_ofW (cc := cL_count) (maxL := 4) (hh := [(0, 9, 12, 24)]) (lv := [(0, .ref (E.1 0)), (1, iV a1), (2, .ref (E.1 2000))]) (by decide) rfl rfl (Nat.le_of_ble_eq_true rfl) rfl (fun X hl hR hN hD F K ht hG => ?_)
  subst hl; subst hD
  rw [l_split]
  refine q_aload_n F 2 dL_count_0 rfl rfl ?_
  refine q_iconst F dL_count_1 ?_
  refine q_aload_n F 0 dL_count_2 rfl rfl ?_
  refine q_iload_n F 1 dL_count_3 rfl rfl ?_
  have hcatch : ∀ k, k < 3 → ∀ I R, (1 ≤ xf 0 0 1 k ∧ Qw (xf 0 0 1 k) x0 I R) → lH X RL 4 k ((fun k => 12) k) := by
    intro k hk I R h
    have hk' : k = 0 ∨ k = 1 ∨ k = 2 := by omega
    rcases hk' with rfl | rfl | rfl
    · exact absurd h.1 (by decide)
    · exact absurd h.1 (by decide)
    · exact ⟨[], ⟨0, 9, 12, 24⟩, [], "java/lang/IndexOutOfBoundsException", ht, (fun z hz => nomatch hz), by decide, by decide, F.ht _ wd646, va_Nw.use rfl F.hS.2.2.2.2.2.2.2.2.2.2.2.2.1, rfl⟩
  refine q_cVc F (kcX11_count (E := E) hfl 1 (Or.inl rfl) hm ha1 hw) (cIds_in (show ckd 0 = 9 ∧ 0 < 353 by decide).2) (ceMill (show ckd 0 = 9 ∧ 0 < 353 by decide).1) (ci := 9) rfl (bV wd647 wd525 wd526 wd1 wd527) rfl ⟨rfl, rfl⟩ ydX11_count (rmK_le hR (by decide) (by decide)) (av := [iV a1]) rfl rfl (Nat.le_of_ble_eq_true rfl) dL_count_4 (by rw [hR]; exact ⟨by decide, by decide⟩) (fun k => 12) hcatch (fun k I2 R2 q9 hk hm2 hq => ?_) (fun r I2 R2 hr hm2 hq => ?_)
  · have hk' : k = 0 ∨ k = 1 ∨ k = 2 := by omega
    rcases hk' with rfl | rfl | rfl
    · exact absurd hq.1 (by decide)
    · exact absurd hq.1 (by decide)
    · show cW X _ _ 12 _ _ _
      refine q_astore_n (lv' := [(3, .ref q9)]) F [0] dL_count_12 rfl (q_n hN (by decide)) rfl ?_
      refine q_iconst F dL_count_13 ?_
      exact l_ret F K dL_count_14 (by unfold inR; decide) hm2 hq.2
  · refine q_i2l F hr dL_count_7 ?_
    refine l_out F hG dL_count_8 ?_
    refine q_goto F 15 dL_count_9 (by decide) ?_
    refine q_iconst F dL_count_15 ?_
    exact l_ret F K dL_count_16 (by unfold inR; decide) hm2 hq
def vL_rule : List Cond := Cond.codeWith yL_rule cL_rule 5 (some .int) [(0, 10, 13, 24)] :: bG
set_option maxHeartbeats 4000000 in
set_option maxRecDepth 100000 in
theorem kL_rule {l : Launch} {D : va_G} {E : cE} {cL : ClassId} (hfl : l.stackTraces = false) {a1 : Int} {a2 : Int} {x0 : Int} {I : cI} {R : cR} (hm : cM I R) (ha1 : inR a1) (ha2 : inR a2) {Qw : Int → Int → cI → cR → Prop} (hw : wX11_rule a1 a2 I R (fun x I R => Qw 0 x I R) (fun k I R => 1 ≤ xf 0 0 1 k ∧ Qw (xf 0 0 1 k) x0 I R)) : lM l D E cL yL_rule vL_rule (rmK 9 2 12) [.ref (E.1 0), iV a1, iV a2, .ref (E.1 2000)] ((I, R), x0) (oL Qw) 2 12 := by
  refine l_ofW (cc := cL_rule) (maxL := 5) (hh := [(0, 10, 13, 24)]) (lv := [(0, .ref (E.1 0)), (1, iV a1), (2, iV a2), (3, .ref (E.1 2000))]) (by decide) rfl rfl (Nat.le_of_ble_eq_true rfl) rfl (fun X hl hR hN hD F K ht hG => ?_)
  subst hl; subst hD
  rw [l_split]
  refine q_aload_n F 3 dL_rule_0 rfl rfl ?_
  refine q_iconst F dL_rule_1 ?_
  refine q_aload_n F 0 dL_rule_2 rfl rfl ?_
  refine q_iload_n F 1 dL_rule_3 rfl rfl ?_
  refine q_iload_n F 2 dL_rule_4 rfl rfl ?_
  have hcatch : ∀ k, k < 3 → ∀ I R, (1 ≤ xf 0 0 1 k ∧ Qw (xf 0 0 1 k) x0 I R) → lH X RL 5 k ((fun k => 13) k) := by
    intro k hk I R h
    have hk' : k = 0 ∨ k = 1 ∨ k = 2 := by omega
    rcases hk' with rfl | rfl | rfl
    · exact absurd h.1 (by decide)
    · exact absurd h.1 (by decide)
    · exact ⟨[], ⟨0, 10, 13, 24⟩, [], "java/lang/IndexOutOfBoundsException", ht, (fun z hz => nomatch hz), by decide, by decide, F.ht _ wd646, va_Nw.use rfl F.hS.2.2.2.2.2.2.2.2.2.2.2.2.1, rfl⟩
  refine q_cVc F (kcX11_rule (E := E) hfl 1 (Or.inl rfl) hm ha1 ha2 hw) (cIds_in (show ckd 0 = 9 ∧ 0 < 353 by decide).2) (ceMill (show ckd 0 = 9 ∧ 0 < 353 by decide).1) (ci := 9) rfl (bV wd651 wd583 wd584 wd1 wd585) rfl ⟨rfl, rfl⟩ ydX11_rule (rmK_le hR (by decide) (by decide)) (av := [iV a1, iV a2]) rfl rfl (Nat.le_of_ble_eq_true rfl) dL_rule_5 (by rw [hR]; exact ⟨by decide, by decide⟩) (fun k => 13) hcatch (fun k I2 R2 q9 hk hm2 hq => ?_) (fun r I2 R2 hr hm2 hq => ?_)
  · have hk' : k = 0 ∨ k = 1 ∨ k = 2 := by omega
    rcases hk' with rfl | rfl | rfl
    · exact absurd hq.1 (by decide)
    · exact absurd hq.1 (by decide)
    · show cW X _ _ 13 _ _ _
      refine q_astore (lv' := [(4, .ref q9)]) F [0] dL_rule_13 (q_n hN (by decide)) rfl ?_
      refine q_iconst F dL_rule_15 ?_
      exact l_ret F K dL_rule_16 (by unfold inR; decide) hm2 hq.2
  · refine q_i2l F hr dL_rule_8 ?_
    refine l_out F hG dL_rule_9 ?_
    refine q_goto F 17 dL_rule_10 (by decide) ?_
    refine q_iconst F dL_rule_17 ?_
    exact l_ret F K dL_rule_18 (by unfold inR; decide) hm2 hq
def vL_drop : List Cond := Cond.codeWith yL_drop cL_drop 4 (some .int) [(0, 9, 12, 24)] :: bG
set_option maxHeartbeats 4000000 in
set_option maxRecDepth 100000 in
theorem kL_drop {l : Launch} {D : va_G} {E : cE} {cL : ClassId} (hfl : l.stackTraces = false) {a1 : Int} {x0 : Int} {I : cI} {R : cR} (hm : cM I R) (ha1 : inR a1) {Qw : Int → Int → cI → cR → Prop} (hw : wX11_drop a1 I R (fun x I R => Qw 0 x I R) (fun k I R => 1 ≤ xf 0 0 1 k ∧ Qw (xf 0 0 1 k) x0 I R)) : lM l D E cL yL_drop vL_drop (rmK 9 1 6) [.ref (E.1 0), iV a1, .ref (E.1 2000)] ((I, R), x0) (oL Qw) 1 6 := by
  refine l_ofW (cc := cL_drop) (maxL := 4) (hh := [(0, 9, 12, 24)]) (lv := [(0, .ref (E.1 0)), (1, iV a1), (2, .ref (E.1 2000))]) (by decide) rfl rfl (Nat.le_of_ble_eq_true rfl) rfl (fun X hl hR hN hD F K ht hG => ?_)
  subst hl; subst hD
  rw [l_split]
  refine q_aload_n F 2 dL_drop_0 rfl rfl ?_
  refine q_iconst F dL_drop_1 ?_
  refine q_aload_n F 0 dL_drop_2 rfl rfl ?_
  refine q_iload_n F 1 dL_drop_3 rfl rfl ?_
  have hcatch : ∀ k, k < 3 → ∀ I R, (1 ≤ xf 0 0 1 k ∧ Qw (xf 0 0 1 k) x0 I R) → lH X RL 4 k ((fun k => 12) k) := by
    intro k hk I R h
    have hk' : k = 0 ∨ k = 1 ∨ k = 2 := by omega
    rcases hk' with rfl | rfl | rfl
    · exact absurd h.1 (by decide)
    · exact absurd h.1 (by decide)
    · exact ⟨[], ⟨0, 9, 12, 24⟩, [], "java/lang/IndexOutOfBoundsException", ht, (fun z hz => nomatch hz), by decide, by decide, F.ht _ wd646, va_Nw.use rfl F.hS.2.2.2.2.2.2.2.2.2.2.2.2.1, rfl⟩
  refine q_cVc F (kcX11_drop (E := E) hfl 1 (Or.inl rfl) hm ha1 hw) (cIds_in (show ckd 0 = 9 ∧ 0 < 353 by decide).2) (ceMill (show ckd 0 = 9 ∧ 0 < 353 by decide).1) (ci := 9) rfl (bV wd655 wd656 wd657 wd1 wd658) rfl ⟨rfl, rfl⟩ ydX11_drop (rmK_le hR (by decide) (by decide)) (av := [iV a1]) rfl rfl (Nat.le_of_ble_eq_true rfl) dL_drop_4 (by rw [hR]; exact ⟨by decide, by decide⟩) (fun k => 12) hcatch (fun k I2 R2 q9 hk hm2 hq => ?_) (fun r I2 R2 hr hm2 hq => ?_)
  · have hk' : k = 0 ∨ k = 1 ∨ k = 2 := by omega
    rcases hk' with rfl | rfl | rfl
    · exact absurd hq.1 (by decide)
    · exact absurd hq.1 (by decide)
    · show cW X _ _ 12 _ _ _
      refine q_astore_n (lv' := [(3, .ref q9)]) F [0] dL_drop_12 rfl (q_n hN (by decide)) rfl ?_
      refine q_iconst F dL_drop_13 ?_
      exact l_ret F K dL_drop_14 (by unfold inR; decide) hm2 hq.2
  · refine q_i2l F hr dL_drop_7 ?_
    refine l_out F hG dL_drop_8 ?_
    refine q_goto F 15 dL_drop_9 (by decide) ?_
    refine q_iconst F dL_drop_15 ?_
    exact l_ret F K dL_drop_16 (by unfold inR; decide) hm2 hq
def vL_write : List Cond := Cond.codeWith yL_write cL_write 3 (some .int) [(0, 8, 11, 13)] :: bG
set_option maxHeartbeats 4000000 in
set_option maxRecDepth 100000 in
theorem kL_write {l : Launch} {D : va_G} {E : cE} {cL : ClassId} (hfl : l.stackTraces = false) {x0 : Int} {I : cI} {R : cR} (hm : cM I R) {Qw : Int → Int → cI → cR → Prop} (hw : wX11_write I R (fun x I R => Qw 0 x I R) (fun k I R => 1 ≤ xf 1 0 0 k ∧ Qw (xf 1 0 0 k) x0 I R)) : lM l D E cL yL_write vL_write (rmK 9 1 6) [.ref (E.1 0), .ref (E.1 2000)] ((I, R), x0) (oL Qw) 1 6 := by
  refine l_ofW (cc := cL_write) (maxL := 3) (hh := [(0, 8, 11, 13)]) (lv := [(0, .ref (E.1 0)), (1, .ref (E.1 2000))]) (by decide) rfl rfl (Nat.le_of_ble_eq_true rfl) rfl (fun X hl hR hN hD F K ht hG => ?_)
  subst hl; subst hD
  rw [l_split]
  refine q_aload_n F 1 dL_write_0 rfl rfl ?_
  refine q_iconst F dL_write_1 ?_
  refine q_aload_n F 0 dL_write_2 rfl rfl ?_
  have hcatch : ∀ k, k < 3 → ∀ I R, (1 ≤ xf 1 0 0 k ∧ Qw (xf 1 0 0 k) x0 I R) → lH X RL 3 k ((fun k => 11) k) := by
    intro k hk I R h
    have hk' : k = 0 ∨ k = 1 ∨ k = 2 := by omega
    rcases hk' with rfl | rfl | rfl
    · exact ⟨[], ⟨0, 8, 11, 13⟩, [], "java/lang/IllegalStateException", ht, (fun z hz => nomatch hz), by decide, by decide, F.ht _ wd608, va_Nw.use rfl F.hS.2.2.2.2.2.2.2.2.2.2.1, rfl⟩
    · exact absurd h.1 (by decide)
    · exact absurd h.1 (by decide)
  refine q_cVc F (kcX11_write (E := E) hfl 1 (Or.inl rfl) hm hw) (cIds_in (show ckd 0 = 9 ∧ 0 < 353 by decide).2) (ceMill (show ckd 0 = 9 ∧ 0 < 353 by decide).1) (ci := 9) rfl (bV wd666 wd667 wd668 wd1 wd669) rfl ⟨rfl, rfl⟩ ydX11_write (rmK_le hR (by decide) (by decide)) (av := []) rfl rfl (Nat.le_of_ble_eq_true rfl) dL_write_3 (by rw [hR]; exact ⟨by decide, by decide⟩) (fun k => 11) hcatch (fun k I2 R2 q9 hk hm2 hq => ?_) (fun r I2 R2 hr hm2 hq => ?_)
  · have hk' : k = 0 ∨ k = 1 ∨ k = 2 := by omega
    rcases hk' with rfl | rfl | rfl
    · show cW X _ _ 11 _ _ _
      refine q_astore_n (lv' := [(2, .ref q9)]) F [0] dL_write_11 rfl (q_n hN (by decide)) rfl ?_
      refine q_iconst F dL_write_12 ?_
      exact l_ret F K dL_write_13 (by unfold inR; decide) hm2 hq.2
    · exact absurd hq.1 (by decide)
    · exact absurd hq.1 (by decide)
  · refine q_i2l F hr dL_write_6 ?_
    refine l_out F hG dL_write_7 ?_
    refine q_goto F 14 dL_write_8 (by decide) ?_
    refine q_iconst F dL_write_14 ?_
    exact l_ret F K dL_write_15 (by unfold inR; decide) hm2 hq
def vL_byteAt : List Cond := Cond.codeWith yL_byteAt cL_byteAt 4 (some .int) [(0, 9, 12, 24)] :: bG
set_option maxHeartbeats 4000000 in
set_option maxRecDepth 100000 in
theorem kL_byteAt {l : Launch} {D : va_G} {E : cE} {cL : ClassId} (hfl : l.stackTraces = false) {a1 : Int} {x0 : Int} {I : cI} {R : cR} (hm : cM I R) (ha1 : inR a1) {Qw : Int → Int → cI → cR → Prop} (hw : wX11_byteAt a1 I R (fun x I R => Qw 0 x I R) (fun k I R => 1 ≤ xf 0 0 1 k ∧ Qw (xf 0 0 1 k) x0 I R)) : lM l D E cL yL_byteAt vL_byteAt (rmK 8 1 6) [.ref (E.1 0), iV a1, .ref (E.1 2000)] ((I, R), x0) (oL Qw) 1 6 := by
  refine l_ofW (cc := cL_byteAt) (maxL := 4) (hh := [(0, 9, 12, 24)]) (lv := [(0, .ref (E.1 0)), (1, iV a1), (2, .ref (E.1 2000))]) (by decide) rfl rfl (Nat.le_of_ble_eq_true rfl) rfl (fun X hl hR hN hD F K ht hG => ?_)
  subst hl; subst hD
  rw [l_split]
  refine q_aload_n F 2 dL_byteAt_0 rfl rfl ?_
  refine q_iconst F dL_byteAt_1 ?_
  refine q_aload_n F 0 dL_byteAt_2 rfl rfl ?_
  refine q_iload_n F 1 dL_byteAt_3 rfl rfl ?_
  have hcatch : ∀ k, k < 3 → ∀ I R, (1 ≤ xf 0 0 1 k ∧ Qw (xf 0 0 1 k) x0 I R) → lH X RL 4 k ((fun k => 12) k) := by
    intro k hk I R h
    have hk' : k = 0 ∨ k = 1 ∨ k = 2 := by omega
    rcases hk' with rfl | rfl | rfl
    · exact absurd h.1 (by decide)
    · exact absurd h.1 (by decide)
    · exact ⟨[], ⟨0, 9, 12, 24⟩, [], "java/lang/IndexOutOfBoundsException", ht, (fun z hz => nomatch hz), by decide, by decide, F.ht _ wd646, va_Nw.use rfl F.hS.2.2.2.2.2.2.2.2.2.2.2.2.1, rfl⟩
  refine q_cVc F (kcX11_byteAt (E := E) hfl 1 (Or.inl rfl) hm ha1 hw) (cIds_in (show ckd 0 = 9 ∧ 0 < 353 by decide).2) (ceMill (show ckd 0 = 9 ∧ 0 < 353 by decide).1) (ci := 9) rfl (bV wd704 wd705 wd706 wd1 wd707) rfl ⟨rfl, rfl⟩ ydX11_byteAt (rmK_le hR (by decide) (by decide)) (av := [iV a1]) rfl rfl (Nat.le_of_ble_eq_true rfl) dL_byteAt_4 (by rw [hR]; exact ⟨by decide, by decide⟩) (fun k => 12) hcatch (fun k I2 R2 q9 hk hm2 hq => ?_) (fun r I2 R2 hr hm2 hq => ?_)
  · have hk' : k = 0 ∨ k = 1 ∨ k = 2 := by omega
    rcases hk' with rfl | rfl | rfl
    · exact absurd hq.1 (by decide)
    · exact absurd hq.1 (by decide)
    · show cW X _ _ 12 _ _ _
      refine q_astore_n (lv' := [(3, .ref q9)]) F [0] dL_byteAt_12 rfl (q_n hN (by decide)) rfl ?_
      refine q_iconst F dL_byteAt_13 ?_
      exact l_ret F K dL_byteAt_14 (by unfold inR; decide) hm2 hq.2
  · refine q_i2l F hr dL_byteAt_7 ?_
    refine l_out F hG dL_byteAt_8 ?_
    refine q_goto F 15 dL_byteAt_9 (by decide) ?_
    refine q_iconst F dL_byteAt_15 ?_
    exact l_ret F K dL_byteAt_16 (by unfold inR; decide) hm2 hq
def vL_put : List Cond := Cond.codeWith yL_put cL_put 5 (some .int) [(0, 10, 13, 24), (0, 10, 17, 19)] :: bG
set_option maxHeartbeats 4000000 in
set_option maxRecDepth 100000 in
theorem kL_put {l : Launch} {D : va_G} {E : cE} {cL : ClassId} (hfl : l.stackTraces = false) {a1 : Int} {a2 : Int} {x0 : Int} {I : cI} {R : cR} (hm : cM I R) (ha1 : inR a1) (ha2 : inR a2) {Qw : Int → Int → cI → cR → Prop} (hw : wX11_put a1 a2 I R (fun x I R => Qw 0 x I R) (fun k I R => 1 ≤ xf 0 2 1 k ∧ Qw (xf 0 2 1 k) x0 I R)) : lM l D E cL yL_put vL_put (rmK 9 2 12) [.ref (E.1 0), iV a1, iV a2, .ref (E.1 2000)] ((I, R), x0) (oL Qw) 2 12 := by
  refine l_ofW (cc := cL_put) (maxL := 5) (hh := [(0, 10, 13, 24), (0, 10, 17, 19)]) (lv := [(0, .ref (E.1 0)), (1, iV a1), (2, iV a2), (3, .ref (E.1 2000))]) (by decide) rfl rfl (Nat.le_of_ble_eq_true rfl) rfl (fun X hl hR hN hD F K ht hG => ?_)
  subst hl; subst hD
  rw [l_split]
  refine q_aload_n F 3 dL_put_0 rfl rfl ?_
  refine q_iconst F dL_put_1 ?_
  refine q_aload_n F 0 dL_put_2 rfl rfl ?_
  refine q_iload_n F 1 dL_put_3 rfl rfl ?_
  refine q_iload_n F 2 dL_put_4 rfl rfl ?_
  have hcatch : ∀ k, k < 3 → ∀ I R, (1 ≤ xf 0 2 1 k ∧ Qw (xf 0 2 1 k) x0 I R) → lH X RL 5 k ((fun k => if k = 2 then 13 else 17) k) := by
    intro k hk I R h
    have hk' : k = 0 ∨ k = 1 ∨ k = 2 := by omega
    rcases hk' with rfl | rfl | rfl
    · exact absurd h.1 (by decide)
    · exact ⟨[⟨0, 10, 13, 24⟩], ⟨0, 10, 17, 19⟩, [], "java/lang/IllegalArgumentException", ht, (fun z hz => by rw [List.mem_singleton.mp hz]; exact Or.inr ⟨by decide, "java/lang/IndexOutOfBoundsException", F.ht _ wd646, hG.2.1⟩), by decide, by decide, F.ht _ wd629, va_Nw.use rfl F.hS.2.2.2.2.2.2.2.2.2.2.2.1, rfl⟩
    · exact ⟨[], ⟨0, 10, 13, 24⟩, [⟨0, 10, 17, 19⟩], "java/lang/IndexOutOfBoundsException", ht, (fun z hz => nomatch hz), by decide, by decide, F.ht _ wd646, va_Nw.use rfl F.hS.2.2.2.2.2.2.2.2.2.2.2.2.1, rfl⟩
  refine q_cVc F (kcX11_put (E := E) hfl 1 (Or.inl rfl) hm ha1 ha2 hw) (cIds_in (show ckd 0 = 9 ∧ 0 < 353 by decide).2) (ceMill (show ckd 0 = 9 ∧ 0 < 353 by decide).1) (ci := 9) rfl (bV wd712 wd713 wd714 wd1 wd715) rfl ⟨rfl, rfl⟩ ydX11_put (rmK_le hR (by decide) (by decide)) (av := [iV a1, iV a2]) rfl rfl (Nat.le_of_ble_eq_true rfl) dL_put_5 (by rw [hR]; exact ⟨by decide, by decide⟩) (fun k => if k = 2 then 13 else 17) hcatch (fun k I2 R2 q9 hk hm2 hq => ?_) (fun r I2 R2 hr hm2 hq => ?_)
  · have hk' : k = 0 ∨ k = 1 ∨ k = 2 := by omega
    rcases hk' with rfl | rfl | rfl
    · exact absurd hq.1 (by decide)
    · show cW X _ _ 17 _ _ _
      refine q_astore (lv' := [(4, .ref q9)]) F [0] dL_put_17 (q_n hN (by decide)) rfl ?_
      refine q_iconst F dL_put_19 ?_
      exact l_ret F K dL_put_20 (by unfold inR; decide) hm2 hq.2
    · show cW X _ _ 13 _ _ _
      refine q_astore (lv' := [(4, .ref q9)]) F [0] dL_put_13 (q_n hN (by decide)) rfl ?_
      refine q_iconst F dL_put_15 ?_
      exact l_ret F K dL_put_16 (by unfold inR; decide) hm2 hq.2
  · refine q_i2l F hr dL_put_8 ?_
    refine l_out F hG dL_put_9 ?_
    refine q_goto F 21 dL_put_10 (by decide) ?_
    refine q_iconst F dL_put_21 ?_
    exact l_ret F K dL_put_22 (by unfold inR; decide) hm2 hq
def vL_value : List Cond := Cond.codeWith yL_value cL_value 4 (some .int) [(0, 9, 12, 24)] :: bG
set_option maxHeartbeats 4000000 in
set_option maxRecDepth 100000 in
theorem kL_value {l : Launch} {D : va_G} {E : cE} {cL : ClassId} (hfl : l.stackTraces = false) {a1 : Int} {x0 : Int} {I : cI} {R : cR} (hm : cM I R) (ha1 : inR a1) {Qw : Int → Int → cI → cR → Prop} (hw : wX11_value a1 I R (fun x I R => Qw 0 x I R) (fun k I R => 1 ≤ xf 0 0 1 k ∧ Qw (xf 0 0 1 k) x0 I R)) : lM l D E cL yL_value vL_value (rmK 9 1 6) [.ref (E.1 0), iV a1, .ref (E.1 2000)] ((I, R), x0) (oL Qw) 1 6 := by
  refine l_ofW (cc := cL_value) (maxL := 4) (hh := [(0, 9, 12, 24)]) (lv := [(0, .ref (E.1 0)), (1, iV a1), (2, .ref (E.1 2000))]) (by decide) rfl rfl (Nat.le_of_ble_eq_true rfl) rfl (fun X hl hR hN hD F K ht hG => ?_)
  subst hl; subst hD
  rw [l_split]
  refine q_aload_n F 2 dL_value_0 rfl rfl ?_
  refine q_iconst F dL_value_1 ?_
  refine q_aload_n F 0 dL_value_2 rfl rfl ?_
  refine q_iload_n F 1 dL_value_3 rfl rfl ?_
  have hcatch : ∀ k, k < 3 → ∀ I R, (1 ≤ xf 0 0 1 k ∧ Qw (xf 0 0 1 k) x0 I R) → lH X RL 4 k ((fun k => 12) k) := by
    intro k hk I R h
    have hk' : k = 0 ∨ k = 1 ∨ k = 2 := by omega
    rcases hk' with rfl | rfl | rfl
    · exact absurd h.1 (by decide)
    · exact absurd h.1 (by decide)
    · exact ⟨[], ⟨0, 9, 12, 24⟩, [], "java/lang/IndexOutOfBoundsException", ht, (fun z hz => nomatch hz), by decide, by decide, F.ht _ wd646, va_Nw.use rfl F.hS.2.2.2.2.2.2.2.2.2.2.2.2.1, rfl⟩
  refine q_cVc F (kcX11_value (E := E) hfl 1 (Or.inl rfl) hm ha1 hw) (cIds_in (show ckd 0 = 9 ∧ 0 < 353 by decide).2) (ceMill (show ckd 0 = 9 ∧ 0 < 353 by decide).1) (ci := 9) rfl (bV wd724 wd725 wd726 wd1 wd727) rfl ⟨rfl, rfl⟩ ydX11_value (rmK_le hR (by decide) (by decide)) (av := [iV a1]) rfl rfl (Nat.le_of_ble_eq_true rfl) dL_value_4 (by rw [hR]; exact ⟨by decide, by decide⟩) (fun k => 12) hcatch (fun k I2 R2 q9 hk hm2 hq => ?_) (fun r I2 R2 hr hm2 hq => ?_)
  · have hk' : k = 0 ∨ k = 1 ∨ k = 2 := by omega
    rcases hk' with rfl | rfl | rfl
    · exact absurd hq.1 (by decide)
    · exact absurd hq.1 (by decide)
    · show cW X _ _ 12 _ _ _
      refine q_astore_n (lv' := [(3, .ref q9)]) F [0] dL_value_12 rfl (q_n hN (by decide)) rfl ?_
      refine q_iconst F dL_value_13 ?_
      exact l_ret F K dL_value_14 (by unfold inR; decide) hm2 hq.2
  · refine q_i2l F hr dL_value_7 ?_
    refine l_out F hG dL_value_8 ?_
    refine q_goto F 15 dL_value_9 (by decide) ?_
    refine q_iconst F dL_value_15 ?_
    exact l_ret F K dL_value_16 (by unfold inR; decide) hm2 hq
def vL_search : List Cond := Cond.codeWith yL_search cL_search 4 (some .int) [(0, 9, 12, 19), (0, 9, 15, 13)] :: bG
set_option maxHeartbeats 4000000 in
set_option maxRecDepth 100000 in
theorem kL_search {l : Launch} {D : va_G} {E : cE} {cL : ClassId} (hfl : l.stackTraces = false) {a1 : Int} {x0 : Int} {I : cI} {R : cR} (hm : cM I R) (ha1 : inR a1) {Qw : Int → Int → cI → cR → Prop} (hw : wX11_search a1 I R (fun x I R => Qw 0 x I R) (fun k I R => 1 ≤ xf 2 1 0 k ∧ Qw (xf 2 1 0 k) x0 I R)) : lM l D E cL yL_search vL_search (rmK 33 1 6) [.ref (E.1 0), iV a1, .ref (E.1 2000)] ((I, R), x0) (oL Qw) 1 6 := by
  refine l_ofW (cc := cL_search) (maxL := 4) (hh := [(0, 9, 12, 19), (0, 9, 15, 13)]) (lv := [(0, .ref (E.1 0)), (1, iV a1), (2, .ref (E.1 2000))]) (by decide) rfl rfl (Nat.le_of_ble_eq_true rfl) rfl (fun X hl hR hN hD F K ht hG => ?_)
  subst hl; subst hD
  rw [l_split]
  refine q_aload_n F 2 dL_search_0 rfl rfl ?_
  refine q_iconst F dL_search_1 ?_
  refine q_aload_n F 0 dL_search_2 rfl rfl ?_
  refine q_iload_n F 1 dL_search_3 rfl rfl ?_
  have hcatch : ∀ k, k < 3 → ∀ I R, (1 ≤ xf 2 1 0 k ∧ Qw (xf 2 1 0 k) x0 I R) → lH X RL 4 k ((fun k => if k = 1 then 12 else 15) k) := by
    intro k hk I R h
    have hk' : k = 0 ∨ k = 1 ∨ k = 2 := by omega
    rcases hk' with rfl | rfl | rfl
    · exact ⟨[⟨0, 9, 12, 19⟩], ⟨0, 9, 15, 13⟩, [], "java/lang/IllegalStateException", ht, (fun z hz => by rw [List.mem_singleton.mp hz]; exact Or.inr ⟨by decide, "java/lang/IllegalArgumentException", F.ht _ wd629, hG.2.2⟩), by decide, by decide, F.ht _ wd608, va_Nw.use rfl F.hS.2.2.2.2.2.2.2.2.2.2.1, rfl⟩
    · exact ⟨[], ⟨0, 9, 12, 19⟩, [⟨0, 9, 15, 13⟩], "java/lang/IllegalArgumentException", ht, (fun z hz => nomatch hz), by decide, by decide, F.ht _ wd629, va_Nw.use rfl F.hS.2.2.2.2.2.2.2.2.2.2.2.1, rfl⟩
    · exact absurd h.1 (by decide)
  refine q_cVc F (kcX11_search (E := E) hfl 1 (Or.inl rfl) hm ha1 hw) (cIds_in (show ckd 0 = 9 ∧ 0 < 353 by decide).2) (ceMill (show ckd 0 = 9 ∧ 0 < 353 by decide).1) (ci := 9) rfl (bV wd731 wd732 wd733 wd1 wd734) rfl ⟨rfl, rfl⟩ ydX11_search (rmK_le hR (by decide) (by decide)) (av := [iV a1]) rfl rfl (Nat.le_of_ble_eq_true rfl) dL_search_4 (by rw [hR]; exact ⟨by decide, by decide⟩) (fun k => if k = 1 then 12 else 15) hcatch (fun k I2 R2 q9 hk hm2 hq => ?_) (fun r I2 R2 hr hm2 hq => ?_)
  · have hk' : k = 0 ∨ k = 1 ∨ k = 2 := by omega
    rcases hk' with rfl | rfl | rfl
    · show cW X _ _ 15 _ _ _
      refine q_astore_n (lv' := [(3, .ref q9)]) F [0] dL_search_15 rfl (q_n hN (by decide)) rfl ?_
      refine q_iconst F dL_search_16 ?_
      exact l_ret F K dL_search_17 (by unfold inR; decide) hm2 hq.2
    · show cW X _ _ 12 _ _ _
      refine q_astore_n (lv' := [(3, .ref q9)]) F [0] dL_search_12 rfl (q_n hN (by decide)) rfl ?_
      refine q_iconst F dL_search_13 ?_
      exact l_ret F K dL_search_14 (by unfold inR; decide) hm2 hq.2
    · exact absurd hq.1 (by decide)
  · refine q_i2l F hr dL_search_7 ?_
    refine l_out F hG dL_search_8 ?_
    refine q_goto F 18 dL_search_9 (by decide) ?_
    refine q_iconst F dL_search_18 ?_
    exact l_ret F K dL_search_19 (by unfold inR; decide) hm2 hq
def vL_solution : List Cond := Cond.codeWith yL_solution cL_solution 5 (some .int) [(0, 10, 13, 24)] :: bG
set_option maxHeartbeats 4000000 in
set_option maxRecDepth 100000 in
theorem kL_solution {l : Launch} {D : va_G} {E : cE} {cL : ClassId} (hfl : l.stackTraces = false) {a1 : Int} {a2 : Int} {x0 : Int} {I : cI} {R : cR} (hm : cM I R) (ha1 : inR a1) (ha2 : inR a2) {Qw : Int → Int → cI → cR → Prop} (hw : wX11_solution a1 a2 I R (fun x I R => Qw 0 x I R) (fun k I R => 1 ≤ xf 0 0 1 k ∧ Qw (xf 0 0 1 k) x0 I R)) : lM l D E cL yL_solution vL_solution (rmK 9 1 6) [.ref (E.1 0), iV a1, iV a2, .ref (E.1 2000)] ((I, R), x0) (oL Qw) 1 6 := by
  refine l_ofW (cc := cL_solution) (maxL := 5) (hh := [(0, 10, 13, 24)]) (lv := [(0, .ref (E.1 0)), (1, iV a1), (2, iV a2), (3, .ref (E.1 2000))]) (by decide) rfl rfl (Nat.le_of_ble_eq_true rfl) rfl (fun X hl hR hN hD F K ht hG => ?_)
  subst hl; subst hD
  rw [l_split]
  refine q_aload_n F 3 dL_solution_0 rfl rfl ?_
  refine q_iconst F dL_solution_1 ?_
  refine q_aload_n F 0 dL_solution_2 rfl rfl ?_
  refine q_iload_n F 1 dL_solution_3 rfl rfl ?_
  refine q_iload_n F 2 dL_solution_4 rfl rfl ?_
  have hcatch : ∀ k, k < 3 → ∀ I R, (1 ≤ xf 0 0 1 k ∧ Qw (xf 0 0 1 k) x0 I R) → lH X RL 5 k ((fun k => 13) k) := by
    intro k hk I R h
    have hk' : k = 0 ∨ k = 1 ∨ k = 2 := by omega
    rcases hk' with rfl | rfl | rfl
    · exact absurd h.1 (by decide)
    · exact absurd h.1 (by decide)
    · exact ⟨[], ⟨0, 10, 13, 24⟩, [], "java/lang/IndexOutOfBoundsException", ht, (fun z hz => nomatch hz), by decide, by decide, F.ht _ wd646, va_Nw.use rfl F.hS.2.2.2.2.2.2.2.2.2.2.2.2.1, rfl⟩
  refine q_cVc F (kcX11_solution (E := E) hfl 1 (Or.inl rfl) hm ha1 ha2 hw) (cIds_in (show ckd 0 = 9 ∧ 0 < 353 by decide).2) (ceMill (show ckd 0 = 9 ∧ 0 < 353 by decide).1) (ci := 9) rfl (bV wd764 wd765 wd766 wd1 wd767) rfl ⟨rfl, rfl⟩ ydX11_solution (rmK_le hR (by decide) (by decide)) (av := [iV a1, iV a2]) rfl rfl (Nat.le_of_ble_eq_true rfl) dL_solution_5 (by rw [hR]; exact ⟨by decide, by decide⟩) (fun k => 13) hcatch (fun k I2 R2 q9 hk hm2 hq => ?_) (fun r I2 R2 hr hm2 hq => ?_)
  · have hk' : k = 0 ∨ k = 1 ∨ k = 2 := by omega
    rcases hk' with rfl | rfl | rfl
    · exact absurd hq.1 (by decide)
    · exact absurd hq.1 (by decide)
    · show cW X _ _ 13 _ _ _
      refine q_astore (lv' := [(4, .ref q9)]) F [0] dL_solution_13 (q_n hN (by decide)) rfl ?_
      refine q_iconst F dL_solution_15 ?_
      exact l_ret F K dL_solution_16 (by unfold inR; decide) hm2 hq.2
  · refine q_i2l F hr dL_solution_8 ?_
    refine l_out F hG dL_solution_9 ?_
    refine q_goto F 17 dL_solution_10 (by decide) ?_
    refine q_iconst F dL_solution_17 ?_
    exact l_ret F K dL_solution_18 (by unfold inR; decide) hm2 hq
def vL_isNeeded : List Cond := Cond.codeWith yL_isNeeded cL_isNeeded 4 (some .int) [(0, 16, 19, 24)] :: bG
set_option maxHeartbeats 4000000 in
set_option maxRecDepth 100000 in
theorem kL_isNeeded {l : Launch} {D : va_G} {E : cE} {cL : ClassId} (hfl : l.stackTraces = false) {a1 : Int} {x0 : Int} {I : cI} {R : cR} (hm : cM I R) (ha1 : inR a1) {Qw : Int → Int → cI → cR → Prop} {Q : Int → cI → cR → Prop} (hQ : ∀ x I R, Q x I R → Qw 0 (if x = 0 then 0 else 1) I R) {Qx : Nat → cI → cR → Prop} (hQx : ∀ k I R, Qx k I R → 1 ≤ xf 0 0 1 k ∧ Qw (xf 0 0 1 k) x0 I R) (hw : wX11_isNeeded a1 I R Q Qx) : lM l D E cL yL_isNeeded vL_isNeeded (rmK 33 1 6) [.ref (E.1 0), iV a1, .ref (E.1 2000)] ((I, R), x0) (oL Qw) 1 6 := by
  refine l_ofW (cc := cL_isNeeded) (maxL := 4) (hh := [(0, 16, 19, 24)]) (lv := [(0, .ref (E.1 0)), (1, iV a1), (2, .ref (E.1 2000))]) (by decide) rfl rfl (Nat.le_of_ble_eq_true rfl) rfl (fun X hl hR hN hD F K ht hG => ?_)
  subst hl; subst hD
  rw [l_split]
  refine q_aload_n F 2 dL_isNeeded_0 rfl rfl ?_
  refine q_iconst F dL_isNeeded_1 ?_
  refine q_aload_n F 0 dL_isNeeded_2 rfl rfl ?_
  refine q_iload_n F 1 dL_isNeeded_3 rfl rfl ?_
  have hcatch : ∀ k, k < 3 → ∀ I R, Qx k I R → lH X RL 4 k ((fun k => 19) k) := by
    intro k hk I R h
    have h := hQx k I R h
    have hk' : k = 0 ∨ k = 1 ∨ k = 2 := by omega
    rcases hk' with rfl | rfl | rfl
    · exact absurd h.1 (by decide)
    · exact absurd h.1 (by decide)
    · exact ⟨[], ⟨0, 16, 19, 24⟩, [], "java/lang/IndexOutOfBoundsException", ht, (fun z hz => nomatch hz), by decide, by decide, F.ht _ wd646, va_Nw.use rfl F.hS.2.2.2.2.2.2.2.2.2.2.2.2.1, rfl⟩
  refine q_cVc F (kcX11_isNeeded (E := E) hfl 1 (Or.inl rfl) hm ha1 hw) (cIds_in (show ckd 0 = 9 ∧ 0 < 353 by decide).2) (ceMill (show ckd 0 = 9 ∧ 0 < 353 by decide).1) (ci := 9) rfl (bV wd772 wd773 wd774 wd1 wd775) rfl ⟨rfl, rfl⟩ ydX11_isNeeded (rmK_le hR (by decide) (by decide)) (av := [iV a1]) rfl rfl (Nat.le_of_ble_eq_true rfl) dL_isNeeded_4 (by rw [hR]; exact ⟨by decide, by decide⟩) (fun k => 19) hcatch (fun k I2 R2 q9 hk hm2 hq => ?_) (fun r I2 R2 hr hm2 hq => ?_)
  · have hq := hQx k I2 R2 hq
    have hk' : k = 0 ∨ k = 1 ∨ k = 2 := by omega
    rcases hk' with rfl | rfl | rfl
    · exact absurd hq.1 (by decide)
    · exact absurd hq.1 (by decide)
    · show cW X _ _ 19 _ _ _
      refine q_astore_n (lv' := [(3, .ref q9)]) F [0] dL_isNeeded_19 rfl (q_n hN (by decide)) rfl ?_
      refine q_iconst F dL_isNeeded_20 ?_
      exact l_ret F K dL_isNeeded_21 (by unfold inR; decide) hm2 hq.2
  · refine q_if_eq F hr 14 dL_isNeeded_7 (by decide) (fun hc => ?_) (fun hc => ?_)
    · refine q_lconst F (z := 0) dL_isNeeded_14 rfl ?_
      refine l_out F hG dL_isNeeded_15 ?_
      refine q_goto F 22 dL_isNeeded_16 (by decide) ?_
      refine q_iconst F dL_isNeeded_22 ?_
      have hq := hQ r I2 R2 hq
      rw [if_pos hc] at hq
      exact l_ret F K dL_isNeeded_23 (by unfold inR; decide) hm2 hq
    · refine q_lconst F (z := 1) dL_isNeeded_10 rfl ?_
      refine q_goto F 15 dL_isNeeded_11 (by decide) ?_
      refine l_out F hG dL_isNeeded_15 ?_
      refine q_goto F 22 dL_isNeeded_16 (by decide) ?_
      refine q_iconst F dL_isNeeded_22 ?_
      have hq := hQ r I2 R2 hq
      rw [if_neg hc] at hq
      exact l_ret F K dL_isNeeded_23 (by unfold inR; decide) hm2 hq
def vL_possible : List Cond := Cond.codeWith yL_possible cL_possible 4 (some .int) [(0, 9, 12, 24)] :: bG
set_option maxHeartbeats 4000000 in
set_option maxRecDepth 100000 in
theorem kL_possible {l : Launch} {D : va_G} {E : cE} {cL : ClassId} (hfl : l.stackTraces = false) {a1 : Int} {x0 : Int} {I : cI} {R : cR} (hm : cM I R) (ha1 : inR a1) {Qw : Int → Int → cI → cR → Prop} (hw : wX11_possible a1 I R (fun x I R => Qw 0 x I R) (fun k I R => 1 ≤ xf 0 0 1 k ∧ Qw (xf 0 0 1 k) x0 I R)) : lM l D E cL yL_possible vL_possible (rmK 9 1 6) [.ref (E.1 0), iV a1, .ref (E.1 2000)] ((I, R), x0) (oL Qw) 1 6 := by
  refine l_ofW (cc := cL_possible) (maxL := 4) (hh := [(0, 9, 12, 24)]) (lv := [(0, .ref (E.1 0)), (1, iV a1), (2, .ref (E.1 2000))]) (by decide) rfl rfl (Nat.le_of_ble_eq_true rfl) rfl (fun X hl hR hN hD F K ht hG => ?_)
  subst hl; subst hD
  rw [l_split]
  refine q_aload_n F 2 dL_possible_0 rfl rfl ?_
  refine q_iconst F dL_possible_1 ?_
  refine q_aload_n F 0 dL_possible_2 rfl rfl ?_
  refine q_iload_n F 1 dL_possible_3 rfl rfl ?_
  have hcatch : ∀ k, k < 3 → ∀ I R, (1 ≤ xf 0 0 1 k ∧ Qw (xf 0 0 1 k) x0 I R) → lH X RL 4 k ((fun k => 12) k) := by
    intro k hk I R h
    have hk' : k = 0 ∨ k = 1 ∨ k = 2 := by omega
    rcases hk' with rfl | rfl | rfl
    · exact absurd h.1 (by decide)
    · exact absurd h.1 (by decide)
    · exact ⟨[], ⟨0, 9, 12, 24⟩, [], "java/lang/IndexOutOfBoundsException", ht, (fun z hz => nomatch hz), by decide, by decide, F.ht _ wd646, va_Nw.use rfl F.hS.2.2.2.2.2.2.2.2.2.2.2.2.1, rfl⟩
  refine q_cVc F (kcX11_possible (E := E) hfl 1 (Or.inl rfl) hm ha1 hw) (cIds_in (show ckd 0 = 9 ∧ 0 < 353 by decide).2) (ceMill (show ckd 0 = 9 ∧ 0 < 353 by decide).1) (ci := 9) rfl (bV wd783 wd784 wd785 wd1 wd786) rfl ⟨rfl, rfl⟩ ydX11_possible (rmK_le hR (by decide) (by decide)) (av := [iV a1]) rfl rfl (Nat.le_of_ble_eq_true rfl) dL_possible_4 (by rw [hR]; exact ⟨by decide, by decide⟩) (fun k => 12) hcatch (fun k I2 R2 q9 hk hm2 hq => ?_) (fun r I2 R2 hr hm2 hq => ?_)
  · have hk' : k = 0 ∨ k = 1 ∨ k = 2 := by omega
    rcases hk' with rfl | rfl | rfl
    · exact absurd hq.1 (by decide)
    · exact absurd hq.1 (by decide)
    · show cW X _ _ 12 _ _ _
      refine q_astore_n (lv' := [(3, .ref q9)]) F [0] dL_possible_12 rfl (q_n hN (by decide)) rfl ?_
      refine q_iconst F dL_possible_13 ?_
      exact l_ret F K dL_possible_14 (by unfold inR; decide) hm2 hq.2
  · refine q_i2l F hr dL_possible_7 ?_
    refine l_out F hG dL_possible_8 ?_
    refine q_goto F 15 dL_possible_9 (by decide) ?_
    refine q_iconst F dL_possible_15 ?_
    exact l_ret F K dL_possible_16 (by unfold inR; decide) hm2 hq
def vL_hint : List Cond := Cond.codeWith yL_hint cL_hint 4 (some .int) [(0, 9, 12, 24)] :: bG
set_option maxHeartbeats 4000000 in
set_option maxRecDepth 100000 in
theorem kL_hint {l : Launch} {D : va_G} {E : cE} {cL : ClassId} (hfl : l.stackTraces = false) {a1 : Int} {x0 : Int} {I : cI} {R : cR} (hm : cM I R) (ha1 : inR a1) {Qw : Int → Int → cI → cR → Prop} (hw : wX11_hint a1 I R (fun x I R => Qw 0 x I R) (fun k I R => 1 ≤ xf 0 0 1 k ∧ Qw (xf 0 0 1 k) x0 I R)) : lM l D E cL yL_hint vL_hint (rmK 14 1 6) [.ref (E.1 0), iV a1, .ref (E.1 2000)] ((I, R), x0) (oL Qw) 1 6 := by
  refine l_ofW (cc := cL_hint) (maxL := 4) (hh := [(0, 9, 12, 24)]) (lv := [(0, .ref (E.1 0)), (1, iV a1), (2, .ref (E.1 2000))]) (by decide) rfl rfl (Nat.le_of_ble_eq_true rfl) rfl (fun X hl hR hN hD F K ht hG => ?_)
  subst hl; subst hD
  rw [l_split]
  refine q_aload_n F 2 dL_hint_0 rfl rfl ?_
  refine q_iconst F dL_hint_1 ?_
  refine q_aload_n F 0 dL_hint_2 rfl rfl ?_
  refine q_iload_n F 1 dL_hint_3 rfl rfl ?_
  have hcatch : ∀ k, k < 3 → ∀ I R, (1 ≤ xf 0 0 1 k ∧ Qw (xf 0 0 1 k) x0 I R) → lH X RL 4 k ((fun k => 12) k) := by
    intro k hk I R h
    have hk' : k = 0 ∨ k = 1 ∨ k = 2 := by omega
    rcases hk' with rfl | rfl | rfl
    · exact absurd h.1 (by decide)
    · exact absurd h.1 (by decide)
    · exact ⟨[], ⟨0, 9, 12, 24⟩, [], "java/lang/IndexOutOfBoundsException", ht, (fun z hz => nomatch hz), by decide, by decide, F.ht _ wd646, va_Nw.use rfl F.hS.2.2.2.2.2.2.2.2.2.2.2.2.1, rfl⟩
  refine q_cVc F (kcX11_hint (E := E) hfl 1 (Or.inl rfl) hm ha1 hw) (cIds_in (show ckd 0 = 9 ∧ 0 < 353 by decide).2) (ceMill (show ckd 0 = 9 ∧ 0 < 353 by decide).1) (ci := 9) rfl (bV wd790 wd791 wd792 wd1 wd793) rfl ⟨rfl, rfl⟩ ydX11_hint (rmK_le hR (by decide) (by decide)) (av := [iV a1]) rfl rfl (Nat.le_of_ble_eq_true rfl) dL_hint_4 (by rw [hR]; exact ⟨by decide, by decide⟩) (fun k => 12) hcatch (fun k I2 R2 q9 hk hm2 hq => ?_) (fun r I2 R2 hr hm2 hq => ?_)
  · have hk' : k = 0 ∨ k = 1 ∨ k = 2 := by omega
    rcases hk' with rfl | rfl | rfl
    · exact absurd hq.1 (by decide)
    · exact absurd hq.1 (by decide)
    · show cW X _ _ 12 _ _ _
      refine q_astore_n (lv' := [(3, .ref q9)]) F [0] dL_hint_12 rfl (q_n hN (by decide)) rfl ?_
      refine q_iconst F dL_hint_13 ?_
      exact l_ret F K dL_hint_14 (by unfold inR; decide) hm2 hq.2
  · refine q_i2l F hr dL_hint_7 ?_
    refine l_out F hG dL_hint_8 ?_
    refine q_goto F 15 dL_hint_9 (by decide) ?_
    refine q_iconst F dL_hint_15 ?_
    exact l_ret F K dL_hint_16 (by unfold inR; decide) hm2 hq
def vL_reasoned : List Cond := Cond.codeWith yL_reasoned cL_reasoned 4 (some .int) [(0, 9, 12, 24)] :: bG
set_option maxHeartbeats 4000000 in
set_option maxRecDepth 100000 in
theorem kL_reasoned {l : Launch} {D : va_G} {E : cE} {cL : ClassId} (hfl : l.stackTraces = false) {a1 : Int} {x0 : Int} {I : cI} {R : cR} (hm : cM I R) (ha1 : inR a1) {Qw : Int → Int → cI → cR → Prop} (hw : wX11_reasoned a1 I R (fun x I R => Qw 0 x I R) (fun k I R => 1 ≤ xf 0 0 1 k ∧ Qw (xf 0 0 1 k) x0 I R)) : lM l D E cL yL_reasoned vL_reasoned (rmK 8 1 6) [.ref (E.1 0), iV a1, .ref (E.1 2000)] ((I, R), x0) (oL Qw) 1 6 := by
  refine l_ofW (cc := cL_reasoned) (maxL := 4) (hh := [(0, 9, 12, 24)]) (lv := [(0, .ref (E.1 0)), (1, iV a1), (2, .ref (E.1 2000))]) (by decide) rfl rfl (Nat.le_of_ble_eq_true rfl) rfl (fun X hl hR hN hD F K ht hG => ?_)
  subst hl; subst hD
  rw [l_split]
  refine q_aload_n F 2 dL_reasoned_0 rfl rfl ?_
  refine q_iconst F dL_reasoned_1 ?_
  refine q_aload_n F 0 dL_reasoned_2 rfl rfl ?_
  refine q_iload_n F 1 dL_reasoned_3 rfl rfl ?_
  have hcatch : ∀ k, k < 3 → ∀ I R, (1 ≤ xf 0 0 1 k ∧ Qw (xf 0 0 1 k) x0 I R) → lH X RL 4 k ((fun k => 12) k) := by
    intro k hk I R h
    have hk' : k = 0 ∨ k = 1 ∨ k = 2 := by omega
    rcases hk' with rfl | rfl | rfl
    · exact absurd h.1 (by decide)
    · exact absurd h.1 (by decide)
    · exact ⟨[], ⟨0, 9, 12, 24⟩, [], "java/lang/IndexOutOfBoundsException", ht, (fun z hz => nomatch hz), by decide, by decide, F.ht _ wd646, va_Nw.use rfl F.hS.2.2.2.2.2.2.2.2.2.2.2.2.1, rfl⟩
  refine q_cVc F (kcX11_reasoned (E := E) hfl 1 (Or.inl rfl) hm ha1 hw) (cIds_in (show ckd 0 = 9 ∧ 0 < 353 by decide).2) (ceMill (show ckd 0 = 9 ∧ 0 < 353 by decide).1) (ci := 9) rfl (bV wd798 wd597 wd598 wd1 wd599) rfl ⟨rfl, rfl⟩ ydX11_reasoned (rmK_le hR (by decide) (by decide)) (av := [iV a1]) rfl rfl (Nat.le_of_ble_eq_true rfl) dL_reasoned_4 (by rw [hR]; exact ⟨by decide, by decide⟩) (fun k => 12) hcatch (fun k I2 R2 q9 hk hm2 hq => ?_) (fun r I2 R2 hr hm2 hq => ?_)
  · have hk' : k = 0 ∨ k = 1 ∨ k = 2 := by omega
    rcases hk' with rfl | rfl | rfl
    · exact absurd hq.1 (by decide)
    · exact absurd hq.1 (by decide)
    · show cW X _ _ 12 _ _ _
      refine q_astore_n (lv' := [(3, .ref q9)]) F [0] dL_reasoned_12 rfl (q_n hN (by decide)) rfl ?_
      refine q_iconst F dL_reasoned_13 ?_
      exact l_ret F K dL_reasoned_14 (by unfold inR; decide) hm2 hq.2
  · refine q_i2l F hr dL_reasoned_7 ?_
    refine l_out F hG dL_reasoned_8 ?_
    refine q_goto F 15 dL_reasoned_9 (by decide) ?_
    refine q_iconst F dL_reasoned_15 ?_
    exact l_ret F K dL_reasoned_16 (by unfold inR; decide) hm2 hq
def vL_make : List Cond := Cond.codeWith yL_make cL_make 4 (some .int) [(0, 9, 12, 19), (0, 9, 15, 13)] :: bG
set_option maxHeartbeats 4000000 in
set_option maxRecDepth 100000 in
theorem kL_make {l : Launch} {D : va_G} {E : cE} {cL : ClassId} (hfl : l.stackTraces = false) {a1 : Int} {x0 : Int} {I : cI} {R : cR} (hm : cM I R) (ha1 : inR a1) {Qw : Int → Int → cI → cR → Prop} (hw : wX11_make a1 I R (fun x I R => Qw 0 x I R) (fun k I R => 1 ≤ xf 2 1 0 k ∧ Qw (xf 2 1 0 k) x0 I R)) : lM l D E cL yL_make vL_make (rmK 34 1 6) [.ref (E.1 0), iV a1, .ref (E.1 2000)] ((I, R), x0) (oL Qw) 1 6 := by
  refine l_ofW (cc := cL_make) (maxL := 4) (hh := [(0, 9, 12, 19), (0, 9, 15, 13)]) (lv := [(0, .ref (E.1 0)), (1, iV a1), (2, .ref (E.1 2000))]) (by decide) rfl rfl (Nat.le_of_ble_eq_true rfl) rfl (fun X hl hR hN hD F K ht hG => ?_)
  subst hl; subst hD
  rw [l_split]
  refine q_aload_n F 2 dL_make_0 rfl rfl ?_
  refine q_iconst F dL_make_1 ?_
  refine q_aload_n F 0 dL_make_2 rfl rfl ?_
  refine q_iload_n F 1 dL_make_3 rfl rfl ?_
  have hcatch : ∀ k, k < 3 → ∀ I R, (1 ≤ xf 2 1 0 k ∧ Qw (xf 2 1 0 k) x0 I R) → lH X RL 4 k ((fun k => if k = 1 then 12 else 15) k) := by
    intro k hk I R h
    have hk' : k = 0 ∨ k = 1 ∨ k = 2 := by omega
    rcases hk' with rfl | rfl | rfl
    · exact ⟨[⟨0, 9, 12, 19⟩], ⟨0, 9, 15, 13⟩, [], "java/lang/IllegalStateException", ht, (fun z hz => by rw [List.mem_singleton.mp hz]; exact Or.inr ⟨by decide, "java/lang/IllegalArgumentException", F.ht _ wd629, hG.2.2⟩), by decide, by decide, F.ht _ wd608, va_Nw.use rfl F.hS.2.2.2.2.2.2.2.2.2.2.1, rfl⟩
    · exact ⟨[], ⟨0, 9, 12, 19⟩, [⟨0, 9, 15, 13⟩], "java/lang/IllegalArgumentException", ht, (fun z hz => nomatch hz), by decide, by decide, F.ht _ wd629, va_Nw.use rfl F.hS.2.2.2.2.2.2.2.2.2.2.2.1, rfl⟩
    · exact absurd h.1 (by decide)
  refine q_cVc F (kcX11_make (E := E) hfl 1 (Or.inl rfl) hm ha1 hw) (cIds_in (show ckd 0 = 9 ∧ 0 < 353 by decide).2) (ceMill (show ckd 0 = 9 ∧ 0 < 353 by decide).1) (ci := 9) rfl (bV wd802 wd803 wd804 wd1 wd805) rfl ⟨rfl, rfl⟩ ydX11_make (rmK_le hR (by decide) (by decide)) (av := [iV a1]) rfl rfl (Nat.le_of_ble_eq_true rfl) dL_make_4 (by rw [hR]; exact ⟨by decide, by decide⟩) (fun k => if k = 1 then 12 else 15) hcatch (fun k I2 R2 q9 hk hm2 hq => ?_) (fun r I2 R2 hr hm2 hq => ?_)
  · have hk' : k = 0 ∨ k = 1 ∨ k = 2 := by omega
    rcases hk' with rfl | rfl | rfl
    · show cW X _ _ 15 _ _ _
      refine q_astore_n (lv' := [(3, .ref q9)]) F [0] dL_make_15 rfl (q_n hN (by decide)) rfl ?_
      refine q_iconst F dL_make_16 ?_
      exact l_ret F K dL_make_17 (by unfold inR; decide) hm2 hq.2
    · show cW X _ _ 12 _ _ _
      refine q_astore_n (lv' := [(3, .ref q9)]) F [0] dL_make_12 rfl (q_n hN (by decide)) rfl ?_
      refine q_iconst F dL_make_13 ?_
      exact l_ret F K dL_make_14 (by unfold inR; decide) hm2 hq.2
    · exact absurd hq.1 (by decide)
  · refine q_i2l F hr dL_make_7 ?_
    refine l_out F hG dL_make_8 ?_
    refine q_goto F 18 dL_make_9 (by decide) ?_
    refine q_iconst F dL_make_18 ?_
    exact l_ret F K dL_make_19 (by unfold inR; decide) hm2 hq
def vL_change : List Cond := Cond.codeWith yL_change cL_change 4 (some .int) [(0, 9, 12, 19), (0, 9, 15, 13)] :: bG
set_option maxHeartbeats 4000000 in
set_option maxRecDepth 100000 in
theorem kL_change {l : Launch} {D : va_G} {E : cE} {cL : ClassId} (hfl : l.stackTraces = false) {a1 : Int} {x0 : Int} {I : cI} {R : cR} (hm : cM I R) (ha1 : inR a1) {Qw : Int → Int → cI → cR → Prop} (hw : wX11_change a1 I R (fun x I R => Qw 0 x I R) (fun k I R => 1 ≤ xf 2 1 0 k ∧ Qw (xf 2 1 0 k) x0 I R)) : lM l D E cL yL_change vL_change (rmK 9 1 6) [.ref (E.1 0), iV a1, .ref (E.1 2000)] ((I, R), x0) (oL Qw) 1 6 := by
  refine l_ofW (cc := cL_change) (maxL := 4) (hh := [(0, 9, 12, 19), (0, 9, 15, 13)]) (lv := [(0, .ref (E.1 0)), (1, iV a1), (2, .ref (E.1 2000))]) (by decide) rfl rfl (Nat.le_of_ble_eq_true rfl) rfl (fun X hl hR hN hD F K ht hG => ?_)
  subst hl; subst hD
  rw [l_split]
  refine q_aload_n F 2 dL_change_0 rfl rfl ?_
  refine q_iconst F dL_change_1 ?_
  refine q_aload_n F 0 dL_change_2 rfl rfl ?_
  refine q_iload_n F 1 dL_change_3 rfl rfl ?_
  have hcatch : ∀ k, k < 3 → ∀ I R, (1 ≤ xf 2 1 0 k ∧ Qw (xf 2 1 0 k) x0 I R) → lH X RL 4 k ((fun k => if k = 1 then 12 else 15) k) := by
    intro k hk I R h
    have hk' : k = 0 ∨ k = 1 ∨ k = 2 := by omega
    rcases hk' with rfl | rfl | rfl
    · exact ⟨[⟨0, 9, 12, 19⟩], ⟨0, 9, 15, 13⟩, [], "java/lang/IllegalStateException", ht, (fun z hz => by rw [List.mem_singleton.mp hz]; exact Or.inr ⟨by decide, "java/lang/IllegalArgumentException", F.ht _ wd629, hG.2.2⟩), by decide, by decide, F.ht _ wd608, va_Nw.use rfl F.hS.2.2.2.2.2.2.2.2.2.2.1, rfl⟩
    · exact ⟨[], ⟨0, 9, 12, 19⟩, [⟨0, 9, 15, 13⟩], "java/lang/IllegalArgumentException", ht, (fun z hz => nomatch hz), by decide, by decide, F.ht _ wd629, va_Nw.use rfl F.hS.2.2.2.2.2.2.2.2.2.2.2.1, rfl⟩
    · exact absurd h.1 (by decide)
  refine q_cVc F (kcX11_change (E := E) hfl 1 (Or.inl rfl) hm ha1 hw) (cIds_in (show ckd 0 = 9 ∧ 0 < 353 by decide).2) (ceMill (show ckd 0 = 9 ∧ 0 < 353 by decide).1) (ci := 9) rfl (bV wd854 wd855 wd856 wd1 wd857) rfl ⟨rfl, rfl⟩ ydX11_change (rmK_le hR (by decide) (by decide)) (av := [iV a1]) rfl rfl (Nat.le_of_ble_eq_true rfl) dL_change_4 (by rw [hR]; exact ⟨by decide, by decide⟩) (fun k => if k = 1 then 12 else 15) hcatch (fun k I2 R2 q9 hk hm2 hq => ?_) (fun r I2 R2 hr hm2 hq => ?_)
  · have hk' : k = 0 ∨ k = 1 ∨ k = 2 := by omega
    rcases hk' with rfl | rfl | rfl
    · show cW X _ _ 15 _ _ _
      refine q_astore_n (lv' := [(3, .ref q9)]) F [0] dL_change_15 rfl (q_n hN (by decide)) rfl ?_
      refine q_iconst F dL_change_16 ?_
      exact l_ret F K dL_change_17 (by unfold inR; decide) hm2 hq.2
    · show cW X _ _ 12 _ _ _
      refine q_astore_n (lv' := [(3, .ref q9)]) F [0] dL_change_12 rfl (q_n hN (by decide)) rfl ?_
      refine q_iconst F dL_change_13 ?_
      exact l_ret F K dL_change_14 (by unfold inR; decide) hm2 hq.2
    · exact absurd hq.1 (by decide)
  · refine q_i2l F hr dL_change_7 ?_
    refine l_out F hG dL_change_8 ?_
    refine q_goto F 18 dL_change_9 (by decide) ?_
    refine q_iconst F dL_change_18 ?_
    exact l_ret F K dL_change_19 (by unfold inR; decide) hm2 hq
