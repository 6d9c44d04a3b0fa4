/-! ===== the JDK's own small methods, and throwing ===== -/
section THR
variable {X : xC} {E : cE} {cc : ByteArray} {nc ns pc mc ms : Nat} {lv : List (Nat × Value)} {I : cI} {R : cR}
theorem q_thr0 (F : mF X E RX11 cc bG) {ret : Option FieldType} {post : Option Value → cI × cR → Prop} {Qx : Nat → cI → cR → Prop} (K : kXx X E cIds ret (cef E) post (pX Qx) mc ms) {k z is : Nat} (hR : X.1.2.2.2 = rmK k mc ms) (hk : 6 ≤ k) (hz : z = 1 ∨ ∀ k I R, ¬ Qx k I R) (j : Nat) (hj : j < 15) (hl : Cond.classLink RX11 68 "java/lang/IllegalStateException" ∈ bG) (his : (msG.getD j (0, "")).1 = is) (d0 : decode cc pc = .ok (.new 68, 3)) (d3 : decode cc (pc + 3) = .ok (.dup, 1)) (d4 : decode cc (pc + 4) = .ok (.ldc is, 2)) (d6 : decode cc (pc + 6) = .ok (.invokespecial 72, 3)) (d9 : decode cc (pc + 9) = .ok (.athrow, 1))
    (h1 : z = 1 → nc + 1 ≤ mc) (h2 : z = 1 → ns + 6 ≤ ms) (hm : cM I R) (hw : Qx 0 I R) : cW X nc ns pc lv [] (gw E.1 cIds (cef E (I, R)) ++ []) := by
  rcases hz with hz | hz
  · intro H locs ls hP hD hS hlv
    rw [K.2.2.1]
    have hS' := hS
    rw [K.1] at hS'
    refine vx_throwS (own := RX11) (cls := "java/lang/IllegalStateException") (text := (msG.getD j (0, "")).2) (names := ["java/lang/RuntimeException", "java/lang/Exception"]) (ik := 68) (is := is) (ic := 72) (sa := E.2.1 3 j) (A := X.2.2.2.1) F.hx F.hb K.2.2.2.2 F.ho (by decide) (by decide) (F.ht _ hl) (F.ht _ wd22) (by rw [← his]; exact sR_m F hj)
      (vx_hat (fun w h => F.ht _ (bm ((show ∀ w ∈ (vx_atS RX11 72 "java/lang/IllegalStateException" ["java/lang/RuntimeException", "java/lang/Exception"]).filter goodWord, w ∈ lw_tbl by decide +kernel) w h) (List.mem_filter.mp h).2)) (show ∀ w ∈ (vx_atS RX11 72 "java/lang/IllegalStateException" ["java/lang/RuntimeException", "java/lang/Exception"]).filter (fun w => !goodWord w), w ∈ [Cond.castable "java/lang/IllegalStateException" "java/lang/IllegalStateException", .declares ⟨"java/lang/RuntimeException", "<init>", "(Ljava/lang/String;)V"⟩, .declares ⟨"java/lang/Exception", "<init>", "(Ljava/lang/String;)V"⟩, .declares ⟨"java/lang/Throwable", "<init>", "(Ljava/lang/String;)V"⟩] by decide +kernel) (vx_c (va_Nw.use rfl (sC_0 F)) (vx_c (va_Nw.use rfl (sC_3 F)) (vx_c (va_Nw.use rfl (sC_4 F)) (vx_c (va_Nw.use rfl (sC_5 F)) vx_n)))))
      (by decide +kernel) (sQ_U F) (sQ_N F) hS (hlv.1.trans F.hml.symm) d0 d3 d4 d6 d9 (fun x hx => (K.2.2.2.1 x hx).elim) (by rw [hR]; show 2 + 3 < k; omega) (by rw [hR]; show 0 + (13 * (2 + 1) + 43) ≤ 60 * k; omega) (by rw [hR]; exact h1 hz) (by rw [hR]; exact h2 hz) F.hl (fun t hvm hsz hq => ⟨⟨(I, R), ⟨0, by decide, rfl, hm, hw⟩, ?_⟩, ?_⟩) hS'.2.2 (h1 hz) (h2 hz)
    · exact va_P.kept (gP_left hP) (fun k9 q9 h9 => hq q9.1 ((gP_left hP k9 q9 h9).lt))
    · exact ⟨Nat.le_trans hS.1 hsz, fun q9 h9 h8 => (hq q9 (Nat.lt_of_lt_of_le h9 hS.1)).trans (hS'.2.1 q9 h9 h8)⟩
  · exact absurd hw (hz _ _ _)
theorem q_thrW0 (F : mF X E RX11 cc bG) {ret : Option FieldType} {post : Option Value → cI × cR → Prop} {Qx : Nat → cI → cR → Prop} (K : kXx X E cIds ret (cef E) post (pX Qx) mc ms) {k z is : Nat} (hR : X.1.2.2.2 = rmK k mc ms) (hk : 6 ≤ k) (hz : z = 1 ∨ ∀ k I R, ¬ Qx k I R) (j : Nat) (hj : j < 15) (hl : Cond.classLink RX11 68 "java/lang/IllegalStateException" ∈ bG) (his : (msG.getD j (0, "")).1 = is) (d0 : decode cc pc = .ok (.new 68, 3)) (d3 : decode cc (pc + 3) = .ok (.dup, 1)) (d4 : decode cc (pc + 4) = .ok (.ldc_w is, 3)) (d6 : decode cc (pc + 7) = .ok (.invokespecial 72, 3)) (d9 : decode cc (pc + 10) = .ok (.athrow, 1))
    (h1 : z = 1 → nc + 1 ≤ mc) (h2 : z = 1 → ns + 6 ≤ ms) (hm : cM I R) (hw : Qx 0 I R) : cW X nc ns pc lv [] (gw E.1 cIds (cef E (I, R)) ++ []) := by
  rcases hz with hz | hz
  · intro H locs ls hP hD hS hlv
    rw [K.2.2.1]
    have hS' := hS
    rw [K.1] at hS'
    refine vx_throwSW (own := RX11) (cls := "java/lang/IllegalStateException") (text := (msG.getD j (0, "")).2) (names := ["java/lang/RuntimeException", "java/lang/Exception"]) (ik := 68) (is := is) (ic := 72) (sa := E.2.1 3 j) (A := X.2.2.2.1) F.hx F.hb K.2.2.2.2 F.ho (by decide) (by decide) (F.ht _ hl) (F.ht _ wd22) (by rw [← his]; exact sR_m F hj)
      (vx_hat (fun w h => F.ht _ (bm ((show ∀ w ∈ (vx_atS RX11 72 "java/lang/IllegalStateException" ["java/lang/RuntimeException", "java/lang/Exception"]).filter goodWord, w ∈ lw_tbl by decide +kernel) w h) (List.mem_filter.mp h).2)) (show ∀ w ∈ (vx_atS RX11 72 "java/lang/IllegalStateException" ["java/lang/RuntimeException", "java/lang/Exception"]).filter (fun w => !goodWord w), w ∈ [Cond.castable "java/lang/IllegalStateException" "java/lang/IllegalStateException", .declares ⟨"java/lang/RuntimeException", "<init>", "(Ljava/lang/String;)V"⟩, .declares ⟨"java/lang/Exception", "<init>", "(Ljava/lang/String;)V"⟩, .declares ⟨"java/lang/Throwable", "<init>", "(Ljava/lang/String;)V"⟩] by decide +kernel) (vx_c (va_Nw.use rfl (sC_0 F)) (vx_c (va_Nw.use rfl (sC_3 F)) (vx_c (va_Nw.use rfl (sC_4 F)) (vx_c (va_Nw.use rfl (sC_5 F)) vx_n)))))
      (by decide +kernel) (sQ_U F) (sQ_N F) hS (hlv.1.trans F.hml.symm) d0 d3 d4 d6 d9 (fun x hx => (K.2.2.2.1 x hx).elim) (by rw [hR]; show 2 + 3 < k; omega) (by rw [hR]; show 0 + (13 * (2 + 1) + 43) ≤ 60 * k; omega) (by rw [hR]; exact h1 hz) (by rw [hR]; exact h2 hz) F.hl (fun t hvm hsz hq => ⟨⟨(I, R), ⟨0, by decide, rfl, hm, hw⟩, ?_⟩, ?_⟩) hS'.2.2 (h1 hz) (h2 hz)
    · exact va_P.kept (gP_left hP) (fun k9 q9 h9 => hq q9.1 ((gP_left hP k9 q9 h9).lt))
    · exact ⟨Nat.le_trans hS.1 hsz, fun q9 h9 h8 => (hq q9 (Nat.lt_of_lt_of_le h9 hS.1)).trans (hS'.2.1 q9 h9 h8)⟩
  · exact absurd hw (hz _ _ _)
theorem q_thr1 (F : mF X E RX11 cc bG) {ret : Option FieldType} {post : Option Value → cI × cR → Prop} {Qx : Nat → cI → cR → Prop} (K : kXx X E cIds ret (cef E) post (pX Qx) mc ms) {k z is : Nat} (hR : X.1.2.2.2 = rmK k mc ms) (hk : 6 ≤ k) (hz : z = 1 ∨ ∀ k I R, ¬ Qx k I R) (j : Nat) (hj : j < 15) (hl : Cond.classLink RX11 79 "java/lang/IllegalArgumentException" ∈ bG) (his : (msG.getD j (0, "")).1 = is) (d0 : decode cc pc = .ok (.new 79, 3)) (d3 : decode cc (pc + 3) = .ok (.dup, 1)) (d4 : decode cc (pc + 4) = .ok (.ldc is, 2)) (d6 : decode cc (pc + 6) = .ok (.invokespecial 83, 3)) (d9 : decode cc (pc + 9) = .ok (.athrow, 1))
    (h1 : z = 1 → nc + 1 ≤ mc) (h2 : z = 1 → ns + 6 ≤ ms) (hm : cM I R) (hw : Qx 1 I R) : cW X nc ns pc lv [] (gw E.1 cIds (cef E (I, R)) ++ []) := by
  rcases hz with hz | hz
  · intro H locs ls hP hD hS hlv
    rw [K.2.2.1]
    have hS' := hS
    rw [K.1] at hS'
    refine vx_throwS (own := RX11) (cls := "java/lang/IllegalArgumentException") (text := (msG.getD j (0, "")).2) (names := ["java/lang/RuntimeException", "java/lang/Exception"]) (ik := 79) (is := is) (ic := 83) (sa := E.2.1 3 j) (A := X.2.2.2.1) F.hx F.hb K.2.2.2.2 F.ho (by decide) (by decide) (F.ht _ hl) (F.ht _ wd23) (by rw [← his]; exact sR_m F hj)
      (vx_hat (fun w h => F.ht _ (bm ((show ∀ w ∈ (vx_atS RX11 83 "java/lang/IllegalArgumentException" ["java/lang/RuntimeException", "java/lang/Exception"]).filter goodWord, w ∈ lw_tbl by decide +kernel) w h) (List.mem_filter.mp h).2)) (show ∀ w ∈ (vx_atS RX11 83 "java/lang/IllegalArgumentException" ["java/lang/RuntimeException", "java/lang/Exception"]).filter (fun w => !goodWord w), w ∈ [Cond.castable "java/lang/IllegalArgumentException" "java/lang/IllegalArgumentException", .declares ⟨"java/lang/RuntimeException", "<init>", "(Ljava/lang/String;)V"⟩, .declares ⟨"java/lang/Exception", "<init>", "(Ljava/lang/String;)V"⟩, .declares ⟨"java/lang/Throwable", "<init>", "(Ljava/lang/String;)V"⟩] by decide +kernel) (vx_c (va_Nw.use rfl (sC_1 F)) (vx_c (va_Nw.use rfl (sC_3 F)) (vx_c (va_Nw.use rfl (sC_4 F)) (vx_c (va_Nw.use rfl (sC_5 F)) vx_n)))))
      (by decide +kernel) (sQ_U F) (sQ_N F) hS (hlv.1.trans F.hml.symm) d0 d3 d4 d6 d9 (fun x hx => (K.2.2.2.1 x hx).elim) (by rw [hR]; show 2 + 3 < k; omega) (by rw [hR]; show 0 + (13 * (2 + 1) + 43) ≤ 60 * k; omega) (by rw [hR]; exact h1 hz) (by rw [hR]; exact h2 hz) F.hl (fun t hvm hsz hq => ⟨⟨(I, R), ⟨1, by decide, rfl, hm, hw⟩, ?_⟩, ?_⟩) hS'.2.2 (h1 hz) (h2 hz)
    · exact va_P.kept (gP_left hP) (fun k9 q9 h9 => hq q9.1 ((gP_left hP k9 q9 h9).lt))
    · exact ⟨Nat.le_trans hS.1 hsz, fun q9 h9 h8 => (hq q9 (Nat.lt_of_lt_of_le h9 hS.1)).trans (hS'.2.1 q9 h9 h8)⟩
  · exact absurd hw (hz _ _ _)
theorem q_thrW1 (F : mF X E RX11 cc bG) {ret : Option FieldType} {post : Option Value → cI × cR → Prop} {Qx : Nat → cI → cR → Prop} (K : kXx X E cIds ret (cef E) post (pX Qx) mc ms) {k z is : Nat} (hR : X.1.2.2.2 = rmK k mc ms) (hk : 6 ≤ k) (hz : z = 1 ∨ ∀ k I R, ¬ Qx k I R) (j : Nat) (hj : j < 15) (hl : Cond.classLink RX11 79 "java/lang/IllegalArgumentException" ∈ bG) (his : (msG.getD j (0, "")).1 = is) (d0 : decode cc pc = .ok (.new 79, 3)) (d3 : decode cc (pc + 3) = .ok (.dup, 1)) (d4 : decode cc (pc + 4) = .ok (.ldc_w is, 3)) (d6 : decode cc (pc + 7) = .ok (.invokespecial 83, 3)) (d9 : decode cc (pc + 10) = .ok (.athrow, 1))
    (h1 : z = 1 → nc + 1 ≤ mc) (h2 : z = 1 → ns + 6 ≤ ms) (hm : cM I R) (hw : Qx 1 I R) : cW X nc ns pc lv [] (gw E.1 cIds (cef E (I, R)) ++ []) := by
  rcases hz with hz | hz
  · intro H locs ls hP hD hS hlv
    rw [K.2.2.1]
    have hS' := hS
    rw [K.1] at hS'
    refine vx_throwSW (own := RX11) (cls := "java/lang/IllegalArgumentException") (text := (msG.getD j (0, "")).2) (names := ["java/lang/RuntimeException", "java/lang/Exception"]) (ik := 79) (is := is) (ic := 83) (sa := E.2.1 3 j) (A := X.2.2.2.1) F.hx F.hb K.2.2.2.2 F.ho (by decide) (by decide) (F.ht _ hl) (F.ht _ wd23) (by rw [← his]; exact sR_m F hj)
      (vx_hat (fun w h => F.ht _ (bm ((show ∀ w ∈ (vx_atS RX11 83 "java/lang/IllegalArgumentException" ["java/lang/RuntimeException", "java/lang/Exception"]).filter goodWord, w ∈ lw_tbl by decide +kernel) w h) (List.mem_filter.mp h).2)) (show ∀ w ∈ (vx_atS RX11 83 "java/lang/IllegalArgumentException" ["java/lang/RuntimeException", "java/lang/Exception"]).filter (fun w => !goodWord w), w ∈ [Cond.castable "java/lang/IllegalArgumentException" "java/lang/IllegalArgumentException", .declares ⟨"java/lang/RuntimeException", "<init>", "(Ljava/lang/String;)V"⟩, .declares ⟨"java/lang/Exception", "<init>", "(Ljava/lang/String;)V"⟩, .declares ⟨"java/lang/Throwable", "<init>", "(Ljava/lang/String;)V"⟩] by decide +kernel) (vx_c (va_Nw.use rfl (sC_1 F)) (vx_c (va_Nw.use rfl (sC_3 F)) (vx_c (va_Nw.use rfl (sC_4 F)) (vx_c (va_Nw.use rfl (sC_5 F)) vx_n)))))
      (by decide +kernel) (sQ_U F) (sQ_N F) hS (hlv.1.trans F.hml.symm) d0 d3 d4 d6 d9 (fun x hx => (K.2.2.2.1 x hx).elim) (by rw [hR]; show 2 + 3 < k; omega) (by rw [hR]; show 0 + (13 * (2 + 1) + 43) ≤ 60 * k; omega) (by rw [hR]; exact h1 hz) (by rw [hR]; exact h2 hz) F.hl (fun t hvm hsz hq => ⟨⟨(I, R), ⟨1, by decide, rfl, hm, hw⟩, ?_⟩, ?_⟩) hS'.2.2 (h1 hz) (h2 hz)
    · exact va_P.kept (gP_left hP) (fun k9 q9 h9 => hq q9.1 ((gP_left hP k9 q9 h9).lt))
    · exact ⟨Nat.le_trans hS.1 hsz, fun q9 h9 h8 => (hq q9 (Nat.lt_of_lt_of_le h9 hS.1)).trans (hS'.2.1 q9 h9 h8)⟩
  · exact absurd hw (hz _ _ _)
theorem q_thr2 (F : mF X E RX11 cc bG) {ret : Option FieldType} {post : Option Value → cI × cR → Prop} {Qx : Nat → cI → cR → Prop} (K : kXx X E cIds ret (cef E) post (pX Qx) mc ms) {k z is : Nat} (hR : X.1.2.2.2 = rmK k mc ms) (hk : 6 ≤ k) (hz : z = 1 ∨ ∀ k I R, ¬ Qx k I R) (j : Nat) (hj : j < 15) (hl : Cond.classLink RX11 126 "java/lang/IndexOutOfBoundsException" ∈ bG) (his : (msG.getD j (0, "")).1 = is) (d0 : decode cc pc = .ok (.new 126, 3)) (d3 : decode cc (pc + 3) = .ok (.dup, 1)) (d4 : decode cc (pc + 4) = .ok (.ldc is, 2)) (d6 : decode cc (pc + 6) = .ok (.invokespecial 130, 3)) (d9 : decode cc (pc + 9) = .ok (.athrow, 1))
    (h1 : z = 1 → nc + 1 ≤ mc) (h2 : z = 1 → ns + 6 ≤ ms) (hm : cM I R) (hw : Qx 2 I R) : cW X nc ns pc lv [] (gw E.1 cIds (cef E (I, R)) ++ []) := by
  rcases hz with hz | hz
  · intro H locs ls hP hD hS hlv
    rw [K.2.2.1]
    have hS' := hS
    rw [K.1] at hS'
    refine vx_throwS (own := RX11) (cls := "java/lang/IndexOutOfBoundsException") (text := (msG.getD j (0, "")).2) (names := ["java/lang/RuntimeException", "java/lang/Exception"]) (ik := 126) (is := is) (ic := 130) (sa := E.2.1 3 j) (A := X.2.2.2.1) F.hx F.hb K.2.2.2.2 F.ho (by decide) (by decide) (F.ht _ hl) (F.ht _ wd21) (by rw [← his]; exact sR_m F hj)
      (vx_hat (fun w h => F.ht _ (bm ((show ∀ w ∈ (vx_atS RX11 130 "java/lang/IndexOutOfBoundsException" ["java/lang/RuntimeException", "java/lang/Exception"]).filter goodWord, w ∈ lw_tbl by decide +kernel) w h) (List.mem_filter.mp h).2)) (show ∀ w ∈ (vx_atS RX11 130 "java/lang/IndexOutOfBoundsException" ["java/lang/RuntimeException", "java/lang/Exception"]).filter (fun w => !goodWord w), w ∈ [Cond.castable "java/lang/IndexOutOfBoundsException" "java/lang/IndexOutOfBoundsException", .declares ⟨"java/lang/RuntimeException", "<init>", "(Ljava/lang/String;)V"⟩, .declares ⟨"java/lang/Exception", "<init>", "(Ljava/lang/String;)V"⟩, .declares ⟨"java/lang/Throwable", "<init>", "(Ljava/lang/String;)V"⟩] by decide +kernel) (vx_c (va_Nw.use rfl (sC_2 F)) (vx_c (va_Nw.use rfl (sC_3 F)) (vx_c (va_Nw.use rfl (sC_4 F)) (vx_c (va_Nw.use rfl (sC_5 F)) vx_n)))))
      (by decide +kernel) (sQ_U F) (sQ_N F) hS (hlv.1.trans F.hml.symm) d0 d3 d4 d6 d9 (fun x hx => (K.2.2.2.1 x hx).elim) (by rw [hR]; show 2 + 3 < k; omega) (by rw [hR]; show 0 + (13 * (2 + 1) + 43) ≤ 60 * k; omega) (by rw [hR]; exact h1 hz) (by rw [hR]; exact h2 hz) F.hl (fun t hvm hsz hq => ⟨⟨(I, R), ⟨2, by decide, rfl, hm, hw⟩, ?_⟩, ?_⟩) hS'.2.2 (h1 hz) (h2 hz)
    · exact va_P.kept (gP_left hP) (fun k9 q9 h9 => hq q9.1 ((gP_left hP k9 q9 h9).lt))
    · exact ⟨Nat.le_trans hS.1 hsz, fun q9 h9 h8 => (hq q9 (Nat.lt_of_lt_of_le h9 hS.1)).trans (hS'.2.1 q9 h9 h8)⟩
  · exact absurd hw (hz _ _ _)
theorem q_thrW2 (F : mF X E RX11 cc bG) {ret : Option FieldType} {post : Option Value → cI × cR → Prop} {Qx : Nat → cI → cR → Prop} (K : kXx X E cIds ret (cef E) post (pX Qx) mc ms) {k z is : Nat} (hR : X.1.2.2.2 = rmK k mc ms) (hk : 6 ≤ k) (hz : z = 1 ∨ ∀ k I R, ¬ Qx k I R) (j : Nat) (hj : j < 15) (hl : Cond.classLink RX11 126 "java/lang/IndexOutOfBoundsException" ∈ bG) (his : (msG.getD j (0, "")).1 = is) (d0 : decode cc pc = .ok (.new 126, 3)) (d3 : decode cc (pc + 3) = .ok (.dup, 1)) (d4 : decode cc (pc + 4) = .ok (.ldc_w is, 3)) (d6 : decode cc (pc + 7) = .ok (.invokespecial 130, 3)) (d9 : decode cc (pc + 10) = .ok (.athrow, 1))
    (h1 : z = 1 → nc + 1 ≤ mc) (h2 : z = 1 → ns + 6 ≤ ms) (hm : cM I R) (hw : Qx 2 I R) : cW X nc ns pc lv [] (gw E.1 cIds (cef E (I, R)) ++ []) := by
  rcases hz with hz | hz
  · intro H locs ls hP hD hS hlv
    rw [K.2.2.1]
    have hS' := hS
    rw [K.1] at hS'
    refine vx_throwSW (own := RX11) (cls := "java/lang/IndexOutOfBoundsException") (text := (msG.getD j (0, "")).2) (names := ["java/lang/RuntimeException", "java/lang/Exception"]) (ik := 126) (is := is) (ic := 130) (sa := E.2.1 3 j) (A := X.2.2.2.1) F.hx F.hb K.2.2.2.2 F.ho (by decide) (by decide) (F.ht _ hl) (F.ht _ wd21) (by rw [← his]; exact sR_m F hj)
      (vx_hat (fun w h => F.ht _ (bm ((show ∀ w ∈ (vx_atS RX11 130 "java/lang/IndexOutOfBoundsException" ["java/lang/RuntimeException", "java/lang/Exception"]).filter goodWord, w ∈ lw_tbl by decide +kernel) w h) (List.mem_filter.mp h).2)) (show ∀ w ∈ (vx_atS RX11 130 "java/lang/IndexOutOfBoundsException" ["java/lang/RuntimeException", "java/lang/Exception"]).filter (fun w => !goodWord w), w ∈ [Cond.castable "java/lang/IndexOutOfBoundsException" "java/lang/IndexOutOfBoundsException", .declares ⟨"java/lang/RuntimeException", "<init>", "(Ljava/lang/String;)V"⟩, .declares ⟨"java/lang/Exception", "<init>", "(Ljava/lang/String;)V"⟩, .declares ⟨"java/lang/Throwable", "<init>", "(Ljava/lang/String;)V"⟩] by decide +kernel) (vx_c (va_Nw.use rfl (sC_2 F)) (vx_c (va_Nw.use rfl (sC_3 F)) (vx_c (va_Nw.use rfl (sC_4 F)) (vx_c (va_Nw.use rfl (sC_5 F)) vx_n)))))
      (by decide +kernel) (sQ_U F) (sQ_N F) hS (hlv.1.trans F.hml.symm) d0 d3 d4 d6 d9 (fun x hx => (K.2.2.2.1 x hx).elim) (by rw [hR]; show 2 + 3 < k; omega) (by rw [hR]; show 0 + (13 * (2 + 1) + 43) ≤ 60 * k; omega) (by rw [hR]; exact h1 hz) (by rw [hR]; exact h2 hz) F.hl (fun t hvm hsz hq => ⟨⟨(I, R), ⟨2, by decide, rfl, hm, hw⟩, ?_⟩, ?_⟩) hS'.2.2 (h1 hz) (h2 hz)
    · exact va_P.kept (gP_left hP) (fun k9 q9 h9 => hq q9.1 ((gP_left hP k9 q9 h9).lt))
    · exact ⟨Nat.le_trans hS.1 hsz, fun q9 h9 h8 => (hq q9 (Nat.lt_of_lt_of_le h9 hS.1)).trans (hS'.2.1 q9 h9 h8)⟩
  · exact absurd hw (hz _ _ _)
end THR
section J0
variable {X : xC} {E : cE} {own : String} {cc : ByteArray} {Ts : List Cond} {nc ns pc index mc ms k : Nat} {lv : List (Nat × Value)} {st : List Value} {ws : va_W} {ids : List Nat} {e : Nat → va_E} {T : va_W}
theorem q_vt {v w : Value} (h : v = w) (k : cW X nc ns pc lv (w :: st) ws) : cW X nc ns pc lv (v :: st) ws := by rw [h]; exact k
theorem q_i2c (F : mF X E own cc Ts) {x : Int} (hd : decode cc pc = .ok (.i2c, 1)) (k : cW X nc ns (pc + 1) lv (.int ((Int32.ofInt x).toUInt32 % 65536).toInt32 :: st) ws) : cW X nc ns pc lv (iV x :: st) ws := fun H locs ls hP hD hS hl => lv_i2c F.hx F.hb hd rfl (k H locs ls hP hD hS hl)
theorem q_iushr (F : mF X E own cc Ts) {x y : Int} (hd : decode cc pc = .ok (.iushr, 1)) (k : cW X nc ns (pc + 1) lv (iV (bcS (Int32.ofInt x) (Int32.ofInt y)).toInt :: st) ws) : cW X nc ns pc lv (iV y :: iV x :: st) ws := fun H locs ls hP hD hS hl => lv_iushr F.hx F.hb hd rfl (by have h := k H locs ls hP hD hS hl; rw [iV, Int32.ofInt_toInt] at h; exact h)
theorem iShr_0 {x : Int} (h : inR x) : iShr x 0 = x := by
  unfold iShr
  have e : Int32.ofInt x >>> (Int32.ofInt 0 &&& 31) = Int32.ofInt x := sb_shr0 _
  rw [e, ti_of h]
end J0
def vJ_coder : List Cond := Cond.code yJ0_coder_7d493 cJ0_coder_7d493 1 (some .byte) :: bG
set_option maxRecDepth 100000 in
theorem j_coder {l : Launch} {D : va_G} {E : cE} {ids : List Nat} {e : Nat → va_E} {i : Nat} (hi : i < 33) : gM l D E ids yJ0_coder_7d493 vJ_coder (rmK 1 0 0) [.ref (E.2.1 1 i)] e (fun _ : Unit => e) (fun v _ => v = some (iV 0)) 0 0 := by
  refine k_ofW (own := RJ0) (cc := cJ0_coder_7d493) (maxL := 1) (ret := some .byte) (lv := [(0, .ref (E.2.1 1 i))]) (by decide) rfl rfl (Nat.le_of_ble_eq_true rfl) rfl ?_
  intro X hl hR hN hD F K
  subst hl; subst hD
  refine q_gs F (sZ_COMPACT F) wd256 rfl dJ0_coder_7d493_0 ?_
  refine q_vt (w := iV 1) rfl ?_
  refine q_if_eq F (⟨by decide, by decide⟩ : inR 1) 13 dJ0_coder_7d493_3 (by decide) (fun hc => absurd hc (by decide)) (fun hc => ?_)
  refine q_aload_n F 0 dJ0_coder_7d493_6 rfl rfl ?_
  refine q_gOF F ((sK F i hi).1 0 (by decide)).2.1 wd832 rfl dJ0_coder_7d493_7 ?_
  refine q_vt (w := iV 0) rfl ?_
  refine q_goto F 14 dJ0_coder_7d493_10 (by decide) ?_
  exact k_reti (u := ()) F K rfl (by decide) dJ0_coder_7d493_14 rfl
def vJ_latin : List Cond := Cond.code yJ0_isLatin1_aae02 cJ0_isLatin1_aae02 1 (some .boolean) :: bG
set_option maxRecDepth 100000 in
theorem j_latin {l : Launch} {D : va_G} {E : cE} {ids : List Nat} {e : Nat → va_E} {i : Nat} (hi : i < 33) : gM l D E ids yJ0_isLatin1_aae02 vJ_latin (rmK 1 0 0) [.ref (E.2.1 1 i)] e (fun _ : Unit => e) (fun v _ => v = some (iV 1)) 0 0 := by
  refine k_ofW (own := RJ0) (cc := cJ0_isLatin1_aae02) (maxL := 1) (ret := some .boolean) (lv := [(0, .ref (E.2.1 1 i))]) (by decide) rfl rfl (Nat.le_of_ble_eq_true rfl) rfl ?_
  intro X hl hR hN hD F K
  subst hl; subst hD
  refine q_gs F (sZ_COMPACT F) wd256 rfl dJ0_isLatin1_aae02_0 ?_
  refine q_vt (w := iV 1) rfl ?_
  refine q_if_eq F (⟨by decide, by decide⟩ : inR 1) 17 dJ0_isLatin1_aae02_3 (by decide) (fun hc => absurd hc (by decide)) (fun hc => ?_)
  refine q_aload_n F 0 dJ0_isLatin1_aae02_6 rfl rfl ?_
  refine q_gOF F ((sK F i hi).1 0 (by decide)).2.1 wd832 rfl dJ0_isLatin1_aae02_7 ?_
  refine q_vt (w := iV 0) rfl ?_
  refine q_if_ne F ti_0 17 dJ0_isLatin1_aae02_10 (by decide) (fun hc => absurd rfl hc) (fun hc => ?_)
  refine q_iconst F dJ0_isLatin1_aae02_13 ?_
  refine q_goto F 18 dJ0_isLatin1_aae02_14 (by decide) ?_
  exact k_reti (u := ()) F K rfl (by decide) dJ0_isLatin1_aae02_18 rfl
theorem yd_coder : yJ0_coder_7d493.cls = "java/lang/String" ∧ yJ0_coder_7d493.cls ≠ "java/lang/invoke/MethodHandle" ∧ yJ0_coder_7d493.cls ≠ "java/lang/invoke/VarHandle" ∧ (parseMethodDescriptor yJ0_coder_7d493.desc).map (fun d => d.parameters.length) = some 0 := by decide +kernel
theorem yd_latin : yJ0_isLatin1_aae02.cls = "java/lang/String" ∧ yJ0_isLatin1_aae02.cls ≠ "java/lang/invoke/MethodHandle" ∧ yJ0_isLatin1_aae02.cls ≠ "java/lang/invoke/VarHandle" ∧ (parseMethodDescriptor yJ0_isLatin1_aae02.desc).map (fun d => d.parameters.length) = some 0 := by decide +kernel
def vJ_length : List Cond := Cond.code yJ0_length_8abf5 cJ0_length_8abf5 1 (some .int) :: bG
set_option maxRecDepth 100000 in
theorem j_length {l : Launch} {D : va_G} {E : cE} {ids : List Nat} {e : Nat → va_E} {i : Nat} (hi : i < 33) : gM l D E ids yJ0_length_8abf5 vJ_length (rmK 2 0 0) [.ref (E.2.1 1 i)] e (fun _ : Unit => e) (fun v _ => v = some (iV (txN i))) 0 0 := by
  refine k_ofW (own := RJ0) (cc := cJ0_length_8abf5) (maxL := 1) (ret := some .int) (lv := [(0, .ref (E.2.1 1 i))]) (by decide) rfl rfl (Nat.le_of_ble_eq_true rfl) rfl ?_
  intro X hl hR hN hD F K
  subst hl; subst hD
  refine q_aload_n F 0 dJ0_length_8abf5_0 rfl rfl ?_
  refine q_gOF F ((sK F i hi).1 0 (by decide)).2.2.1 wd831 rfl dJ0_length_8abf5_1 ?_
  refine q_tlen F ((sK F i hi).1 0 (by decide)).2.2.2 dJ0_length_8abf5_4 ?_
  refine q_aload_n F 0 dJ0_length_8abf5_5 rfl rfl ?_
  refine q_cG F (j_coder hi) (fun H locs hS => wk_recv (sK F) hi hS) (bV wd252 wd253 wd254 wd13 wd255) rfl ⟨rfl, rfl⟩ yd_coder (rmK_le hR (by omega) (by decide)) (av := []) rfl rfl (Nat.le_of_ble_eq_true rfl) dJ0_length_8abf5_6 (rmK_cs hR (by omega) (by omega)) (fun v u hp => ?_)
  subst hp
  refine q_ishr F dJ0_length_8abf5_9 ?_
  exact k_reti (u := ()) F K rfl rfl dJ0_length_8abf5_10 (congrArg (fun z => some (iV z)) (iShr_0 (txN_in hi)))
def vJ_pre : List Cond := Cond.code yJ3_checkIndex_8e157 cJ3_checkIndex_8e157 3 (some .int) :: bG
set_option maxRecDepth 100000 in
theorem j_pre {l : Launch} {D : va_G} {E : cE} {ids : List Nat} {e : Nat → va_E} {x n : Int} {w : Value} (hx : 0 ≤ x ∧ x < n) (hn : inR n) (hw : w.category = 1) : gM l D E ids yJ3_checkIndex_8e157 vJ_pre (rmK 1 0 0) [iV x, iV n, w] e (fun _ : Unit => e) (fun v _ => v = some (iV x)) 0 0 := by
  refine k_ofW (own := RJ3) (cc := cJ3_checkIndex_8e157) (maxL := 3) (ret := some .int) (lv := [(0, iV x), (1, iV n), (2, w)]) (by decide) rfl rfl (by rcases w with _ | _ | _ | _ | _ | _ <;> first | (simp [lg_sl, Value.category]; done) | (simp [Value.category] at hw)) (by rcases w with _ | _ | _ | _ | _ | _ <;> first | rfl | (simp [Value.category] at hw)) ?_
  intro X hl hR hN hD F K
  subst hl; subst hD
  have hr : inR x := by unfold inR at hn ⊢; omega
  refine q_iload_n F 0 dJ3_checkIndex_8e157_0 rfl rfl ?_
  refine q_if_lt F hr 9 dJ3_checkIndex_8e157_1 (by decide) (fun hc => absurd hc (by omega)) (fun hc => ?_)
  refine q_iload_n F 0 dJ3_checkIndex_8e157_4 rfl rfl ?_
  refine q_iload_n F 1 dJ3_checkIndex_8e157_5 rfl rfl ?_
  refine q_icmp_lt F hr hn 16 dJ3_checkIndex_8e157_6 (by decide) (fun hc => ?_) (fun hc => absurd hx.2 hc)
  refine q_iload_n F 0 dJ3_checkIndex_8e157_16 rfl rfl ?_
  exact k_reti (u := ()) F K rfl rfl dJ3_checkIndex_8e157_17 rfl
theorem yd_pre : yJ3_checkIndex_8e157.cls = "jdk/internal/util/Preconditions" ∧ yJ3_checkIndex_8e157.cls ≠ "java/lang/invoke/MethodHandle" ∧ yJ3_checkIndex_8e157.cls ≠ "java/lang/invoke/VarHandle" ∧ (parseMethodDescriptor yJ3_checkIndex_8e157.desc).map (fun d => d.parameters.length) = some 3 := by decide +kernel
def vJ_check : List Cond := Cond.code yJ0_checkIndex_df160 cJ0_checkIndex_df160 2 none :: bG
set_option maxRecDepth 100000 in
theorem j_check {l : Launch} {D : va_G} {E : cE} {ids : List Nat} {e : Nat → va_E} {x n : Int} (hx : 0 ≤ x ∧ x < n) (hn : inR n) : gM l D E ids yJ0_checkIndex_df160 vJ_check (rmK 2 0 0) [iV x, iV n] e (fun _ : Unit => e) (fun v _ => v = none) 0 0 := by
  refine k_ofW (own := RJ0) (cc := cJ0_checkIndex_df160) (maxL := 2) (ret := none) (lv := [(0, iV x), (1, iV n)]) (by decide) rfl rfl (Nat.le_of_ble_eq_true rfl) rfl ?_
  intro X hl hR hN hD F K
  subst hl; subst hD
  refine q_iload_n F 0 dJ0_checkIndex_df160_0 rfl rfl ?_
  refine q_iload_n F 1 dJ0_checkIndex_df160_1 rfl rfl ?_
  have key : ∀ w : Value, w.category = 1 → va_Z "jdk/internal/util/Preconditions" "SIOOBE_FORMATTER" "Ljava/util/function/BiFunction;" w X.2.2.2.1 X.2.1.1 X.2.1.1.heap → cW X 0 0 2 [(0, iV x), (1, iV n)] [iV n, iV x] (gw E.1 ids e ++ []) := by
    intro w hw hZ
    refine q_gs F hZ wd272 rfl dJ0_checkIndex_df160_2 ?_
    refine q_cS F (j_pre hx hn hw) (bS wd274 wd275 wd15 wd276) rfl ⟨rfl, rfl⟩ yd_pre.2 (rmK_le hR (by omega) (by decide)) (av := [iV x, iV n, w]) rfl rfl (Nat.le_of_ble_eq_true rfl) dJ0_checkIndex_df160_5 (rmK_cs hR (by omega) (by omega)) (fun v u hp => ?_)
    subst hp
    refine q_pop F dJ0_checkIndex_df160_8 rfl ?_
    exact k_retv (u := ()) F K rfl dJ0_checkIndex_df160_9 rfl
  rcases sQ_F F with h | ⟨t, h⟩
  · exact key _ rfl h
  · exact key _ rfl h
theorem yd_check : yJ0_checkIndex_df160.cls = "java/lang/String" ∧ yJ0_checkIndex_df160.cls ≠ "java/lang/invoke/MethodHandle" ∧ yJ0_checkIndex_df160.cls ≠ "java/lang/invoke/VarHandle" ∧ (parseMethodDescriptor yJ0_checkIndex_df160.desc).map (fun d => d.parameters.length) = some 2 := by decide +kernel
theorem txC_all : ∀ i, i < 33 → ∀ k, k < txL.getD i 0 → ((((txB.getD i []).getD k 0) &&& 255).toUInt32 % 65536).toInt32 = Int32.ofInt (txC i (k : Int)) ∧ narrow .char (iV (txC i (k : Int))) = iV (txC i (k : Int)) := by decide +kernel
def vJ_lch : List Cond := Cond.code yJ1_charAt_3b067 cJ1_charAt_3b067 2 (some .char) :: bG
set_option maxRecDepth 100000 in
theorem j_lch {l : Launch} {D : va_G} {E : cE} {ids : List Nat} {e : Nat → va_E} {i : Nat} {x : Int} (hi : i < 33) (hx : 0 ≤ x ∧ x < txN i) : gM l D E ids yJ1_charAt_3b067 vJ_lch (rmK 3 0 0) [.ref (E.2.1 2 i), iV x] e (fun _ : Unit => e) (fun v _ => v = some (iV (txC i x))) 0 0 := by
  refine k_ofW (own := RJ1) (cc := cJ1_charAt_3b067) (maxL := 2) (ret := some .char) (lv := [(0, .ref (E.2.1 2 i)), (1, iV x)]) (by decide) rfl rfl (Nat.le_of_ble_eq_true rfl) rfl ?_
  intro X hl hR hN hD F K
  subst hl; subst hD
  have hL : txL.getD i 0 < 100000 := (show ∀ j, j < 33 → txL.getD j 0 < 100000 by decide +kernel) i hi
  have hT : va_T .byte (E.2.1 2 i) (txL.getD i 0) (fun j => .int ((txB.getD i []).getD j 0)) X.2.2.2.1 X.2.1.1 X.2.1.1.heap := ((sK F i hi).1 0 (by decide)).2.2.2
  refine q_iload_n F 1 dJ1_charAt_3b067_0 rfl rfl ?_
  refine q_aload_n F 0 dJ1_charAt_3b067_1 rfl rfl ?_
  refine q_tlen F hT dJ1_charAt_3b067_2 ?_
  refine q_cS F (j_check (x := x) (n := txN i) hx (txN_in hi)) (bS wd269 wd270 wd13 wd271) rfl ⟨rfl, rfl⟩ yd_check.2 (rmK_le hR (by omega) (by decide)) (av := [iV x, iV (txN i)]) rfl rfl (Nat.le_of_ble_eq_true rfl) dJ1_charAt_3b067_3 (rmK_cs hR (by omega) (by omega)) (fun v u hp => ?_)
  subst hp
  refine q_aload_n F 0 dJ1_charAt_3b067_6 rfl rfl ?_
  refine q_iload_n F 1 dJ1_charAt_3b067_7 rfl rfl ?_
  refine q_tbd F hT hx (by omega) dJ1_charAt_3b067_8 ?_
  refine q_vt (w := iV ((txB.getD i []).getD x.toNat 0).toInt) (by show Value.int _ = Value.int _; rw [Int32.ofInt_toInt]) ?_
  refine q_sipush F dJ1_charAt_3b067_9 (by decide) ?_
  refine q_iand F dJ1_charAt_3b067_12 ?_
  refine q_i2c F dJ1_charAt_3b067_13 ?_
  have hk : x.toNat < txL.getD i 0 := by unfold txN at hx; omega
  have hc := txC_all i hi x.toNat hk
  rw [Int.toNat_of_nonneg hx.1] at hc
  refine q_vt (w := iV (txC i x)) (by
    show Value.int _ = Value.int _
    rw [← hc.1]
    unfold iAnd
    rw [Int32.ofInt_toInt, Int32.ofInt_toInt]
    rfl) ?_
  exact k_reti (u := ()) F K rfl hc.2 dJ1_charAt_3b067_14 rfl
theorem yd_lch : yJ1_charAt_3b067.cls = "java/lang/StringLatin1" ∧ yJ1_charAt_3b067.cls ≠ "java/lang/invoke/MethodHandle" ∧ yJ1_charAt_3b067.cls ≠ "java/lang/invoke/VarHandle" ∧ (parseMethodDescriptor yJ1_charAt_3b067.desc).map (fun d => d.parameters.length) = some 2 := by decide +kernel
def vJ_charAt : List Cond := Cond.code yJ0_charAt_5068e cJ0_charAt_5068e 2 (some .char) :: bG
set_option maxRecDepth 100000 in
theorem j_charAt {l : Launch} {D : va_G} {E : cE} {ids : List Nat} {e : Nat → va_E} {i : Nat} {x : Int} (hi : i < 33) (hx : 0 ≤ x ∧ x < txN i) : gM l D E ids yJ0_charAt_5068e vJ_charAt (rmK 4 0 0) [.ref (E.2.1 1 i), iV x] e (fun _ : Unit => e) (fun v _ => v = some (iV (txC i x))) 0 0 := by
  refine k_ofW (own := RJ0) (cc := cJ0_charAt_5068e) (maxL := 2) (ret := some .char) (lv := [(0, .ref (E.2.1 1 i)), (1, iV x)]) (by decide) rfl rfl (Nat.le_of_ble_eq_true rfl) rfl ?_
  intro X hl hR hN hD F K
  subst hl; subst hD
  refine q_aload_n F 0 dJ0_charAt_5068e_0 rfl rfl ?_
  refine q_cG F (j_latin hi) (fun H locs hS => wk_recv (sK F) hi hS) (bV wd262 wd263 wd264 wd13 wd265) rfl ⟨rfl, rfl⟩ yd_latin (rmK_le hR (by omega) (by decide)) (av := []) rfl rfl (Nat.le_of_ble_eq_true rfl) dJ0_charAt_5068e_1 (rmK_cs hR (by omega) (by omega)) (fun v u hp => ?_)
  subst hp
  refine q_if_eq F (⟨by decide, by decide⟩ : inR 1) 16 dJ0_charAt_5068e_4 (by decide) (fun hc => absurd hc (by decide)) (fun hc => ?_)
  refine q_aload_n F 0 dJ0_charAt_5068e_7 rfl rfl ?_
  refine q_gOF F ((sK F i hi).1 0 (by decide)).2.2.1 wd831 rfl dJ0_charAt_5068e_8 ?_
  refine q_iload_n F 1 dJ0_charAt_5068e_11 rfl rfl ?_
  refine q_cS F (j_lch hi hx) (bS wd266 wd267 wd14 wd268) rfl ⟨rfl, rfl⟩ yd_lch.2 (rmK_le hR (by omega) (by decide)) (av := [.ref (E.2.1 2 i), iV x]) rfl rfl (Nat.le_of_ble_eq_true rfl) dJ0_charAt_5068e_12 (rmK_cs hR (by omega) (by omega)) (fun v u hp => ?_)
  subst hp
  have hk : x.toNat < txL.getD i 0 := by unfold txN at hx; omega
  have hc := txC_all i hi x.toNat hk
  rw [Int.toNat_of_nonneg hx.1] at hc
  exact k_reti (u := ()) F K rfl hc.2 dJ0_charAt_5068e_15 rfl
theorem yd_length : yJ0_length_8abf5.cls = "java/lang/String" ∧ yJ0_length_8abf5.cls ≠ "java/lang/invoke/MethodHandle" ∧ yJ0_length_8abf5.cls ≠ "java/lang/invoke/VarHandle" ∧ (parseMethodDescriptor yJ0_length_8abf5.desc).map (fun d => d.parameters.length) = some 0 := by decide +kernel
theorem yd_charAt : yJ0_charAt_5068e.cls = "java/lang/String" ∧ yJ0_charAt_5068e.cls ≠ "java/lang/invoke/MethodHandle" ∧ yJ0_charAt_5068e.cls ≠ "java/lang/invoke/VarHandle" ∧ (parseMethodDescriptor yJ0_charAt_5068e.desc).map (fun d => d.parameters.length) = some 1 := by decide +kernel
def vJ_ord : List Cond := Cond.code yJx29ce0_ordinal_8abf5 cJx29ce0_ordinal_8abf5 1 (some .int) :: bG
set_option maxRecDepth 100000 in
theorem j_ord {l : Launch} {D : va_G} {E : cE} {ids : List Nat} {e : Nat → va_E} {j : Nat} (hj : j < 12) : gM l D E ids yJx29ce0_ordinal_8abf5 vJ_ord (rmK 1 0 0) [.ref (E.2.1 0 j)] e (fun _ : Unit => e) (fun v _ => v = some (iV (kN j))) 0 0 := by
  refine k_ofW (own := RJx29ce0) (cc := cJx29ce0_ordinal_8abf5) (maxL := 1) (ret := some .int) (lv := [(0, .ref (E.2.1 0 j))]) (by decide) rfl rfl (Nat.le_of_ble_eq_true rfl) rfl ?_
  intro X hl hR hN hD F K
  subst hl; subst hD
  refine q_aload_n F 0 dJx29ce0_ordinal_8abf5_0 rfl rfl ?_
  refine q_gOF F (F.hS.2.1.2.1 j hj) wd833 rfl dJx29ce0_ordinal_8abf5_1 ?_
  exact k_reti (u := ()) (x := kN j) F K rfl rfl dJx29ce0_ordinal_8abf5_4 rfl
def vJ_bc : List Cond := Cond.code yJ6_bitCount_0f7a4 cJ6_bitCount_0f7a4 1 (some .int) :: bG
set_option maxRecDepth 100000 in
theorem j_bc {l : Launch} {D : va_G} {E : cE} {ids : List Nat} {e : Nat → va_E} {x : Int} (hx : inR x) : gM l D E ids yJ6_bitCount_0f7a4 vJ_bc (rmK 1 0 0) [iV x] e (fun _ : Unit => e) (fun v _ => v = some (iV (bc x))) 0 0 := by
  refine k_ofW (own := RJ6) (cc := cJ6_bitCount_0f7a4) (maxL := 1) (ret := some .int) (lv := [(0, iV x)]) (by decide) rfl rfl (Nat.le_of_ble_eq_true rfl) rfl ?_
  intro X hl hR hN hD F K
  subst hl; subst hD
  refine q_iload_n F 0 dJ6_bitCount_0f7a4_0 rfl rfl ?_
  refine q_iload_n F 0 dJ6_bitCount_0f7a4_1 rfl rfl ?_
  refine q_iconst F dJ6_bitCount_0f7a4_2 ?_
  refine q_iushr F dJ6_bitCount_0f7a4_3 ?_
  refine q_ldc_w F (n := 1431655765) wd649 dJ6_bitCount_0f7a4_4 ?_
  refine q_iand F dJ6_bitCount_0f7a4_7 ?_
  refine q_isub F dJ6_bitCount_0f7a4_8 ?_
  refine q_istore_n F [0] dJ6_bitCount_0f7a4_9 rfl (q_n hN (by decide)) rfl ?_
  refine q_iload_n F 0 dJ6_bitCount_0f7a4_10 rfl rfl ?_
  refine q_ldc_w F (n := 858993459) wd650 dJ6_bitCount_0f7a4_11 ?_
  refine q_iand F dJ6_bitCount_0f7a4_14 ?_
  refine q_iload_n F 0 dJ6_bitCount_0f7a4_15 rfl rfl ?_
  refine q_iconst F dJ6_bitCount_0f7a4_16 ?_
  refine q_iushr F dJ6_bitCount_0f7a4_17 ?_
  refine q_ldc_w F (n := 858993459) wd650 dJ6_bitCount_0f7a4_18 ?_
  refine q_iand F dJ6_bitCount_0f7a4_21 ?_
  refine q_iadd F dJ6_bitCount_0f7a4_22 ?_
  refine q_istore_n F [0] dJ6_bitCount_0f7a4_23 rfl (q_n hN (by decide)) rfl ?_
  refine q_iload_n F 0 dJ6_bitCount_0f7a4_24 rfl rfl ?_
  refine q_iload_n F 0 dJ6_bitCount_0f7a4_25 rfl rfl ?_
  refine q_iconst F dJ6_bitCount_0f7a4_26 ?_
  refine q_iushr F dJ6_bitCount_0f7a4_27 ?_
  refine q_iadd F dJ6_bitCount_0f7a4_28 ?_
  refine q_ldc_w F (n := 252645135) wd651 dJ6_bitCount_0f7a4_29 ?_
  refine q_iand F dJ6_bitCount_0f7a4_32 ?_
  refine q_istore_n F [0] dJ6_bitCount_0f7a4_33 rfl (q_n hN (by decide)) rfl ?_
  refine q_iload_n F 0 dJ6_bitCount_0f7a4_34 rfl rfl ?_
  refine q_iload_n F 0 dJ6_bitCount_0f7a4_35 rfl rfl ?_
  refine q_bipush F dJ6_bitCount_0f7a4_36 (by decide) ?_
  refine q_iushr F dJ6_bitCount_0f7a4_38 ?_
  refine q_iadd F dJ6_bitCount_0f7a4_39 ?_
  refine q_istore_n F [0] dJ6_bitCount_0f7a4_40 rfl (q_n hN (by decide)) rfl ?_
  refine q_iload_n F 0 dJ6_bitCount_0f7a4_41 rfl rfl ?_
  refine q_iload_n F 0 dJ6_bitCount_0f7a4_42 rfl rfl ?_
  refine q_bipush F dJ6_bitCount_0f7a4_43 (by decide) ?_
  refine q_iushr F dJ6_bitCount_0f7a4_45 ?_
  refine q_iadd F dJ6_bitCount_0f7a4_46 ?_
  refine q_istore_n F [0] dJ6_bitCount_0f7a4_47 rfl (q_n hN (by decide)) rfl ?_
  refine q_iload_n F 0 dJ6_bitCount_0f7a4_48 rfl rfl ?_
  refine q_bipush F dJ6_bitCount_0f7a4_49 (by decide) ?_
  refine q_iand F dJ6_bitCount_0f7a4_51 ?_
  refine k_reti (u := ()) F K rfl rfl dJ6_bitCount_0f7a4_52 ?_
  show some (Value.int _) = some (Value.int _)
  congr 2
  unfold bc bcI
  simp only [iAnd, Int32.ofInt_add, Int32.ofInt_sub, Int32.ofInt_toInt]
  rfl
theorem yd_bc : yJ6_bitCount_0f7a4.cls = "java/lang/Integer" ∧ yJ6_bitCount_0f7a4.cls ≠ "java/lang/invoke/MethodHandle" ∧ yJ6_bitCount_0f7a4.cls ≠ "java/lang/invoke/VarHandle" ∧ (parseMethodDescriptor yJ6_bitCount_0f7a4.desc).map (fun d => d.parameters.length) = some 1 := by decide +kernel
section JC
variable {X : xC} {E : cE} {own : String} {cc : ByteArray} {nc ns pc index mc ms k : Nat} {lv : List (Nat × Value)} {st : List Value} {ids : List Nat} {e : Nat → va_E} {T : va_W}
theorem q_slen (F : mF X E own cc bG) (hR : X.1.2.2.2 = rmK k mc ms) (hk : 3 ≤ k ∧ nc ≤ mc ∧ ns ≤ ms) {i : Nat} (hi : i < 33) (hl : Cond.methodLink own index yJ0_length_8abf5 ∈ bG) (hd : decode cc pc = .ok (.invokevirtual index, 3)) (hcat : (st.map fun v => v.category).sum ≤ 8) (kk : cW X nc ns (pc + 3) lv (iV (txN i) :: st) (gw E.1 ids e ++ T)) : cW X nc ns pc lv (.ref (E.2.1 1 i) :: st) (gw E.1 ids e ++ T) :=
  q_cG F (j_length hi) (fun H locs hS => wk_recv (sK F) hi hS) (bV hl wd249 wd250 wd13 wd251) rfl ⟨rfl, rfl⟩ yd_length (rmK_le hR (by omega) (by decide)) (av := []) rfl rfl hcat hd (rmK_cs hR (by omega) (by omega)) (fun v u hp => by subst hp; exact kk)
theorem q_sch (F : mF X E own cc bG) (hR : X.1.2.2.2 = rmK k mc ms) (hk : 5 ≤ k ∧ nc ≤ mc ∧ ns ≤ ms) {i : Nat} {x : Int} (hi : i < 33) (hx : 0 ≤ x ∧ x < txN i) (hl : Cond.methodLink own index yJ0_charAt_5068e ∈ bG) (hd : decode cc pc = .ok (.invokevirtual index, 3)) (hcat : (st.map fun v => v.category).sum ≤ 8) (kk : cW X nc ns (pc + 3) lv (iV (txC i x) :: st) (gw E.1 ids e ++ T)) : cW X nc ns pc lv (iV x :: .ref (E.2.1 1 i) :: st) (gw E.1 ids e ++ T) :=
  q_cG F (j_charAt hi hx) (fun H locs hS => wk_recv (sK F) hi hS) (bV hl wd259 wd260 wd13 wd261) rfl ⟨rfl, rfl⟩ yd_charAt (rmK_le hR (by omega) (by decide)) (av := [iV x]) rfl rfl hcat hd (rmK_cs hR (by omega) (by omega)) (fun v u hp => by subst hp; exact kk)
theorem q_bc (F : mF X E own cc bG) (hR : X.1.2.2.2 = rmK k mc ms) (hk : 2 ≤ k ∧ nc ≤ mc ∧ ns ≤ ms) {x : Int} (hx : inR x) (hl : Cond.methodLink own index yJ6_bitCount_0f7a4 ∈ bG) (hd : decode cc pc = .ok (.invokestatic index, 3)) (hcat : (st.map fun v => v.category).sum ≤ 8) (kk : cW X nc ns (pc + 3) lv (iV (bc x) :: st) (gw E.1 ids e ++ T)) : cW X nc ns pc lv (iV x :: st) (gw E.1 ids e ++ T) :=
  q_cS F (j_bc hx) (bS hl wd647 wd25 wd648) rfl ⟨rfl, rfl⟩ yd_bc.2 (rmK_le hR (by omega) (by decide)) (av := [iV x]) rfl rfl hcat hd (rmK_cs hR (by omega) (by omega)) (fun v u hp => by subst hp; exact kk)
theorem q_max (F : mF X E own cc bG) (hR : X.1.2.2.2 = rmK k mc ms) (hk : 1 ≤ k ∧ nc ≤ mc ∧ ns ≤ ms) {x y : Int} (hx : inR x) (hy : inR y) (hl : Cond.methodLink own index yJ9_max_7cf53 ∈ bG) (hd : decode cc pc = .ok (.invokestatic index, 3)) (hcat : (st.map fun v => v.category).sum ≤ 8) (kk : cW X nc ns (pc + 3) lv (iV (imax x y) :: st) (gw E.1 ids e ++ T)) : cW X nc ns pc lv (iV y :: iV x :: st) (gw E.1 ids e ++ T) := by
  intro H locs ls hP hD hS hlv
  refine va_mmax F.hx F.hb (F.hml.trans hlv.1.symm) F.ho (F.ht _ hl) (F.ht _ wd693) (F.ht _ wd24) (F.ht _ wd694) (by rw [hR]; exact hk.1) (by rw [hR]; show _ ≤ 60 * k; omega) (by rw [hR]; exact hk.2.1) (by rw [hR]; exact hk.2.2) hd ?_
  have h := kk H locs ls hP hD hS hlv
  have e1 : iV (imax x y) = .int (if Int32.ofInt x < Int32.ofInt y then Int32.ofInt y else Int32.ofInt x) := by
    unfold imax
    by_cases hc : x < y
    · rw [if_pos hc, if_pos ((ti_lt hx hy).mpr hc)]
    · rw [if_neg hc, if_neg (fun z => hc ((ti_lt hx hy).mp z))]
  rw [e1] at h
  exact h
theorem q_abs (F : mF X E own cc bG) (hR : X.1.2.2.2 = rmK k mc ms) (hk : 1 ≤ k ∧ nc ≤ mc ∧ ns ≤ ms) {x : Int} (hx : inR x) (hl : Cond.methodLink own index yJ9_abs_0f7a4 ∈ bG) (hd : decode cc pc = .ok (.invokestatic index, 3)) (hcat : (st.map fun v => v.category).sum ≤ 8) (kk : cW X nc ns (pc + 3) lv (iV (iabs x) :: st) (gw E.1 ids e ++ T)) : cW X nc ns pc lv (iV x :: st) (gw E.1 ids e ++ T) := by
  intro H locs ls hP hD hS hlv
  refine va_mabs F.hx F.hb (F.hml.trans hlv.1.symm) F.ho (F.ht _ hl) (F.ht _ wd818) (F.ht _ wd24) (F.ht _ wd819) (by rw [hR]; exact hk.1) (by rw [hR]; show _ ≤ 60 * k; omega) (by rw [hR]; exact hk.2.1) (by rw [hR]; exact hk.2.2) hd ?_
  have h := kk H locs ls hP hD hS hlv
  have e1 : iV (iabs x) = .int (if 0 ≤ Int32.ofInt x then Int32.ofInt x else 0 - Int32.ofInt x) := by
    unfold iabs
    have hle : (0 : Int32) ≤ Int32.ofInt x ↔ 0 ≤ x := ti_le ti_0 hx
    by_cases hc : 0 ≤ x
    · rw [if_pos hc, if_pos (hle.mpr hc)]
    · rw [if_neg hc, if_neg (fun z => hc (hle.mp z))]
      show Value.int _ = Value.int _
      congr 1
      rw [show -x = 0 - x by omega, Int32.ofInt_sub]
      rfl
  rw [e1] at h
  exact h
def xOrd : MethodName := ⟨"RiddleMill$Kind", "ordinal", "()I"⟩
theorem q_ord (F : mF X E own cc bG) (hR : X.1.2.2.2 = rmK k mc ms) (hk : 2 ≤ k ∧ nc ≤ mc ∧ ns ≤ ms) {j : Nat} (hj : j < 12) (hl : Cond.methodLink own index xOrd ∈ bG) (hd : decode cc pc = .ok (.invokevirtual index, 3)) (hcat : (st.map fun v => v.category).sum ≤ 8) (kk : cW X nc ns (pc + 3) lv (iV (kN j) :: st) (gw E.1 ids e ++ T)) : cW X nc ns pc lv (.ref (E.2.1 0 j) :: st) (gw E.1 ids e ++ T) := by
  refine q_cU (C := RX1) (owner := "java/lang/Enum") (x := xOrd) (y := yJx29ce0_ordinal_8abf5) F (j_ord hj) (fun H locs hS => ?_) ?_ rfl ⟨rfl, rfl⟩ rfl (by decide +kernel) (rmK_le hR (by omega) (by decide)) (av := []) rfl rfl hcat hd (rmK_cs hR (by omega) (by omega)) (fun v u hp => by subst hp; exact kk)
  · obtain ⟨cell, h1, h2, h3, -⟩ := (F.hS.2.1.1 j hj).kept hS.2.1
    exact ⟨cell, h1, h2, h3⟩
  · have hm : ∀ w ∈ va_wsU own index RX1 "java/lang/Enum" xOrd yJx29ce0_ordinal_8abf5 vJ_ord, w ∈ bG := by
      intro w h
      unfold va_wsU vJ_ord at h
      simp only [List.cons_append, List.nil_append, List.mem_cons] at h
      rcases h with rfl | rfl | rfl | rfl | rfl | rfl | h
      · exact hl
      · exact wd380
      · exact wd382
      · exact wd383
      · exact wd11
      · exact wd384
      · exact h
    exact fun w h => ⟨hm w h, good_of_word (List.mem_filter.mp (hm w h)).2⟩
end JC
