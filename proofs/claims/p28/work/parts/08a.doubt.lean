/-! ===== doubt: numbers of doubles ===== -/
theorem dn_all : ∀ a : Fin 126, ∀ b : Fin 126, 1 ≤ b.val → vf_n64 (FP.ddiv (FP.i2d (Int32.ofNat a.val)) (FP.i2d (Int32.ofNat b.val))) := by
  unfold vf_n64
  decide +kernel
def dQ (a b : Int) : UInt64 := FP.ddiv (FP.i2d (Int32.ofInt a)) (FP.i2d (Int32.ofInt b))
theorem dQ_n {a b : Int} (a0 : 0 ≤ a) (a1 : a ≤ 125) (b0 : 1 ≤ b) (b1 : b ≤ 125) : vf_n64 (dQ a b) := by
  have h := dn_all ⟨a.toNat, by omega⟩ ⟨b.toNat, by omega⟩ (by show 1 ≤ b.toNat; omega)
  have e : ∀ x : Int, 0 ≤ x → Int32.ofNat x.toNat = Int32.ofInt x := fun x x0 => by
    rw [← Int32.ofInt_eq_ofNat, Int.toNat_of_nonneg x0]
  unfold dQ
  rw [← e a a0, ← e b (by omega)]
  exact h
section QD
variable {X : xC} {E : cE} {own : String} {cc : ByteArray} {Ts : List Cond} {nc ns pc mc ms : Nat} {lv : List (Nat × Value)} {st : List Value} {ws : va_W}
theorem q_dconst0 (F : mF X E own cc Ts) (hd : decode cc pc = .ok (.dconst 0, 1)) (k : cW X nc ns (pc + 1) lv (.double FP.dconst0 :: st) ws) : cW X nc ns pc lv st ws := fun H locs ls hP hD hS hl => lv_dconst0 F.hx F.hb hd (k H locs ls hP hD hS hl)
theorem q_i2d (F : mF X E own cc Ts) {x : Int} (hd : decode cc pc = .ok (.i2d, 1)) (k : cW X nc ns (pc + 1) lv (.double (FP.i2d (Int32.ofInt x)) :: st) ws) : cW X nc ns pc lv (iV x :: st) ws := fun H locs ls hP hD hS hl => lv_i2d F.hx F.hb hd (k H locs ls hP hD hS hl)
theorem q_ddiv (F : mF X E own cc Ts) {x y : Int} (hd : decode cc pc = .ok (.ddiv, 1)) (hn : vf_n64 (dQ x y)) (k : cW X nc ns (pc + 1) lv (.double (dQ x y) :: st) ws) : cW X nc ns pc lv (.double (FP.i2d (Int32.ofInt y)) :: .double (FP.i2d (Int32.ofInt x)) :: st) ws := fun H locs ls hP hD hS hl => lv_ddiv F.hx F.hb hd hn (k H locs ls hP hD hS hl)
theorem k_retd {σ : Type} {ids : List Nat} {ret : Option FieldType} {ef : σ → Nat → va_E} {post : Option Value → σ → Prop} {u : σ} {T : va_W} (F : mF X E own cc Ts) (K : kX X E ids ret ef post mc ms) (hr : ret = some .double) {x : UInt64} (hd : decode cc pc = .ok (.dreturn, 1)) (hq : post (some (.double x)) u) : cW X mc ms pc lv [.double x] (gw E.1 ids (ef u) ++ T) := by
  intro H locs ls hP hD hS hl
  rw [K.2.2]
  exact W.dret F.hx F.hb (K.2.1.trans hr) (fun t ht hW => k_q K.1 hq hP hS ht _) (by have h := hS.2.2; rw [K.1] at h; exact h) hd F.hl
end QD
def pD (Q : UInt64 → cI → cR → Prop) : Option Value → cI × cR → Prop := fun v u => ∃ x, v = some (.double x) ∧ cM u.1 u.2 ∧ Q x u.1 u.2
def wX11_doubt (I : cI) (R : cR) (Q : UInt64 → cI → cR → Prop) : Prop := wX4_cellCount (R 0 7) I R (fun r1 I2 R3 => inR (r1 * I2 (R3 0 7) 2) ∧ (¬ 1 ≤ r1 * I2 (R3 0 7) 2 → Q FP.dconst0 I2 R3) ∧ (1 ≤ r1 * I2 (R3 0 7) 2 → wX6_countValues (R3 0 7) I2 R3 (fun r5 I6 R7 => vf_n64 (dQ r5 (r1 * I2 (R3 0 7) 2)) ∧ Q (dQ r5 (r1 * I2 (R3 0 7) 2)) I6 R7)))
def vX11_doubt : List Cond := Cond.code yX11_doubt cX11_doubt 2 (some .double) :: bG
theorem ydX11_doubt : yX11_doubt.cls = RX11 ∧ yX11_doubt.cls ≠ "java/lang/invoke/MethodHandle" ∧ yX11_doubt.cls ≠ "java/lang/invoke/VarHandle" ∧ (parseMethodDescriptor yX11_doubt.desc).map (fun d => d.parameters.length) = some 0 := by decide +kernel
set_option maxHeartbeats 4000000 in
set_option maxRecDepth 100000 in
theorem kcX11_doubt {l : Launch} {D : va_G} {E : cE} {I : cI} {R : cR} (hm : cM I R) {Q : UInt64 → cI → cR → Prop} (hw : wX11_doubt I R Q) : gM l D E cIds yX11_doubt vX11_doubt (rmK 3 (0) (0)) [.ref (E.1 0)] (cef E (I, R)) (cef E) (pD Q) (0) (0) := by
  unfold wX11_doubt at hw
  refine k_ofW (own := RX11) (cc := cX11_doubt) (maxL := 2) (ret := (some .double)) (lv := [(0, .ref (E.1 0))]) (by decide) rfl rfl (Nat.le_of_ble_eq_true rfl) rfl ?_
  intro X hl hR hN hD F K
  subst hl; subst hD
  refine q_aload_n F 0 dX11_doubt_0 rfl rfl ?_
  refine t_g_Mill_puzzle F (by decide) ib11 wd201 dX11_doubt_1 ?_
  refine q_Vi F (kcX4_cellCount hm (hm.2.1) hw) (cIds_in (kP0 (hm.2.1)).2) (cePuzzle (kP0 (hm.2.1)).1) (ci := 2) rfl (bV wd580 wd404 wd405 wd9 wd406) rfl ⟨rfl, rfl⟩ ydX4_cellCount (rmK_le hR (by omega) (by decide)) (av := []) rfl rfl (Nat.le_of_ble_eq_true rfl) dX11_doubt_4 (rmK_cs hR (by omega) (by omega)) (fun r1 I2 R3 h4 m5 hw => ?_)
  refine q_aload_n F 0 dX11_doubt_7 rfl rfl ?_
  refine t_g_Mill_puzzle F (by decide) ib11 wd201 dX11_doubt_8 ?_
  refine t_g_Puzzle_highest F (kP0 (m5.2.1)) ib4 wd178 dX11_doubt_11 ?_
  refine q_imul F dX11_doubt_14 ?_
  obtain ⟨k1, hw0, hw1⟩ := hw
  refine q_istore_n (lv' := [(0, .ref (E.1 0)), (1, iV (r1 * I2 (R3 0 7) 2))]) F [1, 0] dX11_doubt_15 rfl (q_n hN (by decide)) rfl ?_
  refine q_iload_n F 1 dX11_doubt_16 rfl rfl ?_
  refine q_iconst F dX11_doubt_17 ?_
  refine q_icmp_ge F k1 (⟨by decide, by decide⟩ : inR (1)) 23 dX11_doubt_18 (by decide) (fun hc => ?_) (fun hc => ?_)
  · have hw := hw1 hc
    refine q_aload_n F 0 dX11_doubt_23 rfl rfl ?_
    refine t_g_Mill_reasoner F (by decide) ib11 wd199 dX11_doubt_24 ?_
    refine q_aload_n F 0 dX11_doubt_27 rfl rfl ?_
    refine t_g_Mill_puzzle F (by decide) ib11 wd201 dX11_doubt_28 ?_
    refine q_Vi F (kcX6_countValues m5 (m5.2.1) hw) (cIds_in (show ckd 80 = 4 ∧ 80 < 353 by decide).2) (ceReasoner (show ckd 80 = 4 ∧ 80 < 353 by decide).1) (ci := 4) rfl (bV wd642 wd643 wd644 wd7 wd645) rfl ⟨rfl, rfl⟩ ydX6_countValues (rmK_le hR (by omega) (by decide)) (av := [.ref (E.1 ((R3 0 7)))]) rfl rfl (Nat.le_of_ble_eq_true rfl) dX11_doubt_31 (rmK_cs hR (by omega) (by omega)) (fun r6 I7 R8 h9 m10 hw => ?_)
    refine q_i2d F dX11_doubt_34 ?_
    refine q_iload_n F 1 dX11_doubt_35 rfl rfl ?_
    refine q_i2d F dX11_doubt_36 ?_
    refine q_ddiv F dX11_doubt_37 hw.1 ?_
    exact k_retd (u := (I7, R8)) F K rfl dX11_doubt_38 ⟨_, rfl, m10, hw.2⟩
  · have hw := hw0 hc
    refine q_dconst0 F dX11_doubt_21 ?_
    exact k_retd (u := (I2, R3)) F K rfl dX11_doubt_22 ⟨_, rfl, m5, hw⟩
