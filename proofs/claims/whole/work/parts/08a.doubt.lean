/-! ===== doubt: numbers of doubles ===== -/
theorem dn_all : ∀ a : Fin 126, ∀ b : Fin 126, 1 ≤ b.val → vf_n64 (FP.ddiv (FP.i2d (Int32.ofNat a.val)) (FP.i2d (Int32.ofNat b.val))) := by
  unfold vf_n64
  decide +kernel
def dQ (a b : Int) : UInt64 := FP.ddiv (FP.i2d (Int32.ofInt a)) (FP.i2d (Int32.ofInt b))
theorem dQ_n {a b : Int} (a0 : 0 ≤ a) (a1 : a ≤ 125) (b0 : 1 ≤ b) (b1 : b ≤ 125) : vf_n64 (dQ a b) := by
  have h := dn_all ⟨a.toNat, by omega⟩ ⟨b.toNat, by omega⟩ (by show 1 ≤ b.toNat; omega)
  have e : ∀ x : Int, 0 ≤ x → Int32.ofNat x.toNat = Int32.ofInt x := fun x x0 => by
    rw [← Int32.ofInt_eq_ofNat, Int.toNat_of_nonneg x0]
  unfold dQ
  rw [← e a a0, ← e b (by omega)]
  exact h
section QD
variable {X : xC} {E : cE} {own : String} {cc : ByteArray} {Ts : List Cond} {nc ns pc mc ms : Nat} {lv : List (Nat × Value)} {st : List Value} {ws : va_W}
theorem q_dconst0 (F : mF X E own cc Ts) (hd : decode cc pc = .ok (.dconst 0, 1)) (k : cW X nc ns (pc + 1) lv (.double FP.dconst0 :: st) ws) : cW X nc ns pc lv st ws := fun H locs ls hP hD hS hl => lv_dconst0 F.hx F.hb hd (k H locs ls hP hD hS hl)
theorem q_i2d (F : mF X E own cc Ts) {x : Int} (hd : decode cc pc = .ok (.i2d, 1)) (k : cW X nc ns (pc + 1) lv (.double (FP.i2d (Int32.ofInt x)) :: st) ws) : cW X nc ns pc lv (iV x :: st) ws := fun H locs ls hP hD hS hl => lv_i2d F.hx F.hb hd (k H locs ls hP hD hS hl)
theorem q_ddiv (F : mF X E own cc Ts) {x y : Int} (hd : decode cc pc = .ok (.ddiv, 1)) (hn : vf_n64 (dQ x y)) (k : cW X nc ns (pc + 1) lv (.double (dQ x y) :: st) ws) : cW X nc ns pc lv (.double (FP.i2d (Int32.ofInt y)) :: .double (FP.i2d (Int32.ofInt x)) :: st) ws := fun H locs ls hP hD hS hl => lv_ddiv F.hx F.hb hd hn (k H locs ls hP hD hS hl)
theorem k_retd {σ : Type} {ids : List Nat} {ret : Option FieldType} {ef : σ → Nat → va_E} {post : Option Value → σ → Prop} {u : σ} {T : va_W} (F : mF X E own cc Ts) (K : kX X E ids ret ef post mc ms) (hr : ret = some .double) {x : UInt64} (hd : decode cc pc = .ok (.dreturn, 1)) (hq : post (some (.double x)) u) : cW X mc ms pc lv [.double x] (gw E.1 ids (ef u) ++ T) := by
  intro H locs ls hP hD hS hl
  rw [K.2.2]
  exact W.dret F.hx F.hb (K.2.1.trans hr) (fun t ht hW => k_q K.1 hq hP hS ht _) (by have h := hS.2.2; rw [K.1] at h; exact h) hd F.hl
end QD
def pD (Q : UInt64 → cI → cR → Prop) : Option Value → cI × cR → Prop := fun v u => ∃ x, v = some (.double x) ∧ cM u.1 u.2 ∧ Q x u.1 u.2
def oD (Q : UInt64 → cI → Prop) : Option Value → cI → Prop := fun v u => ∃ x, v = some (.double x) ∧ mM u ∧ Q x u
def wX11_doubt (I : cI) (R : cR) (Q : UInt64 → cI → cR → Prop) : Prop := wX4_cellCount (R 0 7) I R (fun r1 I2 R3 => inR (r1 * I2 (R3 0 7) 2) ∧ (¬ 1 ≤ r1 * I2 (R3 0 7) 2 → Q FP.dconst0 I2 R3) ∧ (1 ≤ r1 * I2 (R3 0 7) 2 → wX6_countValues (R3 0 7) I2 R3 (fun r5 I6 R7 => vf_n64 (dQ r5 (r1 * I2 (R3 0 7) 2)) ∧ Q (dQ r5 (r1 * I2 (R3 0 7) 2)) I6 R7)))
def vX11_doubt : List Cond := Cond.code yX11_doubt cX11_doubt 2 (some .double) :: bG
theorem ydX11_doubt : yX11_doubt.cls = RX11 ∧ yX11_doubt.cls ≠ "java/lang/invoke/MethodHandle" ∧ yX11_doubt.cls ≠ "java/lang/invoke/VarHandle" ∧ (parseMethodDescriptor yX11_doubt.desc).map (fun d => d.parameters.length) = some 0 := by decide +kernel
set_option maxHeartbeats 4000000 in
set_option maxRecDepth 100000 in
theorem kcX11_doubt {l : Launch} {D : va_G} {E : cE} {I : cI} {R : cR} (hm : cM I R) {Q : UInt64 → cI → cR → Prop} (hw : wX11_doubt I R Q) : gM l D E cIds yX11_doubt vX11_doubt (rmK 3 (0) (0)) [.ref (E.1 0)] (cef E (I, R)) (cef E) (pD Q) (0) (0) := by
  unfold wX11_doubt at hw
  refine k_ofW (own := RX11) (cc := cX11_doubt) (maxL := 2) (ret := (some .double)) (lv := [(0, .ref (E.1 0))]) (by decide) rfl rfl (Nat.le_of_ble_eq_true rfl) rfl ?_
  intro X hl hR hN hD F K
  subst hl; subst hD
  refine q_aload_n F 0 dX11_doubt_0 rfl rfl ?_
  refine t_g_Mill_puzzle F (by decide) ib11 wd203 dX11_doubt_1 ?_
  refine q_Vi F (kcX4_cellCount hm (hm.2.1) hw) (cIds_in (kP0 (hm.2.1)).2) (cePuzzle (kP0 (hm.2.1)).1) (ci := 2) rfl (bV wd517 wd406 wd407 wd9 wd408) rfl ⟨rfl, rfl⟩ ydX4_cellCount (rmK_le hR (by omega) (by decide)) (av := []) rfl rfl (Nat.le_of_ble_eq_true rfl) dX11_doubt_4 (rmK_cs hR (by omega) (by omega)) (fun r1 I2 R3 h4 m5 hw => ?_)
  refine q_aload_n F 0 dX11_doubt_7 rfl rfl ?_
  refine t_g_Mill_puzzle F (by decide) ib11 wd203 dX11_doubt_8 ?_
  refine t_g_Puzzle_highest F (kP0 (m5.2.1)) ib4 wd180 dX11_doubt_11 ?_
  refine q_imul F dX11_doubt_14 ?_
  obtain ⟨k1, hw0, hw1⟩ := hw
  refine q_istore_n (lv' := [(0, .ref (E.1 0)), (1, iV (r1 * I2 (R3 0 7) 2))]) F [1, 0] dX11_doubt_15 rfl (q_n hN (by decide)) rfl ?_
  refine q_iload_n F 1 dX11_doubt_16 rfl rfl ?_
  refine q_iconst F dX11_doubt_17 ?_
  refine q_icmp_ge F k1 (⟨by decide, by decide⟩ : inR (1)) 23 dX11_doubt_18 (by decide) (fun hc => ?_) (fun hc => ?_)
  · have hw := hw1 hc
    refine q_aload_n F 0 dX11_doubt_23 rfl rfl ?_
    refine t_g_Mill_reasoner F (by decide) ib11 wd201 dX11_doubt_24 ?_
    refine q_aload_n F 0 dX11_doubt_27 rfl rfl ?_
    refine t_g_Mill_puzzle F (by decide) ib11 wd203 dX11_doubt_28 ?_
    refine q_Vi F (kcX6_countValues m5 (m5.2.1) hw) (cIds_in (show ckd 80 = 4 ∧ 80 < 353 by decide).2) (ceReasoner (show ckd 80 = 4 ∧ 80 < 353 by decide).1) (ci := 4) rfl (bV wd428 wd429 wd430 wd7 wd431) rfl ⟨rfl, rfl⟩ ydX6_countValues (rmK_le hR (by omega) (by decide)) (av := [.ref (E.1 ((R3 0 7)))]) rfl rfl (Nat.le_of_ble_eq_true rfl) dX11_doubt_31 (rmK_cs hR (by omega) (by omega)) (fun r6 I7 R8 h9 m10 hw => ?_)
    refine q_i2d F dX11_doubt_34 ?_
    refine q_iload_n F 1 dX11_doubt_35 rfl rfl ?_
    refine q_i2d F dX11_doubt_36 ?_
    refine q_ddiv F dX11_doubt_37 hw.1 ?_
    exact k_retd (u := (I7, R8)) F K rfl dX11_doubt_38 ⟨_, rfl, m10, hw.2⟩
  · have hw := hw0 hc
    refine q_dconst0 F dX11_doubt_21 ?_
    exact k_retd (u := (I2, R3)) F K rfl dX11_doubt_22 ⟨_, rfl, m5, hw⟩
/-! the reference -/
def wX12_doubt_35 (Q : UInt64 → cI → Prop) (x1 : Int) (J : cI) : Prop := (J 1000 11 = 0 → Q FP.dconst0 J) ∧ (¬ J 1000 11 = 0 → wX12_cells J (fun r J2 => vf_n64 (dQ x1 (r * J2 1000 13)) ∧ Q (dQ x1 (r * J2 1000 13)) J2))
def wbX12_doubt_9 (Q : UInt64 → cI → Prop) (rk : Int → Int → cI → Prop) (x1 : Int) (x2 : Int) (J : cI) : Prop := wX12_cells J (fun r J2 => (r ≤ x2 → wX12_doubt_35 Q x1 J2) ∧ (¬ r ≤ x2 → (0 ≤ x2 ∧ x2 < 25) ∧ inR (x1 + bc (J2 1030 x2)) ∧ ∀ z : Int, z = x1 + bc (J2 1030 x2) → inR (x2 + 1) ∧ ∀ z' : Int, z' = x2 + 1 → rk z z' J2))
def wX12_doubt_9 (Q : UInt64 → cI → Prop) : Nat → Int → Int → cI → Prop
  | 0 => fun _ _ _ => False
  | n + 1 => wbX12_doubt_9 Q (wX12_doubt_9 Q n)
def wX12_doubt (J : cI) (Q : UInt64 → cI → Prop) : Prop := ∀ J1 : cI, J1 = up2 J 1000 0 0 → ∃ n, wX12_doubt_9 Q n 0 0 J1
def vX12_doubt : List Cond := Cond.code yX12_doubt cX12_doubt 3 (some .double) :: bG
theorem ydX12_doubt : yX12_doubt.cls = RX12 ∧ yX12_doubt.cls ≠ "java/lang/invoke/MethodHandle" ∧ yX12_doubt.cls ≠ "java/lang/invoke/VarHandle" ∧ (parseMethodDescriptor yX12_doubt.desc).map (fun d => d.parameters.length) = some 0 := by decide +kernel
set_option maxHeartbeats 4000000 in
set_option maxRecDepth 100000 in
theorem kcX12_doubt {l : Launch} {D : va_G} {E : cE} {J : cI} (hm : mM J) {Q : UInt64 → cI → Prop} (hw : wX12_doubt J Q) : gM l D E mIds yX12_doubt vX12_doubt (rmK 2 (0) (0)) [.ref (E.1 1000)] (mef E J) (mef E) (oD Q) (0) (0) := by
  unfold wX12_doubt at hw
  refine k_ofW (own := RX12) (cc := cX12_doubt) (maxL := 3) (ret := (some .double)) (lv := [(0, .ref (E.1 1000))]) (by decide) rfl rfl (Nat.le_of_ble_eq_true rfl) rfl ?_
  intro X hl hR hN hD F K
  subst hl; subst hD
  refine q_aload_n F 0 dX12_doubt_0 rfl rfl ?_
  refine q_iconst F dX12_doubt_1 ?_
  obtain ⟨J1, e1⟩ := ex1 (up2 J 1000 0 0)
  have hw := hw J1 e1
  have m1 : mM J1 := mM_I hm e1 (⟨by decide, by decide⟩ : inR (0))
  refine s_p_thrown F ib12 wd873 e1 dX12_doubt_2 ?_
  refine q_iconst F dX12_doubt_5 ?_
  refine q_istore_n (lv' := [(0, .ref (E.1 1000)), (1, iV 0)]) F [1, 0] dX12_doubt_6 rfl (q_n hN (by decide)) rfl ?_
  refine q_iconst F dX12_doubt_7 ?_
  refine q_istore_n (lv' := [(0, .ref (E.1 1000)), (1, iV 0), (2, iV 0)]) F [1, 2, 0] dX12_doubt_8 rfl (q_n hN (by decide)) rfl ?_
  obtain ⟨n, hw⟩ := hw
  have L : ∀ (n : Nat) (x1 x2 : Int) (J : cI), inR x1 → inR x2 → mM J → wX12_doubt_9 Q n x1 x2 J → cW X (0) (0) 9 [(0, .ref (E.1 1000)), (1, iV x1), (2, iV x2)] [] (gw E.1 mIds (mef E J) ++ []) := by
    intro n
    induction n with
    | zero => intro x1 x2 J h1 h2 hm hw; exact hw.elim
    | succ n ih =>
      intro x1 x2 J h1 h2 hm hw
      change wbX12_doubt_9 Q (wX12_doubt_9 Q n) x1 x2 J at hw
      unfold wbX12_doubt_9 at hw
      refine q_iload_n F 2 dX12_doubt_9 rfl rfl ?_
      refine q_aload_n F 0 dX12_doubt_10 rfl rfl ?_
      refine q_ViM F (kcX12_cells hm hw) (by decide) meObj (ci := 10) rfl (bV wd1003 wd1004 wd1305 wd13 wd1005) rfl ⟨rfl, rfl⟩ ydX12_cells (rmK_le hR (by omega) (by decide)) (av := []) rfl rfl (Nat.le_of_ble_eq_true rfl) dX12_doubt_11 (rmK_cs hR (by omega) (by omega)) (fun r1 J2 h3 m4 hw => ?_)
      refine q_icmp_ge F h2 h3 35 dX12_doubt_14 (by decide) (fun hc => ?_) (fun hc => ?_)
      · have hw := hw.1 hc
        unfold wX12_doubt_35 at hw
        refine q_aload_n F 0 dX12_doubt_35 rfl rfl ?_
        refine s_g_w F ib12 wd884 dX12_doubt_36 ?_
        refine q_if_ne F (m4 _ _) 46 dX12_doubt_39 (by decide) (fun hc => ?_) (fun hc => ?_)
        · have hw := hw.2 hc
          refine q_iload_n F 1 dX12_doubt_46 rfl rfl ?_
          refine q_i2d F dX12_doubt_47 ?_
          refine q_aload_n F 0 dX12_doubt_48 rfl rfl ?_
          refine q_ViM F (kcX12_cells m4 hw) (by decide) meObj (ci := 10) rfl (bV wd1003 wd1004 wd1305 wd13 wd1005) rfl ⟨rfl, rfl⟩ ydX12_cells (rmK_le hR (by omega) (by decide)) (av := []) rfl rfl (Nat.le_of_ble_eq_true rfl) dX12_doubt_49 (rmK_cs hR (by omega) (by omega)) (fun r6 J7 h8 m9 hw => ?_)
          refine q_aload_n F 0 dX12_doubt_52 rfl rfl ?_
          refine s_g_k F ib12 wd886 dX12_doubt_53 ?_
          refine q_imul F dX12_doubt_56 ?_
          refine q_i2d F dX12_doubt_57 ?_
          refine q_ddiv F dX12_doubt_58 hw.1 ?_
          exact k_retd (u := J7) F K rfl dX12_doubt_59 ⟨_, rfl, m9, hw.2⟩
        · have hw := hw.1 hc
          refine q_dconst0 F dX12_doubt_42 ?_
          refine q_goto F 59 dX12_doubt_43 (by decide) ?_
          exact k_retd (u := J2) F K rfl dX12_doubt_59 ⟨_, rfl, m4, hw⟩
      · obtain ⟨k1, k2, hw⟩ := hw.2 hc
        refine q_iload_n F 1 dX12_doubt_17 rfl rfl ?_
        refine q_aload_n F 0 dX12_doubt_18 rfl rfl ?_
        refine s_g_sets F ib12 wd903 dX12_doubt_19 ?_
        refine q_iload_n F 2 dX12_doubt_22 rfl rfl ?_
        refine s_ald F 25 kM_sets k1 (by decide) dX12_doubt_23 ?_
        refine q_bc F hR (by omega) (m4 _ _) wd1006 dX12_doubt_24 (Nat.le_of_ble_eq_true rfl) ?_
        refine q_iadd F dX12_doubt_27 ?_
        obtain ⟨z8, e9⟩ := ex1 (x1 + bc (J2 1030 x2))
        obtain ⟨k3, hw⟩ := hw z8 e9
        have hz8 : inR z8 := by rw [e9]; exact k2
        refine q_top e9 ?_
        refine q_istore_n (lv' := [(0, .ref (E.1 1000)), (1, iV z8), (2, iV x2)]) F [1, 0, 2] dX12_doubt_28 rfl (q_n hN (by decide)) rfl ?_
        obtain ⟨z10, e11⟩ := ex1 (x2 + 1)
        have hw := hw z10 e11
        have hz10 : inR z10 := by rw [e11]; exact k3
        refine q_iinc (lv' := [(0, .ref (E.1 1000)), (1, iV z8), (2, iV z10)]) F 2 [1, 2, 0] dX12_doubt_29 rfl (q_n hN (by decide)) e11.symm rfl ?_
        refine q_goto F 9 dX12_doubt_32 (by decide) ?_
        exact ih z8 z10 J2 hz8 hz10 m4 hw
  exact L n 0 0 J1 (⟨by decide, by decide⟩ : inR (0)) (⟨by decide, by decide⟩ : inR (0)) m1 hw
/-! both answer alike -/
theorem st_doubt {I : cI} {R : cR} {J : cI} (h : INV I R J) : wX11_doubt I R (fun d I' R' => wX12_doubt J (fun d' J' => J' 1000 0 = 0 ∧ d = d' ∧ INV I' R' J')) := by
  have hb := vM_b h.2.1
  have hs := h.2.1.1
  have hk : 0 ≤ J 1000 13 ∧ J 1000 13 ≤ 5 := by omega
  have i0 := h.1.2.2.2.1
  have i1 := h.1.2.2.2.2.1
  have i2 := h.1.2.2.2.2.2.1
  have eM : vM J = J 1000 11 * J 1000 12 := rfl
  have hS := h.2.2.1.1
  have bS : ∀ c, 0 ≤ c → c < vM J → 0 ≤ J 1030 c ∧ J 1030 c < 32 := fun c c0 c1 => (hS c c0 (by omega)).2
  have sb := sF_b (f := fun c => bc (J 1030 c)) (n := vM J) (m := 5) (fun c c0 c1 => bc_b (bS c c0 c1).1 (bS c c0 c1).2) (by decide) 0 (Int.le_refl 0) hb.1
  have km0 := Int.mul_nonneg hb.1 hk.1
  have km1 := Int.mul_le_mul hb.2.1 hk.2 hk.1 (by decide)
  have kmp : J 1000 11 = 0 ∨ 1 ≤ vM J * J 1000 13 := by
    rcases hs with a | a
    · exact Or.inl a.1
    · have := Int.mul_le_mul (show (1 : Int) ≤ vM J by have := hb.2.2.2 (by omega); omega) (show (1 : Int) ≤ J 1000 13 by omega) (by decide) hb.1
      omega
  have h0 := INV_0 (v := 0) h
  -- the reference
  have ref : ∀ d : UInt64, (J 1000 11 = 0 → d = FP.dconst0) → (¬ J 1000 11 = 0 → d = dQ (sF (fun c => bc (J 1030 c)) 0 (vM J)) (vM J * J 1000 13)) → wX12_doubt J (fun d' J' => J' 1000 0 = 0 ∧ d = d' ∧ INV I R J') := fun d dz dn => by
    intro J1 e1
    have f1 : ∀ b x, ¬ (b = 1000 ∧ x = 0) → J1 b x = J b x := fun b x q => by rw [e1]; exact u2n q
    refine ⟨26, ?_⟩
    have L : ∀ (m : Nat) (x s : Int), 0 ≤ x → x ≤ vM J → vM J - x < m → 0 ≤ s → s ≤ 5 * x → s + sF (fun c => bc (J 1030 c)) x (vM J) = sF (fun c => bc (J 1030 c)) 0 (vM J) → wX12_doubt_9 (fun d' J' => J' 1000 0 = 0 ∧ d = d' ∧ INV I R J') m s x J1 := by
      intro m
      induction m with
      | zero => intro x s h0 h1 h2; omega
      | succ m ih =>
        intro x s x0 x1 x2 s0 s1 es
        show wbX12_doubt_9 _ (wX12_doubt_9 _ m) s x J1
        unfold wbX12_doubt_9 wX12_cells
        dsimp only
        rw [f1 1000 11 (by omega), f1 1000 12 (by omega), f1 1030 x (by omega), ← eM]
        refine ⟨by unfold inR; omega, fun c => ?_, fun c => ?_⟩
        · unfold wX12_doubt_35 wX12_cells
          dsimp only
          rw [f1 1000 11 (by omega), f1 1000 12 (by omega), f1 1000 13 (by omega), ← eM]
          rw [sF_e (by omega)] at es
          have es' : s = sF (fun c => bc (J 1030 c)) 0 (vM J) := by omega
          have inv1 : INV I R J1 := by rw [e1]; exact h0
          have z1 : J1 1000 0 = 0 := by rw [e1]; exact u2e
          refine ⟨fun w => ⟨z1, dz w, inv1⟩, fun w => ⟨by unfold inR; omega, ?_, z1, ?_, inv1⟩⟩
          · exact dQ_n s0 (by omega) (by omega) (by omega)
          · rw [es']; exact dn w
        · have bb := bc_b (bS x x0 (by omega)).1 (bS x x0 (by omega)).2
          rw [sF_s (by omega)] at es
          refine ⟨by omega, by unfold inR; omega, fun z hz => ⟨by unfold inR; omega, fun z' hz' => ?_⟩⟩
          rw [hz, hz']
          exact ih (x + 1) _ (by omega) (by omega) (by omega) (by omega) (by omega) (by omega)
    exact L 26 0 0 (Int.le_refl 0) hb.1 (by omega) (Int.le_refl 0) (by decide) (by omega)
  unfold wX11_doubt wX4_cellCount
  dsimp only
  rw [i0, i1, i2, ← eM]
  refine ⟨by unfold inR; omega, by unfold inR; omega, fun c => ?_, fun c => ?_⟩
  · exact ref _ (fun _ => rfl) (fun w => by omega)
  · have hne : ¬ J 1000 11 = 0 := fun w => by rw [hb.2.2.1 w, Int.zero_mul] at c; omega
    have e81 : sF (fun c => bc (I 81 c)) 0 (vM J) = sF (fun c => bc (J 1030 c)) 0 (vM J) := sF_cg 0 (fun c c0 c1 => by rw [(hS c c0 (by omega)).1])
    refine c_values (M := vM J) (by rw [i0, i1, eM]) hb.1 hb.2.1 (fun c c0 c1 => by rw [(hS c c0 (by omega)).1]; exact bS c c0 c1) ?_
    rw [e81]
    exact ⟨dQ_n sb.1 (by omega) c (by omega), ref _ (fun w => absurd w hne) (fun _ => rfl)⟩
