/-! ===== the law's rounds: what both sides answer ===== -/
/-- after the class's call: r, what stands in out[0], and what the reference will say -/
def Qo (W : (Int → cI → Prop) → Prop) (r x : Int) (I : cI) (R : cR) : Prop := W (fun b J' => J' 1000 0 = r ∧ (r = 0 → x = b) ∧ INV I R J')
theorem Qo_0 {W : (Int → cI → Prop) → Prop} : okN W = fun x I R => Qo W 0 x I R := by
  funext x I R
  unfold okN Qo
  congr 1
  funext b J'
  exact propext ⟨fun h => ⟨h.1, fun _ => h.2.1, h.2.2⟩, fun h => ⟨h.1, h.2.1 rfl, h.2.2⟩⟩
theorem Qo_x {f : Nat → Int} {W : (Int → cI → Prop) → Prop} {x0 : Int} : okX f W = fun k I R => 1 ≤ f k ∧ Qo W (f k) x0 I R := by
  funext k I R
  unfold okX Qo
  refine propext (and_congr_right (fun hk => ?_))
  have : (fun (_ : Int) (J : cI) => J 1000 0 = f k ∧ INV I R J) = fun b J' => J' 1000 0 = f k ∧ (f k = 0 → x0 = b) ∧ INV I R J' := by
    funext b J'
    exact propext ⟨fun h => ⟨h.1, fun z => by omega, h.2⟩, fun h => ⟨h.1, h.2.2⟩⟩
  rw [this]
section LR
variable {X : xC} {E : cE} {own : String} {cc : ByteArray} {nc ns pc kc ks : Nat} {lv lv' : List (Nat × Value)} {st : List Value} {T w : va_W} {I : cI} {R : cR} {cL : ClassId}
theorem l_pre (F : mF X E own cc bG) (hG : lG X.2.2.2.2 cL X.2.1.1) {u : (cI × cR) × Int} {H : Heap} {locs : List Loc} (hP : va_P X.2.2.2.2 vwCl (gw E.1 lIds (lef E cL u) ++ T) H) (hD : va_D X.2.2.2.1 (gw E.1 lIds (lef E cL u) ++ T)) (hS : va_S X.2.2.2.1 X.2.1.1.heap H locs) (av : List Value) : ∀ U : State, U.heap = H → X.2.1.1.WarmedH U.vm → va_Pc av (lP X.2.2.2.2 E cL H.size u) av.toArray U := by
  intro U hU hW
  have h := k_pre F hP hD hS av U hU hW
  exact ⟨h.1, h.2, hG.moved hW.alike⟩
/-- a call of the law's own, that catches -/
theorem q_cSL (F : mF X E own cc bG) (hG : lG X.2.2.2.2 cL X.2.1.1) {Qw : Int → Int → cI → cR → Prop} {u : (cI × cR) × Int} {y : MethodName} {bytes : ByteArray} {maxL n index mc ms : Nat} {hh : List (Nat × Nat × Nat × Nat)} {rt : Option FieldType} {wsY wsY' : List Cond} {rm : Room} {av st0 : List Value}
    (hM : lM X.1.2.1 X.2.2.2.2 E cL y wsY rm av u (oL Qw) mc ms) (hg : GoodIn bG (va_wsS own index y wsY)) (hw : wsY = Cond.codeWith y bytes maxL rt hh :: wsY') (hrc : rm.cells = mc ∧ rm.slots = ms)
    (hy : y.cls ≠ "java/lang/invoke/MethodHandle" ∧ y.cls ≠ "java/lang/invoke/VarHandle" ∧ (parseMethodDescriptor y.desc).map (fun d => d.parameters.length) = some n) (hR : rm.frames + 1 ≤ X.1.2.2.2.frames ∧ 8 + (maxL + 11) + rm.locals ≤ X.1.2.2.2.locals)
    (hn : av.length = n) (hst : st0 = av.reverse ++ st) (hcat : (st.map fun v => v.category).sum ≤ 8) (hd : decode cc pc = .ok (.invokestatic index, 3)) (hcs : nc + mc ≤ X.1.2.2.2.cells ∧ ns + ms ≤ X.1.2.2.2.slots)
    (kk : ∀ (r x : Int) (I2 : cI) (R2 : cR), inR r → cM I2 R2 → Qw r x I2 R2 → cW X (nc + mc) (ns + ms) (pc + 3) lv (iV r :: st) (gw E.1 lIds (lef E cL ((I2, R2), x)) ++ T)) : cW X nc ns pc lv st0 (gw E.1 lIds (lef E cL u) ++ T) := by
  intro H locs ls hP hD hS hlv
  have ho := k_own F.hA hD hS
  refine g_callq (vx_runSW (As := av) (rest := st) ⟨F.hx, F.hb, F.hml, F.ho, F.ht⟩ (hM H.size) (vx_cwSW n F.ht hg hw hrc.1 hrc.2 hy hR) ⟨lP_blind, l_pre F hG hP hD hS _⟩ rfl hn hlv.1 hst (lv_room hcat) hd hcs) hS (fun z _ h => ho z h) ho (fun v u2 H1 locs1 hp hB hk hS1 => ?_)
  obtain ⟨r, rfl, hr, hm, hq⟩ := hp
  exact kk r u2.2 u2.1.1 u2.1.2 hr hm hq H1 locs1 ls (gP_join hP hD hk hB) (gD_join hD) hS1 hlv
/-- out[0] -/
theorem l_in (F : mF X E own cc bG) (hG : lG X.2.2.2.2 cL X.2.1.1) {x : Int} {u : cI × cR} (hd : decode cc pc = .ok (.laload, 1)) (k : cW X nc ns (pc + 1) lv (jV x :: st) (gw E.1 lIds (lef E cL (u, x)) ++ T)) : cW X nc ns pc lv (iV 0 :: .ref (E.1 2000) :: st) (gw E.1 lIds (lef E cL (u, x)) ++ T) := by
  rw [l_split] at k ⊢
  intro H locs ls hP hD hS hlv
  exact va_lald F.hx F.hb (F.hK.app hG.1) hP (cIds.length + 0) 3 (cA := cL) (n := 1) (f := fun _ => Int64.ofInt x) (gw_tmp 0 rfl) rfl (ti_in (by decide) (by decide) (by decide)) hd (k H locs ls hP hD hS hlv)
/-- two longs that are one -/
theorem q_lcmp0 (F : mF X E own cc bG) {x y : Int} (h : x = y) (hd : decode cc pc = .ok (.lcmp, 1)) (k : cW X nc ns (pc + 1) lv (iV 0 :: st) w) : cW X nc ns pc lv (jV y :: jV x :: st) w := fun H locs ls hP hD hS hl => W.lcmp F.hx F.hb hd (by
  have e : lg_cmp (Int64.ofInt x) (Int64.ofInt y) = Int32.ofInt 0 := by
    subst h
    unfold lg_cmp
    rw [if_neg (Int64.lt_irrefl), if_pos rfl]
    rfl
  rw [e]
  exact k H locs ls hP hD hS hl)
/-- the script -/
def sX (X : xC) (b L : Nat) (xs : Nat → Int32) : Prop := va_X b L xs X.2.1.1 X.2.1.1.heap ∧ b < X.2.1.1.heap.size ∧ ¬ X.2.2.2.1 b ∧ L ≤ 3072
theorem r_slen (F : mF X E own cc bG) {b L : Nat} {xs : Nat → Int32} (hX : sX X b L xs) (hd : decode cc pc = .ok (.arraylength, 1)) (k : cW X nc ns (pc + 1) lv (iV L :: st) w) : cW X nc ns pc lv (.ref b :: st) w := fun H locs ls hP hD hS hl =>
  va_slen F.hx F.hb hX.1 hX.2.1 hX.2.2.1 hS hd (by rw [← Int32.ofInt_eq_ofNat]; exact k H locs ls hP hD hS hl)
theorem r_sld (F : mF X E own cc bG) {b L : Nat} {xs : Nat → Int32} (hX : sX X b L xs) {x : Int} (h : 0 ≤ x ∧ x < L) (hd : decode cc pc = .ok (.iaload, 1)) (k : cW X nc ns (pc + 1) lv (iV (xs x.toNat).toInt :: st) w) : cW X nc ns pc lv (iV x :: .ref b :: st) w := fun H locs ls hP hD hS hl => by
  have hL := hX.2.2.2
  refine va_sld F.hx F.hb hX.1 hX.2.1 hX.2.2.1 hS (ti_in h.1 h.2 (by omega)) hd ?_
  rw [ti_cln h.1 h.2 (by omega), show (Value.int (xs x.toNat)) = iV (xs x.toNat).toInt by show _ = Value.int (Int32.ofInt _); rw [Int32.ofInt_toInt]]
  exact k H locs ls hP hD hS hl
end LR
