/-! ===== rows for the law: longs, doubles, rows of booleans, calls that could throw ===== -/
section LWR
variable {X : xC} {E : cE} {own : String} {cc : ByteArray} {Ts : List Cond} {nc ns pc mc ms index : Nat} {lv lv' : List (Nat × Value)} {st : List Value} {ws T : va_W} {I : cI} {R : cR}
theorem q_lload (F : mF X E own cc Ts) (j : Nat) {i : Nat} {x : Int} (hd : decode cc pc = .ok (.lload i, 2)) (hj : lv[j]? = some (i, jV x)) (k : cW X nc ns (pc + 2) lv (jV x :: st) ws) : cW X nc ns pc lv st ws := fun H locs ls hP hD hS hl => lv_lload F.hx F.hb hd (lv_at hl j hj) (k H locs ls hP hD hS hl)
theorem q_lstore (F : mF X E own cc Ts) (ks : List Nat) {i : Nat} {x : Int} (hd : decode cc pc = .ok (.lstore i, 2)) (hn : i + 1 < X.2.2.1.2.2.2) (h : lv_pick ((i, jV x) :: lv.filter (fun q => !(q.1 == i) && (!(q.1 == i + 1) && !(q.1 + 1 == i && q.2.category == 2)))) ks = lv') (k : cW X nc ns (pc + 2) lv' st ws) : cW X nc ns pc lv (jV x :: st) ws := fun H locs ls hP hD hS hl => lv_lstore F.hx F.hb hd hl hn rfl (fun ls' hl' => k H locs ls' hP hD hS (lv_sub hl' ks h))
theorem q_pop2 (F : mF X E own cc Ts) {v : Value} (hd : decode cc pc = .ok (.pop2, 1)) (hv : v.category = 2) (k : cW X nc ns (pc + 1) lv st ws) : cW X nc ns pc lv (v :: st) ws := fun H locs ls hP hD hS hl => lv_pop2_2 F.hx F.hb hd hv (k H locs ls hP hD hS hl)
theorem q_ldc2d (F : mF X E own cc Ts) {v : UInt64} (hc : Cond.constantDouble own index v ∈ Ts) (hd : decode cc pc = .ok (.ldc2_w index, 3)) (k : cW X nc ns (pc + 3) lv (.double v :: st) ws) : cW X nc ns pc lv st ws := fun H locs ls hP hD hS hl => lv_ldc2d F.hx F.hb F.ho (F.ht _ hc) hd (k H locs ls hP hD hS hl)
theorem d16 : (4625196817309499392 : UInt64) = FP.i2d (Int32.ofInt 16) := by decide +kernel
theorem dcm_all : ∀ a : Fin 17, Op.cmpValue (FP.dcmp (FP.ddiv (FP.i2d (Int32.ofNat a.val)) (FP.i2d (Int32.ofNat 16))) (FP.ddiv (FP.i2d (Int32.ofNat a.val)) (FP.i2d (Int32.ofNat 16)))) .l = 0 := by decide +kernel
theorem dcm0 {a : Int} (a0 : 0 ≤ a) (a1 : a ≤ 16) : Op.cmpValue (FP.dcmp (dQ a 16) (dQ a 16)) .l = Int32.ofInt 0 := by
  have h := dcm_all ⟨a.toNat, by omega⟩
  have e : Int32.ofNat a.toNat = Int32.ofInt a := by rw [← Int32.ofInt_eq_ofNat, Int.toNat_of_nonneg a0]
  dsimp only at h
  rw [e] at h
  exact h
theorem q_dcmp0 (F : mF X E own cc Ts) {a : Int} {d : UInt64} (a0 : 0 ≤ a ∧ a ≤ 16) (e : d = dQ a 16) (hd : decode cc pc = .ok (.dcmp .l, 1)) (k : cW X nc ns (pc + 1) lv (iV 0 :: st) ws) : cW X nc ns pc lv (.double (dQ a 16) :: .double d :: st) ws := fun H locs ls hP hD hS hl => lv_dcmp F.hx F.hb hd (by
  rw [e, dcm0 a0.1 a0.2]
  exact k H locs ls hP hD hS hl)
theorem q_lcmp0 (F : mF X E own cc Ts) {x y : Int} (h : x = y) (hd : decode cc pc = .ok (.lcmp, 1)) (k : cW X nc ns (pc + 1) lv (iV 0 :: st) ws) : cW X nc ns pc lv (jV y :: jV x :: st) ws := fun H locs ls hP hD hS hl => W.lcmp F.hx F.hb hd (by
  have e : lg_cmp (Int64.ofInt x) (Int64.ofInt y) = Int32.ofInt 0 := by
    subst h
    unfold lg_cmp
    rw [if_neg (Int64.lt_irrefl), if_pos rfl]
    rfl
  rw [e]
  exact k H locs ls hP hD hS hl)
theorem q_Vit (F : mF X E own cc Ts) {Q : Int → cI → cR → Prop} {y : MethodName} {bytes : ByteArray} {maxL n i ci N kc ks : Nat} {rt : Option FieldType} {wsY wsY' : List Cond} {rm : Room} {av st0 : List Value} {fs : List Value} {C : String} {TT : u_T} (hM : gMx X.1.2.1 X.2.2.2.2 E cIds y wsY rm (.ref (E.1 i) :: av) (cef E (I, R)) (cef E) (pI Q) (pX (fun _ _ _ => False)) kc ks) (hi : i ∈ cIds) (he : cef E (I, R) i = .inr (ci, fs)) (hc : vwCl[ci]? = some (C, TT, N)) (hg : GoodIn Ts (wsV own index C y wsY)) (hw : wsY = Cond.code y bytes maxL rt :: wsY') (hrc : rm.cells = kc ∧ rm.slots = ks) (hy : y.cls = C ∧ y.cls ≠ "java/lang/invoke/MethodHandle" ∧ y.cls ≠ "java/lang/invoke/VarHandle" ∧ (parseMethodDescriptor y.desc).map (fun d => d.parameters.length) = some n) (hR : rm.frames + 1 ≤ X.1.2.2.2.frames ∧ 8 + (maxL + 11) + rm.locals ≤ X.1.2.2.2.locals) (hn : av.length = n) (hst : st0 = av.reverse ++ .ref (E.1 i) :: st) (hcat : (st.map fun v => v.category).sum ≤ 8) (hd : decode cc pc = .ok (.invokevirtual index, 3)) (hcs : nc + kc ≤ X.1.2.2.2.cells ∧ ns + ks ≤ X.1.2.2.2.slots) (kk : ∀ (r : Int) (I' : cI) (R' : cR), inR r → cM I' R' → Q r I' R' → cW X (nc + kc) (ns + ks) (pc + 3) lv (iV r :: st) (gw E.1 cIds (cef E (I', R')) ++ T)) : cW X nc ns pc lv st0 (gw E.1 cIds (cef E (I, R)) ++ T) :=
  q_cVn F hM hi he hc hg hw hrc hy hR hn hst hcat hd hcs (fun _ _ h => by obtain ⟨k, hk, hc, hm, hz⟩ := h; exact hz) (fun v u hp => by obtain ⟨r, rfl, hr, hm, hq⟩ := hp; exact kk r u.1 u.2 hr hm hq)
theorem q_Vd (F : mF X E own cc Ts) {Q : UInt64 → cI → cR → Prop} {y : MethodName} {bytes : ByteArray} {maxL n i ci N : Nat} {rt : Option FieldType} {wsY wsY' : List Cond} {rm : Room} {av st0 : List Value} {fs : List Value} {C : String} {TT : u_T} (hM : gM X.1.2.1 X.2.2.2.2 E cIds y wsY rm (.ref (E.1 i) :: av) (cef E (I, R)) (cef E) (pD Q) mc ms) (hi : i ∈ cIds) (he : (cef E (I, R)) i = .inr (ci, fs)) (hc : vwCl[ci]? = some (C, TT, N)) (hg : GoodIn Ts (wsV own index C y wsY)) (hw : wsY = Cond.code y bytes maxL rt :: wsY') (hrc : rm.cells = mc ∧ rm.slots = ms) (hy : y.cls = C ∧ y.cls ≠ "java/lang/invoke/MethodHandle" ∧ y.cls ≠ "java/lang/invoke/VarHandle" ∧ (parseMethodDescriptor y.desc).map (fun d => d.parameters.length) = some n) (hR : rm.frames + 1 ≤ X.1.2.2.2.frames ∧ 8 + (maxL + 11) + rm.locals ≤ X.1.2.2.2.locals) (hn : av.length = n) (hst : st0 = av.reverse ++ .ref (E.1 i) :: st) (hcat : (st.map fun v => v.category).sum ≤ 8) (hd : decode cc pc = .ok (.invokevirtual index, 3)) (hcs : nc + mc ≤ X.1.2.2.2.cells ∧ ns + ms ≤ X.1.2.2.2.slots) (kk : ∀ (r : UInt64) (I' : cI) (R' : cR), cM I' R' → Q r I' R' → cW X (nc + mc) (ns + ms) (pc + 3) lv (.double r :: st) (gw E.1 cIds (cef E (I', R')) ++ T)) : cW X nc ns pc lv st0 (gw E.1 cIds (cef E (I, R)) ++ T) :=
  q_cV F hM hi he hc hg hw hrc hy hR hn hst hcat hd hcs (fun v u hp => by obtain ⟨r, rfl, hm, hq⟩ := hp; exact kk r u.1 u.2 hm hq)
/-- rows of booleans -/
abbrev bA (E : cE) (n : Nat) (g : Int → Int) : va_E := .inl ((yB E), n, .inl (fun j => Int32.ofInt (g (j : Int))))
theorem g_bald (F : mF X E own cc Ts) (j : Nat) {q n : Nat} {g : Int → Int} (ht : ws[j]? = some (q, bA E n g)) {x : Int} (h : 0 ≤ x ∧ x < n) (hn : n < 2147483648) (hd : decode cc pc = .ok (.baload, 1))
    (kk : cW X nc ns (pc + 1) lv (iV (g x) :: st) ws) : cW X nc ns pc lv (iV x :: .ref q :: st) ws := by
  intro H locs ls hP hD hS hlv
  refine va_zald F.hx F.hb F.hK hP _ 3 ht rfl (ti_in h.1 h.2 hn) hd ?_
  rw [ti_cln h.1 h.2 hn, Int.toNat_of_nonneg h.1]
  exact kk H locs ls hP hD hS hlv
theorem nar_b {y : Int} (h : y = 0 ∨ y = 1) : vp_nar .boolean (Int32.ofInt y) = Int32.ofInt y := by rcases h with rfl | rfl <;> decide
theorem g_bast (F : mF X E own cc Ts) (j : Nat) {q n : Nat} {g : Int → Int} (ht : ws[j]? = some (q, bA E n g)) {x y : Int} (h : 0 ≤ x ∧ x < n) (hn : n < 2147483648) (hy : y = 0 ∨ y = 1) {T' : va_W} (hT : ws.set j (q, bA E n (fun z => if z = x then y else g z)) = T') (hd : decode cc pc = .ok (.bastore, 1))
    (kk : cW X nc ns (pc + 1) lv st T') : cW X nc ns pc lv (iV y :: iV x :: .ref q :: st) ws := by
  intro H locs ls hP hD hS hlv
  refine va_zast F.hx F.hb F.hK hP hD hS _ 3 ht rfl (ti_in h.1 h.2 hn) hd (fun H1 locs1 hP1 hD1 hS1 => ?_)
  have hu : upd (fun j : Nat => Int32.ofInt (g (j : Int))) (Int32.ofInt x).toNatClampNeg (vp_nar .boolean (Int32.ofInt y)) = fun j : Nat => Int32.ofInt (if (j : Int) = x then y else g (j : Int)) := by
    rw [ti_cln h.1 h.2 hn, nar_b hy]
    funext j
    unfold upd
    by_cases hj : j = x.toNat
    · rw [if_pos hj, if_pos (by omega)]
    · rw [if_neg hj, if_neg (by omega)]
  rw [hu, hT] at hP1 hD1
  exact kk H1 locs1 ls hP1 hD1 hS1 hlv
theorem g_bnew (F : mF X E own cc Ts) (harr : Cond.arrayClass .boolean ∈ Ts) {x : Int} (n : Nat) (hx : x = n) (hn : n ≤ 100000) (hc : nc + 1 ≤ X.1.2.2.2.cells) (hs : ns + n ≤ X.1.2.2.2.slots) (hd : decode cc pc = .ok (.newarray .boolean, 2))
    (kk : ∀ q : Nat, cW X (nc + 1) (ns + n) (pc + 2) lv (.ref q :: st) (ws ++ [(q, bA E n (fun _ => 0))])) : cW X nc ns pc lv (iV x :: st) ws := by
  intro H locs ls hP hD hS hlv
  subst hx
  have hr : inR (n : Int) := by unfold inR; omega
  refine va_newa (atype := .boolean) (ty := .boolean) F.hx F.hb (F.ht _ harr) rfl F.hK hP hD hS F.hA (n := Int32.ofInt n) (N' := n) (a0 := (n, .inl (fun _ => Int32.ofInt 0))) (fun cA => rfl) (fun z => ?_) ((ti_cl hr).trans (by omega)) (by show n * 1 ≤ _; omega) hc hs hd (fun q cA H1 hK1 hP1 hD1 hS1 => ?_)
  · have : Int32.ofInt (n : Int) < Int32.ofInt 0 := z
    rw [ti_lt hr ti_0] at this
    omega
  · have hcA : cA = yB E := by
      have h1 := (hK1.2 (cty E).length (cA, .boolean) (by rw [List.getElem?_append_right (Nat.le_refl _), Nat.sub_self]; rfl)).2
      have h2 := (F.hK.2 3 (yB E, .boolean) rfl).2
      exact Option.some.inj (h1.symm.trans h2)
    rw [hcA] at hP1 hD1
    exact kk q H1 locs ls hP1 hD1 hS1 hlv
/-- things left out of sight -/
theorem q_less {w' : va_W} (p : w'.Sublist ws) (k : cW X nc ns pc lv st w') : cW X nc ns pc lv st ws := fun H locs ls hP hD hS hl =>
  k H locs ls (fun j q hq => by
    obtain ⟨i, hi⟩ := List.getElem?_of_mem (p.subset (List.mem_of_getElem? hq))
    exact hP i q hi) (nD_iff.mpr ⟨(nD_iff.mp hD).1.sublist (p.map _), fun q hq => (nD_iff.mp hD).2 q (p.subset hq)⟩) hS hl
end LWR
/-! ===== the small ones of the law ===== -/
theorem and31 (x : Int) : 0 ≤ iAnd x 2147483647 := by
  unfold iAnd
  have h1 : (Int32.ofInt x &&& Int32.ofInt 2147483647).toBitVec.toNat ≤ 2147483647 := by
    rw [Int32.toBitVec_and, BitVec.toNat_and]
    exact Nat.le_trans Nat.and_le_right (by decide)
  have h2 : (Int32.ofInt x &&& Int32.ofInt 2147483647).toInt = ((Int32.ofInt x &&& Int32.ofInt 2147483647).toBitVec.toNat : Int) := by
    show (Int32.ofInt x &&& Int32.ofInt 2147483647).toBitVec.toInt = _
    exact BitVec.toInt_eq_toNat_of_lt (by omega)
  omega
def blw (a b : Int) : Int := iAnd a 2147483647 % b
theorem blw_b {a b : Int} (h : 0 < b) : 0 ≤ blw a b ∧ blw a b < b := ⟨Int.emod_nonneg _ (by omega), Int.emod_lt_of_pos _ h⟩
def scF (E : cE) (k : Int) : Int := if k < scL E then scE E k.toNat else wrp (790386105 * (k + 3))
theorem scE_in {E : cE} {j : Nat} : inR (scE E j) := ti_rng _
theorem scF_in {E : cE} {k : Int} : inR (scF E k) := by
  unfold scF
  split
  · exact scE_in
  · exact wrp_in
def vL_below : List Cond := Cond.code yL_below cL_below 2 (some .int) :: bG
theorem ydL_below : yL_below.cls = RL ∧ yL_below.cls ≠ "java/lang/invoke/MethodHandle" ∧ yL_below.cls ≠ "java/lang/invoke/VarHandle" ∧ (parseMethodDescriptor yL_below.desc).map (fun d => d.parameters.length) = some 2 := by decide +kernel
set_option maxRecDepth 100000 in
theorem kL_below {l : Launch} {D : va_G} {E : cE} {ids : List Nat} {e : Nat → va_E} {a b : Int} (ha : inR a) (hb : inR b) (h0 : 0 < b) : gM l D E ids yL_below vL_below (rmK 1 0 0) [iV a, iV b] e (fun _ : Unit => e) (fun v _ => v = some (iV (blw a b))) 0 0 := by
  refine k_ofW (own := RL) (cc := cL_below) (maxL := 2) (ret := some .int) (lv := [(0, iV a), (1, iV b)]) (by decide) rfl rfl (Nat.le_of_ble_eq_true rfl) rfl ?_
  intro X hl hR hN hD F K
  subst hl; subst hD
  refine q_iload_n F 0 dL_below_0 rfl rfl ?_
  refine q_ldc F (n := 2147483647) (show Cond.constant RL 7 (Int32.ofInt 2147483647) ∈ bG by rw [show Int32.ofInt 2147483647 = 2147483647 by decide]; exact wd786) dL_below_1 ?_
  refine q_iand F dL_below_3 ?_
  refine q_iload_n F 1 dL_below_4 rfl rfl ?_
  refine q_irem F ⟨⟨and31 a, (ti_rng _).2⟩, h0, hb.2⟩ dL_below_5 ?_
  exact k_reti (u := ()) F K rfl rfl dL_below_6 rfl
def vL_cell : List Cond := Cond.code yL_cell cL_cell 2 (some .int) :: bG
theorem ydL_cell : yL_cell.cls = RL ∧ yL_cell.cls ≠ "java/lang/invoke/MethodHandle" ∧ yL_cell.cls ≠ "java/lang/invoke/VarHandle" ∧ (parseMethodDescriptor yL_cell.desc).map (fun d => d.parameters.length) = some 2 := by decide +kernel
set_option maxRecDepth 100000 in
theorem kL_cell {l : Launch} {D : va_G} {E : cE} {ids : List Nat} {e : Nat → va_E} {k : Int} (k0 : 0 ≤ k) (k1 : k < 100000) (hL : scL E ≤ 260) : gM l D E ids yL_cell vL_cell (rmK 1 0 0) [.ref (E.2.1 4 3), iV k] e (fun _ : Unit => e) (fun v _ => v = some (iV (scF E k))) 0 0 := by
  refine k_ofW (own := RL) (cc := cL_cell) (maxL := 2) (ret := some .int) (lv := [(0, .ref (E.2.1 4 3)), (1, iV k)]) (by decide) rfl rfl (Nat.le_of_ble_eq_true rfl) rfl ?_
  intro X hl hR hN hD F K
  subst hl; subst hD
  have hk : inR k := by unfold inR; omega
  refine q_iload_n F 1 dL_cell_0 rfl rfl ?_
  refine q_aload_n F 0 dL_cell_1 rfl rfl ?_
  refine q_lenSC F dL_cell_2 ?_
  refine q_icmp_ge F hk (by unfold inR; omega) 12 dL_cell_3 (by decide) (fun hc => ?_) (fun hc => ?_)
  · have e : scF E k = wrp (790386105 * (k + 3)) := by unfold scF; rw [if_neg (by omega)]
    refine q_ldc F (n := 790386105) (show Cond.constant RL 8 (Int32.ofInt 790386105) ∈ bG by rw [show Int32.ofInt 790386105 = 790386105 by decide]; exact wd790) dL_cell_12 ?_
    refine q_iload_n F 1 dL_cell_14 rfl rfl ?_
    refine q_iconst F dL_cell_15 ?_
    refine q_iadd F dL_cell_16 ?_
    refine q_imul F dL_cell_17 ?_
    refine q_topw e ?_
    exact k_reti (u := ()) F K rfl rfl dL_cell_18 rfl
  · have e : scF E k = scE E k.toNat := by unfold scF; rw [if_pos (by omega)]
    refine q_aload_n F 0 dL_cell_6 rfl rfl ?_
    refine q_iload_n F 1 dL_cell_7 rfl rfl ?_
    refine q_ldSC F (by omega) ⟨k0, by omega⟩ dL_cell_8 ?_
    refine q_goto F 18 dL_cell_9 (by decide) ?_
    rw [← e]
    exact k_reti (u := ()) F K rfl rfl dL_cell_18 rfl
/-! ===== calls with a row of the law's ===== -/
def pIds : List Nat := cIds ++ [1000]
def pef (E : cE) (n : Nat) (u : (cI × cR) × (Int → Int)) : Nat → va_E := fun i => if i = 1000 then iA E n u.2 else cef E u.1 i
theorem p_split {E : cE} {n : Nat} {u : (cI × cR) × (Int → Int)} {T : va_W} : gw E.1 pIds (pef E n u) ++ T = gw E.1 cIds (cef E u.1) ++ ((E.1 1000, iA E n u.2) :: T) := by
  have e1 : gw E.1 pIds (pef E n u) = gw E.1 cIds (pef E n u) ++ gw E.1 [1000] (pef E n u) := List.map_append
  have e2 : gw E.1 cIds (pef E n u) = gw E.1 cIds (cef E u.1) := by
    refine List.map_congr_left (fun i hi => ?_)
    have := List.mem_range.mp hi
    show (E.1 i, if i = 1000 then iA E n u.2 else cef E u.1 i) = _
    rw [if_neg (by omega)]
  have e3 : gw E.1 [1000] (pef E n u) = [(E.1 1000, iA E n u.2)] := by
    show [(E.1 1000, if (1000 : Nat) = 1000 then iA E n u.2 else cef E u.1 1000)] = _
    rw [if_pos rfl]
  rw [e1, e2, e3, List.append_assoc]
  rfl
def pIP (Q : Int → cI → cR → (Int → Int) → Prop) : Option Value → (cI × cR) × (Int → Int) → Prop := fun v u => ∃ x, v = some (iV x) ∧ inR x ∧ cM u.1.1 u.1.2 ∧ (∀ z, inR (u.2 z)) ∧ Q x u.1.1 u.1.2 u.2
def pVP (Q : cI → cR → (Int → Int) → Prop) : Option Value → (cI × cR) × (Int → Int) → Prop := fun v u => v = none ∧ cM u.1.1 u.1.2 ∧ (∀ z, inR (u.2 z)) ∧ Q u.1.1 u.1.2 u.2
def rZP (X : xC) (E : cE) (cc : ByteArray) (mc ms n : Nat) (Q : Int → cI → cR → (Int → Int) → Prop) : Prop := ∀ (pc : Nat) (lv : List (Nat × Value)) (x : Int) (I : cI) (R : cR) (f : Int → Int) (T : va_W), decode cc pc = .ok (.ireturn, 1) → (x = 0 ∨ x = 1) → inR x → cM I R → (∀ z, inR (f z)) → Q x I R f → cW X mc ms pc lv [iV x] (gw E.1 cIds (cef E (I, R)) ++ ((E.1 1000, iA E n f) :: T))
def rVP (X : xC) (E : cE) (cc : ByteArray) (mc ms n : Nat) (Q : cI → cR → (Int → Int) → Prop) : Prop := ∀ (pc : Nat) (lv : List (Nat × Value)) (I : cI) (R : cR) (f : Int → Int) (T : va_W), decode cc pc = .ok (.return_, 1) → cM I R → (∀ z, inR (f z)) → Q I R f → cW X mc ms pc lv [] (gw E.1 cIds (cef E (I, R)) ++ ((E.1 1000, iA E n f) :: T))
theorem mk_rZP {X : xC} {E : cE} {own : String} {cc : ByteArray} {Ts : List Cond} {mc ms n : Nat} {Q : Int → cI → cR → (Int → Int) → Prop} (F : mF X E own cc Ts) (K : kX X E pIds (some .boolean) (pef E n) (pIP Q) mc ms) : rZP X E cc mc ms n Q := fun pc lv x I R f T hd hz hr hm hf hq => by
  have h := k_reti (u := ((I, R), f)) (pc := pc) (lv := lv) (T := T) F K rfl (narZ hz) hd ⟨x, rfl, hr, hm, hf, hq⟩
  rw [p_split] at h
  exact h
theorem mk_rVP {X : xC} {E : cE} {own : String} {cc : ByteArray} {Ts : List Cond} {mc ms n : Nat} {Q : cI → cR → (Int → Int) → Prop} (F : mF X E own cc Ts) (K : kX X E pIds none (pef E n) (pVP Q) mc ms) : rVP X E cc mc ms n Q := fun pc lv I R f T hd hm hf hq => by
  have h := k_retv (u := ((I, R), f)) (pc := pc) (lv := lv) (T := T) F K rfl hd ⟨rfl, hm, hf, hq⟩
  rw [p_split] at h
  exact h
/-! the same things by other names of their places -/
theorem gw_nEq {ad ad' : Nat → Nat} {e e' : Nat → va_E} : ∀ ids : List Nat, (∀ i ∈ ids, nEq [(ad i, e i)] [(ad' i, e' i)]) → nEq (gw ad ids e) (gw ad' ids e') := by
  intro ids
  induction ids with
  | nil => intro _; exact nEq_r
  | cons i ids ih => intro h; exact nEq_c (h i List.mem_cons_self) (ih (fun j hj => h j (List.mem_cons_of_mem _ hj)))
theorem ckd_b : ∀ i : Nat, i < 353 → ckd i ≤ 13 ∧ (ckd i = 9 → i = 0) ∧ (ckd i = 12 → i = 87 ∨ i = 91) := by
  intro i hi
  unfold ckd
  by_cases h : i < 93
  · rw [if_pos h]
    exact (show ∀ j : Nat, j < 93 → ckT.getD j 11 ≤ 13 ∧ (ckT.getD j 11 = 9 → j = 0) ∧ (ckT.getD j 11 = 12 → j = 87 ∨ j = 91) by decide +kernel) i h
  · rw [if_neg h]
    split <;> exact ⟨by decide, fun q => absurd q (by decide), fun q => absurd q (by decide)⟩
theorem E_eq {E : cE} {ad : Nat → Nat} {I : cI} {R : cR} (hm : cM I R) (h : ∀ i, i < 1000 → ad i = E.1 i) : nEq (gw E.1 cIds (cef E (I, R))) (gw ad cIds (cef (ad, E.2) (I, R))) := by
  refine gw_nEq cIds (fun i hi => ?_)
  have i1 := List.mem_range.mp hi
  obtain ⟨b, b9, b12⟩ := ckd_b i i1
  have hi' := h i (by omega)
  show nEq [(E.1 i, cent E i (I i) (R i))] [(ad i, cent (ad, E.2) i (I i) (R i))]
  rw [hi']
  have c : ckd i = 0 ∨ ckd i = 1 ∨ ckd i = 2 ∨ ckd i = 3 ∨ ckd i = 4 ∨ ckd i = 5 ∨ ckd i = 6 ∨ ckd i = 7 ∨ ckd i = 8 ∨ ckd i = 9 ∨ ckd i = 10 ∨ ckd i = 11 ∨ ckd i = 12 ∨ ckd i = 13 := by omega
  have o1 := h (i + 1) (by omega)
  have o2 := h (i + 2) (by omega)
  have o3 := h (i + 3) (by omega)
  have o4 := h (i + 4) (by omega)
  have o130 := h (i + 130) (by omega)
  rcases c with c | c | c | c | c | c | c | c | c | c | c | c | c | c
  · rw [ceMaker c, ceMaker c]; dsimp only; rw [o1]; exact nEq_r
  · rw [cePaper c, cePaper c]; dsimp only; rw [o1]; exact nEq_r
  · rw [cePuzzle c, cePuzzle c]; dsimp only; rw [o1, o2, o3]; exact nEq_r
  · rw [ceReader c, ceReader c]; dsimp only; rw [o1]; exact nEq_r
  · rw [ceReasoner c, ceReasoner c]; dsimp only; rw [o1, o2]; exact nEq_r
  · rw [ceRule c, ceRule c]; dsimp only; rw [o130]; exact nEq_r
  · rw [ceSearch c, ceSearch c]; dsimp only; rw [o1, o2, o3, o4]; exact nEq_r
  · rw [ceTape c, ceTape c]; dsimp only; rw [o1]; exact nEq_r
  · rw [ceTokens c, ceTokens c]; dsimp only; rw [o1, o2, o3]; exact nEq_r
  · have e0 := b9 c
    subst e0
    have p7 : R 0 7 < 1000 := by have := hm.2.1; unfold isP at this; omega
    have p8 : R 0 8 < 1000 := by have := hm.2.2.1; unfold isP at this; omega
    rw [ceMill c, ceMill c]; dsimp only
    rw [h 1 (by omega), h 3 (by omega), h 8 (by omega), h 10 (by omega), h 45 (by omega), h 80 (by omega), h 83 (by omega), h _ p7, h _ p8]
    exact nEq_r
  · rw [show cent E i (I i) (R i) = iA E (cln i) (I i) by unfold cent; rw [c]; rfl, show cent (ad, E.2) i (I i) (R i) = iA (ad, E.2) (cln i) (I i) by unfold cent; rw [c]; rfl]
    exact nEq_r
  · rw [show cent E i (I i) (R i) = iA E (cln i) (I i) by unfold cent; rw [c]; rfl, show cent (ad, E.2) i (I i) (R i) = iA (ad, E.2) (cln i) (I i) by unfold cent; rw [c]; rfl]
    exact nEq_r
  · rw [ceRules c, ceRules c]
    refine nEq_row (fun j hj => ?_)
    have q : R i (j : Int) < 1000 := by
      rcases b12 c with rfl | rfl
      · have := hm.2.2.2.1 85 (Or.inl rfl) (j : Int) ⟨by omega, by omega⟩; unfold isR at this; exact Nat.lt_of_lt_of_le this.2 (by decide)
      · have := hm.2.2.2.1 89 (Or.inr rfl) (j : Int) ⟨by omega, by omega⟩; unfold isR at this; exact Nat.lt_of_lt_of_le this.2 (by decide)
    show some (E.1 (R i (j : Int))) = some (ad (R i (j : Int)))
    rw [h _ q]
  · rw [ceSols c, ceSols c]
    refine nEq_row (fun j hj => ?_)
    show some (E.1 (i + 4 + (j : Int).toNat)) = some (ad (i + 4 + (j : Int).toNat))
    rw [h _ (by omega)]
theorem nEq_s {E : cE} {ad : Nat → Nat} {I : cI} {R : cR} (hm : cM I R) (h : ∀ i, i < 1000 → ad i = E.1 i) : nEq (gw ad cIds (cef (ad, E.2) (I, R))) (gw E.1 cIds (cef E (I, R))) := E_eq (E := (ad, E.2)) (ad := E.1) hm (fun i hi => (h i hi).symm)
section QCA
variable {X : xC} {E : cE} {own : String} {cc : ByteArray} {nc ns pc mc ms index : Nat} {lv : List (Nat × Value)} {st : List Value} {T : va_W} {I : cI} {R : cR}
def adP (E : cE) (q : Nat) : cE := (fun i => if i = 1000 then q else E.1 i, E.2)
theorem adP_1 {E : cE} {q : Nat} : (adP E q).1 1000 = q := show (if (1000 : Nat) = 1000 then q else E.1 1000) = q from if_pos rfl
theorem adP_n {E : cE} {q i : Nat} (h : i < 1000) : (adP E q).1 i = E.1 i := show (if i = 1000 then q else E.1 i) = E.1 i from if_neg (by omega)
/-- a static call with a row of the law's: the row stands right behind the mill -/
theorem q_cA (F : mF X E own cc bG) {q n : Nat} {f : Int → Int} {post : Option Value → (cI × cR) × (Int → Int) → Prop} {y : MethodName} {bytes : ByteArray} {maxL m : Nat} {rt : Option FieldType} {wsY wsY' : List Cond} {rm : Room} {av st0 : List Value} (hm : cM I R)
    (hM : gM X.1.2.1 X.2.2.2.2 (adP E q) pIds y wsY rm av (pef (adP E q) n ((I, R), f)) (pef (adP E q) n) post mc ms) (hg : GoodIn bG (va_wsS own index y wsY)) (hw : wsY = Cond.code y bytes maxL rt :: wsY') (hrc : rm.cells = mc ∧ rm.slots = ms)
    (hy : y.cls ≠ "java/lang/invoke/MethodHandle" ∧ y.cls ≠ "java/lang/invoke/VarHandle" ∧ (parseMethodDescriptor y.desc).map (fun d => d.parameters.length) = some m) (hR : rm.frames + 1 ≤ X.1.2.2.2.frames ∧ 8 + (maxL + 11) + rm.locals ≤ X.1.2.2.2.locals)
    (hn : av.length = m) (hst : st0 = av.reverse ++ st) (hcat : (st.map fun v => v.category).sum ≤ 8) (hd : decode cc pc = .ok (.invokestatic index, 3)) (hcs : nc + mc ≤ X.1.2.2.2.cells ∧ ns + ms ≤ X.1.2.2.2.slots)
    (hpm : ∀ v u, post v u → cM u.1.1 u.1.2)
    (kk : ∀ (v : Option Value) (u : (cI × cR) × (Int → Int)), post v u → cW X (nc + mc) (ns + ms) (pc + 3) lv (v.toList ++ st) (gw E.1 cIds (cef E u.1) ++ ((q, iA E n u.2) :: T))) : cW X nc ns pc lv st0 (gw E.1 cIds (cef E (I, R)) ++ ((q, iA E n f) :: T)) := by
  have F' : mF X (adP E q) own cc bG := F
  refine n_eq (nEq_a (E_eq (ad := (adP E q).1) hm (fun i hi => adP_n hi)) nEq_r) ?_
  have e : gw (adP E q).1 pIds (pef (adP E q) n ((I, R), f)) ++ T = gw (adP E q).1 cIds (cef (adP E q) (I, R)) ++ ((q, iA E n f) :: T) := by rw [p_split, adP_1]; rfl
  show cW X nc ns pc lv st0 (gw (adP E q).1 cIds (cef (adP E q) (I, R)) ++ ((q, iA E n f) :: T))
  rw [← e]
  refine q_cS F' hM hg hw hrc hy hR hn hst hcat hd hcs (fun v u hp => ?_)
  rw [p_split, adP_1]
  exact n_eq (nEq_a (nEq_s (hpm v u hp) (fun i hi => adP_n hi)) nEq_r) (kk v u hp)
/-- two mills: the other one is called -/
theorem q_ofO {B C : va_W} (k : cW X nc ns pc lv st (C ++ (B ++ T))) : cW X nc ns pc lv st (B ++ (T ++ C)) := n_perm (by
  rw [← List.append_assoc B T C]
  exact List.perm_append_comm) k
theorem q_toO {B C : va_W} (k : cW X nc ns pc lv st (B ++ (T ++ C))) : cW X nc ns pc lv st (C ++ (B ++ T)) := n_perm (by
  rw [← List.append_assoc B T C]
  exact List.perm_append_comm) k

set_option maxHeartbeats 4000000 in
set_option maxRecDepth 100000 in
theorem n_mill (F : mF X E RL cc bG) (hC : sC X.2.1.1) (hfr : 60 ≤ X.1.2.2.2.frames ∧ 6000 ≤ X.1.2.2.2.locals) {w : va_W} (hc : nc + 353 ≤ X.1.2.2.2.cells) (hs : ns + 11891 ≤ X.1.2.2.2.slots) (hcat : (st.map fun v => v.category).sum ≤ 7) (hd0 : decode cc pc = .ok (.new 31, 3)) (hd3 : decode cc (pc + 3) = .ok (.dup, 1)) (hd4 : decode cc (pc + 4) = .ok (.invokespecial 62, 3))
    (kk : ∀ ad : Nat → Nat, cW X (nc + 353) (ns + 11891) (pc + 7) lv (.ref (ad 0) :: st) (w ++ gw ad cIds (cef (ad, E.2) (I00, R00)))) : cW X nc ns pc lv st w := by
  refine n_newO F (ci := 9) rfl ib11 tyX11 tyX11_ok wd26 wd27 wd1 [.null, .null, .null, .null, .null, .null, .null, .null, .null] (fun j hj => by rcases (show j = 0 ∨ j = 1 ∨ j = 2 ∨ j = 3 ∨ j = 4 ∨ j = 5 ∨ j = 6 ∨ j = 7 ∨ j = 8 by omega) with rfl | rfl | rfl | rfl | rfl | rfl | rfl | rfl | rfl <;> rfl) (by omega) (by omega) hd0 (fun q => ?_)
  refine q_dup F hd3 rfl ?_
  refine n_callI (w := w) (wf := wMill E) (mc := 352) (ms := 11882) F hC (kn11 (E := E)) rfl wd28 wd29 wd1 wd30 ⟨rfl, rfl⟩ (niy _) ⟨by show 3 + 1 ≤ _; omega, by show 8 + (1 + 11) + 60 * 3 ≤ _; omega⟩ (by show 1 + (st.map fun v => v.category).sum ≤ 8; omega) hd4 ⟨by omega, by omega⟩ (fun u hu => ?_)
  have pm : (gw (adMill q u (fun _ => 0)) idsM (eM E q u (fun _ => 0))).Perm (gw (adMill q u (fun _ => 0)) cIds (eM E q u (fun _ => 0))) := idsM_p.map _
  refine n_eq (nEq_a nEq_r (mill_eq (z := fun _ => 0) (E := E) hu.1 hu.2)) ?_
  refine n_perm (pm.append_left _) ?_
  exact kk (adMill q u (fun _ => 0))
end QCA
