/-! ===== the law's calls of the class: what is thrown is caught ===== -/
def lIds : List Nat := cIds ++ [2000]
abbrev outE (cL : ClassId) (x : Int) : va_E := .inl (cL, 1, .inr (.inl (fun _ => Int64.ofInt x)))
def lef (E : cE) (cL : ClassId) (u : (cI × cR) × Int) : Nat → va_E := fun i => if i = 2000 then outE cL u.2 else cef E u.1 i
theorem l_split {E : cE} {cL : ClassId} {u : (cI × cR) × Int} {T : va_W} : gw E.1 lIds (lef E cL u) ++ T = gw E.1 cIds (cef E u.1) ++ ([(E.1 2000, outE cL u.2)] ++ T) := by
  have e1 : gw E.1 lIds (lef E cL u) = gw E.1 cIds (lef E cL u) ++ gw E.1 [2000] (lef E cL u) := List.map_append
  have e2 : gw E.1 cIds (lef E cL u) = gw E.1 cIds (cef E u.1) := by
    refine List.map_congr_left (fun i hi => ?_)
    have := List.mem_range.mp hi
    show (E.1 i, if i = 2000 then outE cL u.2 else cef E u.1 i) = _
    rw [if_neg (by omega)]
  have e3 : gw E.1 [2000] (lef E cL u) = [(E.1 2000, outE cL u.2)] := by
    show [(E.1 2000, if (2000 : Nat) = 2000 then outE cL u.2 else cef E u.1 2000)] = _
    rw [if_pos rfl]
  rw [e1, e2, e3, List.append_assoc]
def lG (D : va_G) (cL : ClassId) (U : State) : Prop := va_K D vwCl [(cL, .long)] U ∧ va_Nc "java/lang/IllegalArgumentException" "java/lang/IndexOutOfBoundsException" U ∧ va_Nc "java/lang/IllegalStateException" "java/lang/IllegalArgumentException" U
theorem lG.moved {D : va_G} {cL : ClassId} {u U : State} (v : u.vm.Alike U.vm) (h : lG D cL u) : lG D cL U := ⟨va_K.moved v h.1, h.2.1.moved v, h.2.2.moved v⟩
def lP (D : va_G) (E : cE) (cL : ClassId) (sz : Nat) (u : (cI × cR) × Int) (U : State) : Prop := gP D E lIds sz (gw E.1 lIds (lef E cL u)) U ∧ lG D cL U
theorem lP_blind {av : List Value} {D : va_G} {E : cE} {cL : ClassId} {sz : Nat} {u : (cI × cR) × Int} : FrameBlind (va_Pc av (lP D E cL sz u)) := by
  intro a U g mk h
  obtain ⟨h0, h1, h2⟩ := h
  have hb := gP_blind (av := av) a U g mk ⟨h0, h1⟩
  exact ⟨h0, hb.2, h2.moved (U := U.calling g mk a) (Vm.Alike.refl U.vm)⟩
def lM (l : Launch) (D : va_G) (E : cE) (cL : ClassId) (y : MethodName) (ws : List Cond) (rm : Room) (av : List Value) (u : (cI × cR) × Int) (post : Option Value → (cI × cR) × Int → Prop) (mc ms : Nat) : Prop :=
  ∀ sz : Nat, Met l y ws rm (va_Pc av (lP D E cL sz u)) (gQ D (fun u' => gw E.1 lIds (lef E cL u')) post (gA E.1 lIds sz)) mc ms (gA E.1 lIds sz)
theorem l_ofWH {l : Launch} {y : MethodName} {ws ws' : List Cond} {rm : Room} {Pc : Array Value → State → Prop} {Qc : Array Value → State → Outcome → State → Prop} {mc ms : Nat} {free : Addr → Prop} {cc : ByteArray} {maxL : Nat} {ret : Option FieldType} {hh : List (Nat × Nat × Nat × Nat)}
    (hy : plainName y.cls = true) (hw : ws = Cond.codeWith y cc maxL ret hh :: ws')
    (body : ∀ p e s m args below meth c s₁, BodyLoose p l y (headSpec ws rm) cc maxL ret e s m args below meth c s₁ → c.maxLocals = maxL → Pc args s →
      W p l e (headSpec ws rm).room s m args below meth c s.heap [] 0 0 (MQ below Qc args s mc ms free) (entryFrame m args maxL)) : Met l y ws rm Pc Qc mc ms free := by
  refine MetFree.of_bodyS (code := cc) (maxLocals := maxL) (ret := ret) hy ?_ ?_
  · intro args s m h hn
    obtain ⟨m9, meth, c, hn9, h1, h2, h3, h4, -, h5, h6, -⟩ := Cond.codeWith_spec (atoms_spec (ws := ws) h _ (by rw [hw]; exact List.mem_cons_self))
    cases hn.symm.trans hn9
    exact ⟨meth, c, h1, h2, h3, h4, h5, h6⟩
  · intro p e s m args below meth c s₁ B hml hP _
    have hh0 : s₁.heap = s.heap := by rw [B.state]; rfl
    obtain ⟨t, a1, o, b1, b2, b3⟩ := body p e s m args below meth c s₁ B hml hP s₁ hh0 (Stand.of_body B)
    exact ⟨t, o, a1, b1, b2, ⟨b3.1, b3.2⟩⟩
def oL (Q : Int → Int → cI → cR → Prop) : Option Value → (cI × cR) × Int → Prop := fun v u => ∃ r, v = some (iV r) ∧ inR r ∧ cM u.1.1 u.1.2 ∧ Q r u.2 u.1.1 u.1.2
theorem l_ofW {l : Launch} {D : va_G} {E : cE} {cL : ClassId} {y : MethodName} {ws : List Cond} {rm : Room} {av : List Value} {u : (cI × cR) × Int} {post : Option Value → (cI × cR) × Int → Prop} {mc ms : Nat} {cc : ByteArray} {maxL : Nat} {hh : List (Nat × Nat × Nat × Nat)} {lv : List (Nat × Value)}
    (hy : plainName y.cls = true) (hw : ws = Cond.codeWith y cc maxL (some .int) hh :: bG) (hown : y.cls = RL) (hlen : (lg_sl av).length ≤ maxL) (hlv : lv_args 0 av = lv)
    (body : ∀ X : xC, X.1.2.1 = l → X.1.2.2.2 = rm → X.2.2.1.2.2.2 = maxL → X.2.2.2.2 = D → mF X E RL cc bG → kX X E lIds (some .int) (lef E cL) post mc ms → X.2.2.1.2.1.exceptionTable.toList = tableOf hh → lG D cL X.2.1.1 → cW X 0 0 0 lv [] (gw E.1 lIds (lef E cL u) ++ [])) : lM l D E cL y ws rm av u post mc ms := by
  intro sz
  refine l_ofWH (cc := cc) (maxL := maxL) (ret := some .int) (hh := hh) hy hw ?_
  intro p e s m args below meth c s₁ B hml hv
  obtain ⟨rfl, ⟨rfl, hP, hD, hK, hS⟩, hG⟩ := hv
  have hts := atoms_spec (ws := ws) B.pre
  have ho : s.vm.findClass RL = some m.cls := by rw [← hown]; exact findClass_of_methodNamed B.named
  have hl := lv_entry av (n := maxL) hlen
  rw [hlv] at hl
  rw [lg_entry_eq]
  generalize (lg_sl av ++ List.replicate (maxL - (lg_sl av).length) Slot.unset).toArray = ls at hl ⊢
  exact body ((p, l, e, rm), (s, m, av.toArray, below), (meth, c, MQ below (gQ D (fun u => gw E.1 lIds (lef E cL u)) post (gA E.1 lIds s.heap.size)) av.toArray s mc ms (gA E.1 lIds s.heap.size), maxL), (gA E.1 lIds s.heap.size, D)) rfl rfl rfl rfl
    ⟨B.exec, B.bytes, hml, ho, fun w h => hts w (by rw [hw]; exact List.mem_cons_of_mem _ h), hK, fun q h => Or.inr h, B.notSynchronized, hS⟩ ⟨rfl, B.returns, rfl⟩ (vx_table (x := y) B (hts _ (by rw [hw]; exact List.mem_cons_self))) hG s.heap [] ls (by rw [List.append_nil]; exact hP) (by rw [List.append_nil]; exact gw_A hD) va_S.rf hl
section LW
variable {X : xC} {E : cE} {own : String} {cc : ByteArray} {Ts : List Cond} {nc ns pc kc ks : Nat} {lv : List (Nat × Value)} {st : List Value} {T : va_W} {I : cI} {R : cR}
/-- the row of the exception table for what is thrown -/
def lH (X : xC) (own : String) (pc k hp : Nat) : Prop := ∃ (pre : List ExceptionTableEntry) (x : ExceptionTableEntry) (suf : List ExceptionTableEntry) (nm : String), X.2.2.1.2.1.exceptionTable.toList = pre ++ x :: suf ∧ (∀ z ∈ pre, covers z pc = false ∨ (z.catchType ≠ 0 ∧ ∃ nm : String, (Cond.classLink own z.catchType nm).before X.2.1.2.2.1 X.2.1.1 = true ∧ va_Nc (xN.getD k "") nm X.2.1.1)) ∧ covers x pc = true ∧ x.catchType ≠ 0 ∧ (Cond.classLink own x.catchType nm).before X.2.1.2.2.1 X.2.1.1 = true ∧ (Cond.castable (xN.getD k "") nm).before X.2.1.2.2.1 X.2.1.1 = true ∧ x.handlerPc = hp
theorem q_cVc (F : mF X E own cc Ts) {Qx : Nat → cI → cR → Prop} {Q : Int → cI → cR → Prop} {y : MethodName} {bytes : ByteArray} {maxL n index i ci N : Nat} {rt : Option FieldType} {wsY wsY' : List Cond} {rm : Room} {av st0 : List Value} {fs : List Value} {C : String} {TT : u_T}
    (hM : gMx X.1.2.1 X.2.2.2.2 E cIds y wsY rm (.ref (E.1 i) :: av) (cef E (I, R)) (cef E) (pI Q) (pX Qx) kc ks) (hi : i ∈ cIds) (he : cef E (I, R) i = .inr (ci, fs)) (hc : vwCl[ci]? = some (C, TT, N)) (hg : GoodIn Ts (wsV own index C y wsY)) (hw : wsY = Cond.code y bytes maxL rt :: wsY') (hrc : rm.cells = kc ∧ rm.slots = ks)
    (hy : y.cls = C ∧ y.cls ≠ "java/lang/invoke/MethodHandle" ∧ y.cls ≠ "java/lang/invoke/VarHandle" ∧ (parseMethodDescriptor y.desc).map (fun d => d.parameters.length) = some n) (hR : rm.frames + 1 ≤ X.1.2.2.2.frames ∧ 8 + (maxL + 11) + rm.locals ≤ X.1.2.2.2.locals)
    (hn : av.length = n) (hst : st0 = av.reverse ++ .ref (E.1 i) :: st) (hcat : (st.map fun v => v.category).sum ≤ 8) (hd : decode cc pc = .ok (.invokevirtual index, 3)) (hcs : nc + kc ≤ X.1.2.2.2.cells ∧ ns + ks ≤ X.1.2.2.2.slots)
    (hp : Nat → Nat) (hcatch : ∀ k, k < 3 → ∀ I R, Qx k I R → lH X own pc k (hp k))
    (kx : ∀ (k : Nat) (I2 : cI) (R2 : cR) (q9 : Nat), k < 3 → cM I2 R2 → Qx k I2 R2 → cW X (nc + kc) (ns + ks) (hp k) lv [.ref q9] (gw E.1 cIds (cef E (I2, R2)) ++ T))
    (kk : ∀ (r : Int) (I2 : cI) (R2 : cR), inR r → cM I2 R2 → Q r I2 R2 → cW X (nc + kc) (ns + ks) (pc + 3) lv (iV r :: st) (gw E.1 cIds (cef E (I2, R2)) ++ T)) : cW X nc ns pc lv st0 (gw E.1 cIds (cef E (I, R)) ++ T) := by
  intro H locs ls hP hD hS hlv
  obtain ⟨q, hq, -⟩ := gw_get (ad := E.1) (e := cef E (I, R)) (T := T) hi
  rw [he] at hq
  have ho := k_own F.hA hD hS
  refine g_callx (vx_runV (As := av) (rest := st) ⟨F.hx, F.hb, F.hml, F.ho, F.ht⟩ (hM H.size) (cwV n F.ht hg hw hrc.1 hrc.2 hy hR) ⟨gP_blind, va_recv F.hK hP hc hq, k_pre F hP hD hS _⟩ rfl hn hlv.1 hst (lv_room hcat) hd hcs) hS (fun z _ h => ho z h) ho (fun c9 ce q9 u H1 locs1 hp9 hB hk hS1 hce hcv hcl => ?_) (fun v u H1 locs1 hp9 hB hk hS1 => ?_)
  · obtain ⟨k, hk3, rfl, hm, hq9⟩ := hp9
    obtain ⟨pre, x, suf, nm, t1, t2, t3, t4, t5, t6, t7⟩ := hcatch k hk3 u.1 u.2 hq9
    refine vx_catch F.ho pre x suf t1 t2 t3 t4 t5 t6 hce hcv hcl ?_
    rw [t7]
    exact kx k u.1 u.2 q9 hk3 hm hq9 H1 locs1 ls (gP_join hP hD hk hB) (gD_join hD) hS1 hlv
  · obtain ⟨r, rfl, hr, hm, hq9⟩ := hp9
    exact kk r u.1 u.2 hr hm hq9 H1 locs1 ls (gP_join hP hD hk hB) (gD_join hD) hS1 hlv
/-- out[0] = x -/
theorem l_out (F : mF X E own cc Ts) {cL : ClassId} (hG : lG X.2.2.2.2 cL X.2.1.1) {x0 x : Int} (hd : decode cc pc = .ok (.lastore, 1)) (k : cW X nc ns (pc + 1) lv st (gw E.1 cIds (cef E (I, R)) ++ ([(E.1 2000, outE cL x)] ++ T))) : cW X nc ns pc lv (jV x :: iV 0 :: .ref (E.1 2000) :: st) (gw E.1 cIds (cef E (I, R)) ++ ([(E.1 2000, outE cL x0)] ++ T)) := by
  intro H locs ls hP hD hS hlv
  refine va_last F.hx F.hb (F.hK.app hG.1) hP hD hS (cIds.length + 0) 3 (cA := cL) (n := 1) (f := fun _ => Int64.ofInt x0) (gw_tmp 0 rfl) rfl (ti_in (by decide) (by decide) (by decide)) hd (fun H1 locs1 hP1 hD1 hS1 => ?_)
  rw [gw_setT] at hP1 hD1
  have e : vp_updL (fun _ => Int64.ofInt x0) (Int32.ofInt 0).toNatClampNeg (Int64.ofInt x) = vp_updL (fun _ => Int64.ofInt x0) 0 (Int64.ofInt x) := rfl
  have hh : ∀ (H1 : Heap), va_P X.2.2.2.2 vwCl (gw E.1 cIds (cef E (I, R)) ++ (([(E.1 2000, outE cL x0)] ++ T).set 0 (E.1 2000, .inl (cL, 1, .inr (.inl (vp_updL (fun _ => Int64.ofInt x0) 0 (Int64.ofInt x))))))) H1 → va_P X.2.2.2.2 vwCl (gw E.1 cIds (cef E (I, R)) ++ ([(E.1 2000, outE cL x)] ++ T)) H1 := fun H1 h => by
    refine va_P.app (gP_left h) (va_P.app ?_ (gP_right (w := [_]) (gP_right h)))
    have h0 := gP_right h 0 _ rfl
    intro k q hq
    have hk : k = 0 := by
      have : k < 1 := (List.getElem?_eq_some_iff.mp hq).1
      omega
    subst hk
    cases hq
    have h1 : H1[E.1 2000]? = some (vp_cell cL (1, .inr (.inl (vp_updL (fun _ => Int64.ofInt x0) 0 (Int64.ofInt x))))) := h0
    show H1[E.1 2000]? = some (vp_cell cL (1, .inr (.inl (fun _ => Int64.ofInt x))))
    rw [h1]
    rfl
  refine k H1 locs1 ls (hh H1 hP1) ?_ hS1 hlv
  have hd1 := nD_iff.mp hD1
  refine nD_iff.mpr ⟨?_, fun q hq => ?_⟩
  · have := hd1.1
    rw [List.map_append] at this ⊢
    exact this
  · rcases List.mem_append.mp hq with h | h
    · exact hd1.2 q (List.mem_append_left _ h)
    · rcases List.mem_cons.mp h with rfl | h
      · exact hd1.2 (E.1 2000, .inl (cL, 1, .inr (.inl (vp_updL (fun _ => Int64.ofInt x0) (Int32.ofInt 0).toNatClampNeg (Int64.ofInt x))))) (List.mem_append_right _ List.mem_cons_self)
      · exact hd1.2 q (List.mem_append_right _ (List.mem_cons_of_mem _ h))
end LW
