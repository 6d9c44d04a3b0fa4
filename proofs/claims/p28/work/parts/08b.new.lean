/-! ===== things that are made: worlds as plain lists ===== -/
theorem va_AOA.moved {t : FieldType} {u U : State} (hvm : u.vm.Alike U.vm) (h : va_AOA t u) : va_AOA t U := by
  obtain ⟨comp, c, k, h1, h2, h3, h4, h5⟩ := Jvm.Stand.arrayOver_specB h
  obtain ⟨k', hk', he⟩ := hvm.2.2 _ _ h3
  have q1 := va_idx_bare U.vm comp
  rw [show U.vm.bare = u.vm.bare from hvm.bare_eq] at q1
  have hi := (q1.symm.trans (va_idx_bare u.vm comp)).trans h2
  have hkind : k'.kind = .array comp (.array t) := by rw [he]; exact h4
  have f1 : U.vm.findClass (FieldType.array t).toString = some comp := by rw [hvm.findClass]; exact h1
  have f2 : U.vm.findClass ("[" ++ (FieldType.array t).toString) = some c := by rw [hvm.findClass]; exact h5
  unfold va_AOA Cond.before Cond.holds
  simp only [Cond.value]
  rw [f1, Option.bind_some]
  refine (congrArg (fun o : Option Nat => (o.bind (fun c => (U.vm.classes[c]?).map fun (k : Class) => match k.kind with | .array _ ty => decide (ty = FieldType.array t) && decide (U.vm.findClass ("[" ++ (FieldType.array t).toString) = some c) | _ => false) == some true)) hi).trans ?_
  simp [hk', hkind, f2]
/-- what making asks of the tables, besides the words -/
def sC (U : State) : Prop := va_Nw (.methodLinkNest RX11 9 yX9_init RX11) U ∧ va_Nw (.methodLinkNest RX11 18 yX5_init RX11) U ∧ va_Nw (.methodLinkNest RX5 17 yX10_init RX11) U ∧ va_Nw (.methodLinkNest RX11 25 yX3_init RX11) U ∧ va_Nw (.methodLinkNest RX11 32 yX8_init RX11) U ∧ va_Nw (.methodLinkNest RX11 42 yX6_init RX11) U ∧ va_Nw (.methodLinkNest RX11 49 yX2_init RX11) U ∧ va_Nw (.methodLinkNest RX4 24 yX7_init RX11) U ∧ va_AO "RiddleMill$Rule" U ∧ va_AOA .int U
theorem sC.warm {s U : State} (w : s.WarmedH U.vm) (h : sC s) : sC U := by
  obtain ⟨h1, h2, h3, h4, h5, h6, h7, h8, h9, h10⟩ := h
  exact ⟨va_Nw.warmM w h1, va_Nw.warmM w h2, va_Nw.warmM w h3, va_Nw.warmM w h4, va_Nw.warmM w h5, va_Nw.warmM w h6, va_Nw.warmM w h7, va_Nw.warmM w h8, va_AO.moved w.alike h9, va_AOA.moved w.alike h10⟩
theorem sC.same {u U : State} (v : U.vm = u.vm) (h : sC u) : sC U := by
  obtain ⟨h1, h2, h3, h4, h5, h6, h7, h8, h9, h10⟩ := h
  have a : u.vm.Alike U.vm := by rw [v]; exact Vm.Alike.refl _
  exact ⟨va_Nw.same rfl v.symm h1, va_Nw.same rfl v.symm h2, va_Nw.same rfl v.symm h3, va_Nw.same rfl v.symm h4, va_Nw.same rfl v.symm h5, va_Nw.same rfl v.symm h6, va_Nw.same rfl v.symm h7, va_Nw.same rfl v.symm h8, va_AO.moved a h9, va_AOA.moved a h10⟩
def nE (h0 : Nat) (E : cE) : cE := (fun _ => h0, E.2)
def nA (h0 sz : Nat) : Nat → Prop := gA (fun _ => h0) [0] sz
def nP (D : va_G) (E : cE) (sz h0 : Nat) (e0 : va_E) (U : State) : Prop := gP D (nE h0 E) [0] sz [(h0, e0)] U ∧ sC U
theorem nP_blind {av : List Value} {D : va_G} {E : cE} {sz h0 : Nat} {e0 : va_E} : FrameBlind (va_Pc av (nP D E sz h0 e0)) := by
  intro a U g mk h
  obtain ⟨h0, h1, h2⟩ := h
  have hb := gP_blind (av := av) a U g mk ⟨h0, h1⟩
  exact ⟨h0, hb.2, sC.same (u := U) (U := U.calling g mk a) rfl h2⟩
def nQ {σ : Type} (D : va_G) (wf : σ → va_W) (post : σ → Prop) (A : Nat → Prop) : Array Value → State → Outcome → State → Prop :=
  fun _ s o t => (∃ (u : σ), o = .returned none ∧ post u ∧ va_P D vwCl (wf u) t.heap ∧ va_D A (wf u)) ∧ va_F A s t
def nM {σ : Type} (l : Launch) (D : va_G) (E : cE) (y : MethodName) (ws : List Cond) (rm : Room) (e0 : va_E) (wf : Nat → σ → va_W) (post : σ → Prop) (mc ms : Nat) : Prop :=
  ∀ sz h0 : Nat, Met l y ws rm (va_Pc [.ref h0] (nP D E sz h0 e0)) (nQ D (wf h0) post (nA h0 sz)) mc ms (nA h0 sz)
def nX {σ : Type} (X : xC) (h0 : Nat) (wf : Nat → σ → va_W) (post : σ → Prop) (mc ms : Nat) : Prop :=
  X.2.2.2.1 = nA h0 X.2.1.1.heap.size ∧ X.2.2.1.1.sig.returnType = none ∧ X.2.2.1.2.2.1 = MQ X.2.1.2.2.2 (nQ X.2.2.2.2 (wf h0) post (nA h0 X.2.1.1.heap.size)) X.2.1.2.2.1 X.2.1.1 mc ms (nA h0 X.2.1.1.heap.size) ∧ X.2.2.1.1.name = "<init>" ∧ sC X.2.1.1
theorem n_ofW {σ : Type} {l : Launch} {D : va_G} {E : cE} {y : MethodName} {ws : List Cond} {rm : Room} {e0 : va_E} {wf : Nat → σ → va_W} {post : σ → Prop} {mc ms : Nat} {own : String} {cc : ByteArray} {maxL : Nat}
    (hy : plainName y.cls = true) (hw : ws = Cond.code y cc maxL none :: bG) (hown : y.cls = own) (hnm : y.name = "<init>") (hlen : 1 ≤ maxL)
    (body : ∀ (X : xC) (h0 : Nat), X.1.2.1 = l → X.1.2.2.2 = rm → X.2.2.1.2.2.2 = maxL → X.2.2.2.2 = D → mF X (nE h0 E) own cc bG → nX X h0 wf post mc ms → cW X 0 0 0 [(0, .ref h0)] [] [(h0, e0)]) : nM l D E y ws rm e0 wf post mc ms := by
  intro sz h0
  refine Met.ofW (cc := cc) (maxL := maxL) (ret := none) hy hw ?_
  intro p e s m args below meth c s₁ B hml hv
  obtain ⟨rfl, ⟨rfl, hP, hD, hK, hS⟩, hC⟩ := hv
  have hts := atoms_spec (ws := ws) B.pre
  have ho : s.vm.findClass own = some m.cls := by rw [← hown]; exact findClass_of_methodNamed B.named
  have hin : meth.name = "<init>" := by rw [← hnm]; exact (name_of_methodNamed B.named B.method).1
  have hl := lv_entry [.ref h0] (n := maxL) hlen
  rw [lg_entry_eq]
  generalize (lg_sl [Value.ref h0] ++ List.replicate (maxL - (lg_sl [Value.ref h0]).length) Slot.unset).toArray = ls at hl ⊢
  have hD' : va_D (nA h0 s.heap.size) [(h0, e0)] := gw_A (ad := fun _ => h0) (ids := [0]) (e := fun _ => e0) hD
  exact body ((p, l, e, rm), (s, m, [Value.ref h0].toArray, below), (meth, c, MQ below (nQ D (wf h0) post (nA h0 s.heap.size)) [Value.ref h0].toArray s mc ms (nA h0 s.heap.size), maxL), (nA h0 s.heap.size, D)) h0 rfl rfl rfl rfl
    ⟨B.exec, B.bytes, hml, ho, fun w h => hts w (by rw [hw]; exact List.mem_cons_of_mem _ h), hK, fun q h => Or.inr h, B.notSynchronized, hS⟩ ⟨rfl, B.returns, rfl, hin, hC⟩ s.heap [] ls hP hD' va_S.rf hl
/-! lists that are the same but for their order -/
theorem nperm_P {D : va_G} {cl : List vw_C} {w w' : va_W} {H : Heap} (p : w.Perm w') (h : va_P D cl w H) : va_P D cl w' H := fun k q hq => by
  obtain ⟨j, hj⟩ := List.getElem?_of_mem (p.mem_iff.mpr (List.mem_of_getElem? hq))
  exact h j q hj
theorem nD_iff {A : Nat → Prop} {w : va_W} : va_D A w ↔ (w.map (fun q => q.1)).Nodup ∧ ∀ q ∈ w, A q.1 := by
  constructor
  · intro h
    refine ⟨List.pairwise_iff_getElem.mpr (fun i j hi hj hij e => ?_), fun q hq => ?_⟩
    · have hj' : j < w.length := by rw [List.length_map] at hj; exact hj
      have hi' : i < w.length := Nat.lt_trans hij hj'
      rw [List.getElem_map, List.getElem_map] at e
      have := h.1 i j _ _ (List.getElem?_eq_getElem hi') (List.getElem?_eq_getElem hj') e
      omega
    · obtain ⟨k, hk⟩ := List.getElem?_of_mem hq
      exact h.2 k q hk
  · intro h
    refine ⟨fun i j p q hp hq e => ?_, fun k q hq => h.2 q (List.mem_of_getElem? hq)⟩
    have hi : i < (w.map (fun q => q.1)).length := by rw [List.length_map]; exact (List.getElem?_eq_some_iff.mp hp).1
    refine (List.getElem?_inj hi h.1).mp ?_
    rw [List.getElem?_map, List.getElem?_map, hp, hq]
    show some p.1 = some q.1
    rw [e]
theorem nperm_D {A : Nat → Prop} {w w' : va_W} (p : w.Perm w') (h : va_D A w) : va_D A w' := by
  have h := nD_iff.mp h
  exact nD_iff.mpr ⟨(p.map _).nodup_iff.mp h.1, fun q hq => h.2 q (p.mem_iff.mpr hq)⟩
section NR
variable {σ : Type} {X : xC} {E : cE} {own : String} {cc : ByteArray} {nc ns pc mc ms h0 index : Nat} {lv : List (Nat × Value)} {st : List Value} {w : va_W} {wf : Nat → σ → va_W} {post : σ → Prop} {u : σ}
theorem n_perm {w' : va_W} (p : w.Perm w') (k : cW X nc ns pc lv st w') : cW X nc ns pc lv st w := fun H locs ls hP hD hS hl => k H locs ls (nperm_P p hP) (nperm_D p hD) hS hl
theorem n_ret (F : mF X E own cc bG) (K : nX X h0 wf post mc ms) (hd : decode cc pc = .ok (.return_, 1)) (hq : post u) : cW X mc ms pc lv [] (wf h0 u) := by
  intro H locs ls hP hD hS hl
  rw [K.2.2.1]
  refine W.vret F.hx F.hb K.2.1 (fun t ht hW => ?_) (by have h := hS.2.2; rw [K.1] at h; exact h) hd F.hl
  rw [K.1] at hS hD
  exact ⟨⟨u, rfl, hq, by rw [ht]; exact hP, hD⟩, hS.F ht⟩
theorem n_objI (F : mF X E own cc bG) (hR : 1 ≤ X.1.2.2.2.frames ∧ 20 ≤ X.1.2.2.2.locals) {a : Nat} (hl : Cond.methodLink own index ⟨"java/lang/Object", "<init>", "()V"⟩ ∈ bG) (hd : decode cc pc = .ok (.invokespecial index, 3)) (k : cW X nc ns (pc + 3) lv [] w) : cW X nc ns pc lv [.ref a] w := fun H locs ls hP hD hS hlv =>
  W.objInit F.hx F.hb F.ho (F.ht _ hl) (F.ht _ wd32) (F.ht _ wd33) rfl (by show ls.size = _; rw [F.hml]; exact hlv.1) rfl hd hR.1 (by show 2 * 0 + 0 + 12 ≤ _; omega) (k H locs ls hP hD hS hlv)
theorem n_newI (F : mF X E own cc bG) {x : Int} (n : Nat) (hx : x = n) (hn : n ≤ 100000) (hc : nc + 1 ≤ X.1.2.2.2.cells) (hs : ns + n ≤ X.1.2.2.2.slots) (hd : decode cc pc = .ok (.newarray .int, 2))
    (kk : ∀ q : Nat, cW X (nc + 1) (ns + n) (pc + 2) lv (.ref q :: st) (w ++ [(q, iA E n (fun _ => 0))])) : cW X nc ns pc lv (iV x :: st) w := by
  intro H locs ls hP hD hS hlv
  subst hx
  have hr : inR (n : Int) := by unfold inR; omega
  refine va_newa (atype := .int) (ty := .int) F.hx F.hb (F.ht _ wd44) rfl F.hK hP hD hS F.hA (n := Int32.ofInt n) (N' := n) (a0 := (n, .inl (fun _ => Int32.ofInt 0))) (fun cA => rfl) (fun z => ?_) ((ti_cl hr).trans (by omega)) (by show n * 4 ≤ _; omega) hc hs hd (fun q cA H1 hK1 hP1 hD1 hS1 => ?_)
  · have : Int32.ofInt (n : Int) < Int32.ofInt 0 := z
    rw [ti_lt hr ti_0] at this
    omega
  · have hcA : cA = yI E := by
      have h1 := (hK1.2 (cty E).length (cA, .int) (by rw [List.getElem?_append_right (Nat.le_refl _), Nat.sub_self]; rfl)).2
      have h2 := (F.hK.2 0 (yI E, .int) rfl).2
      exact Option.some.inj (h1.symm.trans h2)
    rw [hcA] at hP1 hD1
    exact kk q H1 locs ls hP1 hD1 hS1 hlv
theorem n_newR (F : mF X E own cc bG) (ho : va_AO "RiddleMill$Rule" X.2.1.1) (hl : Cond.classLink own index "RiddleMill$Rule" ∈ bG) {x : Int} (n : Nat) (hx : x = n) (hn : n ≤ 100000) (hc : nc + 1 ≤ X.1.2.2.2.cells) (hs : ns + n ≤ X.1.2.2.2.slots) (hd : decode cc pc = .ok (.anewarray index, 3))
    (kk : ∀ q : Nat, cW X (nc + 1) (ns + n) (pc + 3) lv (.ref q :: st) (w ++ [(q, .inl (yR E, n, .inr (.inr (.inr (.inr (fun _ => none))))))])) : cW X nc ns pc lv (iV x :: st) w := by
  intro H locs ls hP hD hS hlv
  subst hx
  have hr : inR (n : Int) := by unfold inR; omega
  refine va_newq F.hx F.hb F.ho (F.ht _ hl) ho F.hK hP hD hS F.hA (n := Int32.ofInt n) (N' := n) (fun z => ?_) ((ti_cl hr).trans (by omega)) (by omega) hc hs hd (fun q cA H1 hK1 hP1 hD1 hS1 => ?_)
  · have : Int32.ofInt (n : Int) < Int32.ofInt 0 := z
    rw [ti_lt hr ti_0] at this
    omega
  · have hcA : cA = yR E := by
      obtain ⟨k1, c1, a1, a2, a3, a4⟩ := (hK1.2 (cty E).length (cA, .object "RiddleMill$Rule") (by rw [List.getElem?_append_right (Nat.le_refl _), Nat.sub_self]; rfl)).2
      obtain ⟨k2, c2, b1, b2, b3, b4⟩ := (F.hK.2 1 (yR E, .object "RiddleMill$Rule") rfl).2
      exact Option.some.inj (a4.symm.trans b4)
    rw [hcA] at hP1 hD1
    exact kk q H1 locs ls hP1 hD1 hS1 hlv
theorem n_newO (F : mF X E own cc bG) {C : String} {TT : u_T} {N ci : Nat} (hc : vwCl[ci]? = some (C, TT, N)) (hin : ∀ w ∈ u_ws C TT N, w ∈ bG) (ty : Nat → FieldType) (hty : ∀ k, k < N → parseFieldDescriptor (TT k).2.2.1 = some (ty k)) (hcl : Cond.classLink own index C ∈ bG) (hi : Cond.instantiable C N ∈ bG) (hini : Cond.initialized C ∈ bG) (fs : List Value) (hfs : ∀ j, j < N → defaultValue (ty j) = vp_V fs j) (hcs : nc + 1 ≤ X.1.2.2.2.cells) (hs : ns + N ≤ X.1.2.2.2.slots) (hd : decode cc pc = .ok (.new index, 3))
    (kk : ∀ q : Nat, cW X (nc + 1) (ns + N) (pc + 3) lv (.ref q :: st) (w ++ [(q, .inr (ci, fs))])) : cW X nc ns pc lv st w := fun H locs ls hP hD hS hlv =>
  va_new F.hx F.hb F.ht hin ty hty F.ho (F.ht _ hcl) (F.ht _ hi) (F.ht _ hini) F.hK hP hD hS F.hA hc hfs hcs hs hd (fun q H1 hP1 hD1 hS1 => kk q H1 locs ls hP1 hD1 hS1 hlv)
theorem n_putF (F : mF X E own cc bG) (hin2 : X.2.2.1.1.name = "<init>") (q0 : Nat) {a : Nat} {ci : Nat} {fs : List Value} (he : w[q0]? = some (a, .inr (ci, fs))) {TT : u_T} {N : Nat} (hc : vwCl[ci]? = some (own, TT, N)) (hin : ∀ w ∈ u_ws own TT N, w ∈ bG) (ty0 : Nat → FieldType) (hty : ∀ k, k < N → parseFieldDescriptor (TT k).2.2.1 = some (ty0 k)) (hnm : ∀ a, a < N → ∀ b, b < N → a ≠ b → (TT a).2.1 ≠ (TT b).2.1) (k : Nat) (hk : k < N) (hl : Cond.fieldLink own index own (TT k).2.1 (TT k).2.2.1 ∈ bG) (hfin : (TT k).2.2.2 = true) (hr : (TT k).1 = own) {ty : FieldType} {v : Value} (hdd : parseFieldDescriptor (TT k).2.2.1 = some ty) (hn : narrow ty v = v) (hfit : fits ty v = true) (hlen : k < fs.length) (hd : decode cc pc = .ok (.putfield index, 3)) {w' : va_W} (hw : w.set q0 (a, .inr (ci, fs.set k v)) = w')
    (kk : cW X nc ns (pc + 3) lv st w') : cW X nc ns pc lv (v :: .ref a :: st) w := fun H locs ls hP hD hS hlv =>
  va_putF F.hx F.hb F.ht hin ty0 hty hnm F.ho F.hK hP hD hS q0 he hc k hk (F.ht _ hl) (fun x h => by rw [← hr]; exact h) hfin hin2 hr hdd hn hfit hlen hd (fun H1 locs1 hP1 hD1 hS1 => by rw [hw] at hP1 hD1; exact kk H1 locs1 ls hP1 hD1 hS1 hlv)
theorem n_put (F : mF X E own cc bG) (q0 : Nat) {a : Nat} {ci : Nat} {fs : List Value} (he : w[q0]? = some (a, .inr (ci, fs))) {TT : u_T} {N : Nat} (hc : vwCl[ci]? = some (own, TT, N)) (hin : ∀ w ∈ u_ws own TT N, w ∈ bG) (ty0 : Nat → FieldType) (hty : ∀ k, k < N → parseFieldDescriptor (TT k).2.2.1 = some (ty0 k)) (hnm : ∀ a, a < N → ∀ b, b < N → a ≠ b → (TT a).2.1 ≠ (TT b).2.1) (k : Nat) (hk : k < N) (hl : Cond.fieldLink own index own (TT k).2.1 (TT k).2.2.1 ∈ bG) (hfin : (TT k).2.2.2 = false) (hr : (TT k).1 = own) {ty : FieldType} {v : Value} (hdd : parseFieldDescriptor (TT k).2.2.1 = some ty) (hn : narrow ty v = v) (hfit : fits ty v = true) (hlen : k < fs.length) (hd : decode cc pc = .ok (.putfield index, 3)) {w' : va_W} (hw : w.set q0 (a, .inr (ci, fs.set k v)) = w')
    (kk : cW X nc ns (pc + 3) lv st w') : cW X nc ns pc lv (v :: .ref a :: st) w := fun H locs ls hP hD hS hlv =>
  va_put F.hx F.hb F.ht hin ty0 hty hnm F.ho F.hK hP hD hS q0 he hc k hk (F.ht _ hl) (fun x h => by rw [← hr]; exact h) hfin hdd hn hfit hlen hd (fun H1 locs1 hP1 hD1 hS1 => by rw [hw] at hP1 hD1; exact kk H1 locs1 ls hP1 hD1 hS1 hlv)
theorem n_get (F : mF X E own cc bG) (q0 : Nat) {a : Nat} {ci : Nat} {fs : List Value} (he : w[q0]? = some (a, .inr (ci, fs))) {TT : u_T} {N : Nat} (hc : vwCl[ci]? = some (own, TT, N)) (hin : ∀ w ∈ u_ws own TT N, w ∈ bG) (k : Nat) (hk : k < N) (hl : Cond.fieldLink own index own (TT k).2.1 (TT k).2.2.1 ∈ bG) (hr : (TT k).1 = own) {v : Value} (hv : fs[k]? = some v) (hd : decode cc pc = .ok (.getfield index, 3))
    (kk : cW X nc ns (pc + 3) lv (v :: st) w) : cW X nc ns pc lv (.ref a :: st) w := fun H locs ls hP hD hS hlv =>
  va_get F.hx F.hb F.ht hin F.ho F.hK hP q0 he hc k hk (F.ht _ hl) (fun x h => by rw [← hr]; exact h) hv hd (kk H locs ls hP hD hS hlv)
/-- a constructor's call, on what was made last -/
theorem n_own {A : Nat → Prop} {H0 H : Heap} {locs : List Loc} {q : Nat} {e : va_E} (hA : ∀ q, H0.size ≤ q → A q) (hD : va_D A (w ++ [(q, e)])) (hS : va_S A H0 H locs) : ∀ z, nA q H.size z → A z := by
  intro z h
  rcases h with ⟨i, hi, rfl⟩ | h
  · exact hD.2 w.length _ (by rw [List.getElem?_append_right (Nat.le_refl _), Nat.sub_self]; rfl)
  · exact hA z (Nat.le_trans hS.1 h)
theorem n_join {D : va_G} {q : Nat} {e : va_E} {w1 : va_W} {A : Nat → Prop} {H H1 : Heap} (hP : va_P D vwCl (w ++ [(q, e)]) H) (hD : va_D A (w ++ [(q, e)])) (hk : ∀ z : Nat, z < H.size → ¬ nA q H.size z → H1[z]? = H[z]?) (hP1 : va_P D vwCl w1 H1) : va_P D vwCl (w ++ w1) H1 := by
  refine va_P.app (va_P.kept (gP_left hP) (fun k x hx => ?_)) hP1
  have hat : (w ++ [(q, e)])[k]? = some x := by rw [List.getElem?_append_left (List.getElem?_eq_some_iff.mp hx).1]; exact hx
  refine hk x.1 ((gP_left hP k x hx).lt) (fun z => ?_)
  rcases z with ⟨i, hi, hq⟩ | z
  · have hl := (List.getElem?_eq_some_iff.mp hx).1
    have := hD.1 k w.length x (q, e) hat (by rw [List.getElem?_append_right (Nat.le_refl _), Nat.sub_self]; rfl) hq
    omega
  · have := (gP_left hP k x hx).lt
    omega
theorem n_joinD {D : va_G} {q : Nat} {e : va_E} {w1 : va_W} {A : Nat → Prop} {H : Heap} (hP : va_P D vwCl (w ++ [(q, e)]) H) (hD : va_D A (w ++ [(q, e)])) (hA : ∀ z, nA q H.size z → A z) (hD1 : va_D (nA q H.size) w1) : va_D A (w ++ w1) := by
  have h := nD_iff.mp hD
  have h1 := nD_iff.mp hD1
  rw [List.map_append] at h
  refine nD_iff.mpr ⟨?_, fun x hx => ?_⟩
  · rw [List.map_append]
    refine List.nodup_append.mpr ⟨(List.nodup_append.mp h.1).1, h1.1, fun a ha b hb e' => ?_⟩
    subst e'
    obtain ⟨x, hx, rfl⟩ := List.mem_map.mp ha
    obtain ⟨y, hy, hxy⟩ := List.mem_map.mp hb
    obtain ⟨k, hk⟩ := List.getElem?_of_mem hx
    have hlt := (gP_left hP k x hk).lt
    have := h1.2 y hy
    rw [hxy] at this
    rcases this with ⟨i, hi, hq⟩ | z
    · exact (List.nodup_append.mp h.1).2.2 x.1 (List.mem_map.mpr ⟨x, hx, rfl⟩) q (List.mem_map.mpr ⟨(q, e), List.mem_singleton.mpr rfl, rfl⟩) hq
    · omega
  · rcases List.mem_append.mp hx with hx | hx
    · exact h.2 x (List.mem_append_left _ hx)
    · exact hA _ (h1.2 x hx)
theorem n_pre (F : mF X E own cc bG) (hC : sC X.2.1.1) {q : Nat} {e : va_E} {H : Heap} {locs : List Loc} (hP : va_P X.2.2.2.2 vwCl (w ++ [(q, e)]) H) (hD : va_D X.2.2.2.1 (w ++ [(q, e)])) (hS : va_S X.2.2.2.1 X.2.1.1.heap H locs) : ∀ U : State, U.heap = H → X.2.1.1.WarmedH U.vm → va_Pc [.ref q] (nP X.2.2.2.2 E H.size q e) [Value.ref q].toArray U := by
  intro U hU hW
  subst hU
  refine ⟨rfl, ⟨rfl, gP_right hP, ?_, va_K.moved hW.alike F.hK, F.hS.1, (F.hS.go hS.2.1 (n_own F.hA hD hS) hW).2⟩, hC.warm hW⟩
  have h := nD_iff.mp hD
  exact nD_iff.mpr ⟨by show [q].Nodup; exact List.nodup_cons.mpr ⟨List.not_mem_nil, List.nodup_nil⟩, fun _ _ => trivial⟩
end NR
