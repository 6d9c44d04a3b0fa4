/-! ===== calls and contracts over such worlds ===== -/
def gP (D : va_G) (E : cE) (ids : List Nat) (sz : Nat) (w : va_W) (U : State) : Prop := U.heap.size = sz ∧ va_P D vwCl w U.heap ∧ va_D (fun _ => True) w ∧ va_K D vwCl (cty E) U ∧ sS E (gA E.1 ids sz) U U.heap
theorem gP_blind {av : List Value} {D : va_G} {E : cE} {ids : List Nat} {sz : Nat} {w : va_W} : FrameBlind (va_Pc av (gP D E ids sz w)) := by
  intro a U g mk h
  obtain ⟨h0, h1, h2, h3, h4, h5⟩ := h
  exact ⟨h0, h1, h2, h3, va_K.moved (u := U) (U := U.calling g mk a) (Vm.Alike.refl U.vm) h4, h5.1, sS1.moved (u := U) (U := U.calling g mk a) (Vm.Alike.refl U.vm) h5.2.1, sS2.same (u := U) (U := U.calling g mk a) rfl h5.2.2⟩
/-- what a method leaves: an answer, numbers u, the world of u; nothing else is changed -/
def gQ {σ : Type} (D : va_G) (wf : σ → va_W) (post : Option Value → σ → Prop) (A : Nat → Prop) : Array Value → State → Outcome → State → Prop :=
  fun _ s o t => (∃ (v : Option Value) (u : σ), o = .returned v ∧ post v u ∧ va_P D vwCl (wf u) t.heap) ∧ va_F A s t
def gX {σ : Type} (D : va_G) (wf : σ → va_W) (px : String → σ → Prop) (A : Nat → Prop) : String → State → State → Prop :=
  fun E s t => (∃ u : σ, px E u ∧ va_P D vwCl (wf u) t.heap) ∧ va_F A s t
section GC
variable {p : Program} {l : Launch} {e : Env} {R : Room} {s : State} {m : MethodId} {args : Array Value} {below : List Frame} {meth : Method} {c : Code} {H : Heap} {locs : List Loc} {cells slots : Nat} {Q : State → Prop}
variable {pc : Nat} {ls : Array Slot} {rest st0 : List Value} {a : Array Value} {A0 A1 : Nat → Prop} {H0 : Heap} {mc ms : Nat} {free : Addr → Prop} {D : va_G}
theorem g_callq {S : Type} {post : Option Value → S → Prop} {wf : S → va_W} (hr : va_Run p l e R s m args below meth c H locs cells slots mc ms (F0 m pc ls st0) rest (gQ D wf post A1 a) free) (hS : va_S A0 H0 H locs) (hA : ∀ q, q < H.size → A1 q → A0 q) (hf : ∀ q, free q → A0 q)
    (kk : ∀ (v : Option Value) (u : S) (H1 : Heap) (locs1 : List Loc), post v u → va_P D vwCl (wf u) H1 → (∀ q : Nat, q < H.size → ¬ A1 q → H1[q]? = H[q]?) → va_S A0 H0 H1 locs1 → W p l e R s m args below meth c H1 locs1 (cells + mc) (slots + ms) Q (F0 m (pc + 3) ls (v.toList ++ rest))) : W p l e R s m args below meth c H locs cells slots Q (F0 m pc ls st0) := by
  intro T hT X
  obtain ⟨v, st₀, t, T', L, h0, X', hL, e1, e2, ⟨⟨v', u, hv, hp, hb⟩, hF⟩, st⟩ := hr T hT X
  cases hv
  obtain ⟨k1, k2, k3⟩ := vx_keep h0 e1 hS hA hf hL hF
  obtain ⟨t2, a1, b1⟩ := kk v u T'.heap (locs ++ L) hp (by rw [e1]; exact hb) k2 k3 T' rfl X'
  exact ⟨t2, st t2 a1, b1⟩
theorem g_callx {S : Type} {post : Option Value → S → Prop} {px : String → S → Prop} {wf : S → va_W} (hr : vx_Run p l e R s m args below meth c H locs cells slots mc ms (F0 m pc ls st0) rest (gQ D wf post A1 a) (gX D wf px A1) free) (hS : va_S A0 H0 H locs) (hA : ∀ q, q < H.size → A1 q → A0 q) (hf : ∀ q, free q → A0 q)
    (kx : ∀ (E : String) (ce : Cell) (q9 : Addr) (u : S) (H1 : Heap) (locs1 : List Loc), px E u → va_P D vwCl (wf u) H1 → (∀ q : Nat, q < H.size → ¬ A1 q → H1[q]? = H[q]?) → va_S A0 H0 H1 locs1 → H1[q9]? = some ce → ce.vm = .none → s.vm.findClass E = some ce.cls → vx_W p l e R s m args below meth c H1 locs1 (cells + mc) (slots + ms) Q (F0 m pc ls rest) q9)
    (kk : ∀ (v : Option Value) (u : S) (H1 : Heap) (locs1 : List Loc), post v u → va_P D vwCl (wf u) H1 → (∀ q : Nat, q < H.size → ¬ A1 q → H1[q]? = H[q]?) → va_S A0 H0 H1 locs1 → W p l e R s m args below meth c H1 locs1 (cells + mc) (slots + ms) Q (F0 m (pc + 3) ls (v.toList ++ rest))) : W p l e R s m args below meth c H locs cells slots Q (F0 m pc ls st0) := by
  intro T hT X
  rcases hr T hT X with ⟨v, st₀, t, T', L, h0, X', hL, e1, e2, ⟨⟨v', u, hv, hp, hb⟩, hF⟩, st⟩ | ⟨q, st₀, t, T', L, E, ce, h0, X', hL, e1, e2, ⟨⟨u, hp, hb⟩, hF⟩, hce, hcv, hcl, st⟩
  · cases hv
    obtain ⟨k1, k2, k3⟩ := vx_keep h0 e1 hS hA hf hL hF
    obtain ⟨t2, a1, b1⟩ := kk v u T'.heap (locs ++ L) hp (by rw [e1]; exact hb) k2 k3 T' rfl X'
    exact ⟨t2, st t2 a1, b1⟩
  · obtain ⟨k1, k2, k3⟩ := vx_keep h0 e1 hS hA hf hL hF
    obtain ⟨t2, a1, b1⟩ := kx E ce q u T'.heap (locs ++ L) hp (by rw [e1]; exact hb) k2 k3 (by rw [e1]; exact hce) hcv hcl T' rfl X'
    exact ⟨t2, st.trans a1, b1⟩
end GC
/-- a contract, of a method that returns -/
def gM {σ : Type} (l : Launch) (D : va_G) (E : cE) (ids : List Nat) (y : MethodName) (ws : List Cond) (rm : Room) (av : List Value) (e : Nat → va_E) (ef : σ → Nat → va_E) (post : Option Value → σ → Prop) (mc ms : Nat) : Prop :=
  ∀ sz : Nat, Met l y ws rm (va_Pc av (gP D E ids sz (gw E.1 ids e))) (gQ D (fun u => gw E.1 ids (ef u)) post (gA E.1 ids sz)) mc ms (gA E.1 ids sz)
/-- .. that may throw -/
def gMx {σ : Type} (l : Launch) (D : va_G) (E : cE) (ids : List Nat) (y : MethodName) (ws : List Cond) (rm : Room) (av : List Value) (e : Nat → va_E) (ef : σ → Nat → va_E) (post : Option Value → σ → Prop) (px : String → σ → Prop) (mc ms : Nat) : Prop :=
  ∀ sz : Nat, vx_Met l y ws rm (va_Pc av (gP D E ids sz (gw E.1 ids e))) (gQ D (fun u => gw E.1 ids (ef u)) post (gA E.1 ids sz)) (gX D (fun u => gw E.1 ids (ef u)) px (gA E.1 ids sz)) mc ms (gA E.1 ids sz)
/-- what a body knows of its contract -/
def kX {σ : Type} (X : xC) (E : cE) (ids : List Nat) (ret : Option FieldType) (ef : σ → Nat → va_E) (post : Option Value → σ → Prop) (mc ms : Nat) : Prop :=
  X.2.2.2.1 = gA E.1 ids X.2.1.1.heap.size ∧ X.2.2.1.1.sig.returnType = ret ∧ X.2.2.1.2.2.1 = MQ X.2.1.2.2.2 (gQ X.2.2.2.2 (fun u => gw E.1 ids (ef u)) post (gA E.1 ids X.2.1.1.heap.size)) X.2.1.2.2.1 X.2.1.1 mc ms (gA E.1 ids X.2.1.1.heap.size)
def kXx {σ : Type} (X : xC) (E : cE) (ids : List Nat) (ret : Option FieldType) (ef : σ → Nat → va_E) (post : Option Value → σ → Prop) (px : String → σ → Prop) (mc ms : Nat) : Prop :=
  X.2.2.2.1 = gA E.1 ids X.2.1.1.heap.size ∧ X.2.2.1.1.sig.returnType = ret ∧ X.2.2.1.2.2.1 = vx_MQ X.2.1.2.2.2 (gQ X.2.2.2.2 (fun u => gw E.1 ids (ef u)) post (gA E.1 ids X.2.1.1.heap.size)) (gX X.2.2.2.2 (fun u => gw E.1 ids (ef u)) px (gA E.1 ids X.2.1.1.heap.size)) X.2.1.2.2.1 X.2.1.1 mc ms (gA E.1 ids X.2.1.1.heap.size) ∧ (∀ x ∈ X.2.2.1.2.1.exceptionTable.toList, False) ∧ X.1.2.1.stackTraces = false
theorem k_ofW {σ : Type} {l : Launch} {D : va_G} {E : cE} {ids : List Nat} {y : MethodName} {ws : List Cond} {rm : Room} {av : List Value} {e : Nat → va_E} {ef : σ → Nat → va_E} {post : Option Value → σ → Prop} {mc ms : Nat} {own : String} {cc : ByteArray} {maxL : Nat} {ret : Option FieldType} {lv : List (Nat × Value)}
    (hy : plainName y.cls = true) (hw : ws = Cond.code y cc maxL ret :: bG) (hown : y.cls = own) (hlen : (lg_sl av).length ≤ maxL) (hlv : lv_args 0 av = lv)
    (body : ∀ X : xC, X.1.2.1 = l → X.1.2.2.2 = rm → X.2.2.1.2.2.2 = maxL → X.2.2.2.2 = D → mF X E own cc bG → kX X E ids ret ef post mc ms → cW X 0 0 0 lv [] (gw E.1 ids e ++ [])) : gM l D E ids y ws rm av e ef post mc ms := by
  intro sz
  refine Met.ofW (cc := cc) (maxL := maxL) (ret := ret) hy hw ?_
  intro p e s m args below meth c s₁ B hml hv
  obtain ⟨rfl, rfl, hP, hD, hK, hS⟩ := hv
  have hts := atoms_spec (ws := ws) B.pre
  have ho : s.vm.findClass own = some m.cls := by rw [← hown]; exact findClass_of_methodNamed B.named
  have hl := lv_entry av (n := maxL) hlen
  rw [hlv] at hl
  rw [lg_entry_eq]
  generalize (lg_sl av ++ List.replicate (maxL - (lg_sl av).length) Slot.unset).toArray = ls at hl ⊢
  exact body ((p, l, e, rm), (s, m, av.toArray, below), (meth, c, MQ below (gQ D (fun u => gw E.1 ids (ef u)) post (gA E.1 ids s.heap.size)) av.toArray s mc ms (gA E.1 ids s.heap.size), maxL), (gA E.1 ids s.heap.size, D)) rfl rfl rfl rfl
    ⟨B.exec, B.bytes, hml, ho, fun w h => hts w (by rw [hw]; exact List.mem_cons_of_mem _ h), hK, fun q h => Or.inr h, B.notSynchronized, hS⟩ ⟨rfl, B.returns, rfl⟩ s.heap [] ls (by rw [List.append_nil]; exact hP) (by rw [List.append_nil]; exact gw_A hD) va_S.rf hl
theorem k_ofWx {σ : Type} {l : Launch} (hfl : l.stackTraces = false) {D : va_G} {E : cE} {ids : List Nat} {y : MethodName} {ws : List Cond} {rm : Room} {av : List Value} {e : Nat → va_E} {ef : σ → Nat → va_E} {post : Option Value → σ → Prop} {px : String → σ → Prop} {mc ms : Nat} {own : String} {cc : ByteArray} {maxL : Nat} {ret : Option FieldType} {lv : List (Nat × Value)}
    (hy : plainName y.cls = true) (hw : ws = Cond.code y cc maxL ret :: bG) (hown : y.cls = own) (hlen : (lg_sl av).length ≤ maxL) (hlv : lv_args 0 av = lv)
    (body : ∀ X : xC, X.1.2.1 = l → X.1.2.2.2 = rm → X.2.2.1.2.2.2 = maxL → X.2.2.2.2 = D → mF X E own cc bG → kXx X E ids ret ef post px mc ms → cW X 0 0 0 lv [] (gw E.1 ids e ++ [])) : gMx l D E ids y ws rm av e ef post px mc ms := by
  intro sz
  refine vx_ofW (cc := cc) (maxL := maxL) (ret := ret) hy hw ?_
  intro p e s m args below meth c s₁ B hml htb hv
  obtain ⟨rfl, rfl, hP, hD, hK, hS⟩ := hv
  have hts := atoms_spec (ws := ws) B.pre
  have ho : s.vm.findClass own = some m.cls := by rw [← hown]; exact findClass_of_methodNamed B.named
  have hl := lv_entry av (n := maxL) hlen
  rw [hlv] at hl
  rw [lg_entry_eq]
  generalize (lg_sl av ++ List.replicate (maxL - (lg_sl av).length) Slot.unset).toArray = ls at hl ⊢
  exact body ((p, l, e, rm), (s, m, av.toArray, below), (meth, c, vx_MQ below (gQ D (fun u => gw E.1 ids (ef u)) post (gA E.1 ids s.heap.size)) (gX D (fun u => gw E.1 ids (ef u)) px (gA E.1 ids s.heap.size)) av.toArray s mc ms (gA E.1 ids s.heap.size), maxL), (gA E.1 ids s.heap.size, D)) rfl rfl rfl rfl
    ⟨B.exec, B.bytes, hml, ho, fun w h => hts w (by rw [hw]; exact List.mem_cons_of_mem _ h), hK, fun q h => Or.inr h, B.notSynchronized, hS⟩ ⟨rfl, B.returns, rfl, htb, hfl⟩ s.heap [] ls (by rw [List.append_nil]; exact hP) (by rw [List.append_nil]; exact gw_A hD) va_S.rf hl
section KR
variable {σ : Type} {X : xC} {E : cE} {ids : List Nat} {own : String} {cc : ByteArray} {Ts : List Cond} {ret : Option FieldType} {ef : σ → Nat → va_E} {post : Option Value → σ → Prop} {px : String → σ → Prop} {mc ms pc : Nat} {lv : List (Nat × Value)} {st : List Value} {T : va_W} {u : σ} {e : Nat → va_E} {nc ns : Nat}
theorem k_q {t : State} {H : Heap} {v : Option Value} {locs : List Loc} (hA : X.2.2.2.1 = gA E.1 ids X.2.1.1.heap.size) (hq : post v u) (hP : va_P X.2.2.2.2 vwCl (gw E.1 ids (ef u) ++ T) H) (hS : va_S X.2.2.2.1 X.2.1.1.heap H locs) (ht : t.heap = H) (a : Array Value) : gQ X.2.2.2.2 (fun u => gw E.1 ids (ef u)) post (gA E.1 ids X.2.1.1.heap.size) a X.2.1.1 (.returned v) t := by
  rw [hA] at hS
  exact ⟨⟨v, u, rfl, hq, by rw [ht]; exact gP_left hP⟩, hS.F ht⟩
theorem k_reti (F : mF X E own cc Ts) (K : kX X E ids ret ef post mc ms) {ty : FieldType} (hr : ret = some ty) {x : Int} (hn : narrow ty (iV x) = iV x) (hd : decode cc pc = .ok (.ireturn, 1)) (hq : post (some (iV x)) u) : cW X mc ms pc lv [iV x] (gw E.1 ids (ef u) ++ T) := by
  intro H locs ls hP hD hS hl
  rw [K.2.2]
  exact W.zret F.hx F.hb (K.2.1.trans hr) hn (fun t ht hW => k_q K.1 hq hP hS ht _) (by have h := hS.2.2; rw [K.1] at h; exact h) hd F.hl
theorem k_retv (F : mF X E own cc Ts) (K : kX X E ids ret ef post mc ms) (hr : ret = none) (hd : decode cc pc = .ok (.return_, 1)) (hq : post none u) : cW X mc ms pc lv [] (gw E.1 ids (ef u) ++ T) := by
  intro H locs ls hP hD hS hl
  rw [K.2.2]
  exact W.vret F.hx F.hb (K.2.1.trans hr) (fun t ht hW => k_q K.1 hq hP hS ht _) (by have h := hS.2.2; rw [K.1] at h; exact h) hd F.hl
theorem k_reta (F : mF X E own cc Ts) (K : kX X E ids ret ef post mc ms) {C : String} (hr : ret = some (.object C)) {a : Nat} (hd : decode cc pc = .ok (.areturn, 1)) (hq : post (some (.ref a)) u) : cW X mc ms pc lv [.ref a] (gw E.1 ids (ef u) ++ T) := by
  intro H locs ls hP hD hS hl
  rw [K.2.2]
  exact W.aret F.hx F.hb (K.2.1.trans hr) (Or.inl ⟨C, rfl⟩) (Or.inr ⟨a, rfl⟩) (fun t ht hW => k_q K.1 hq hP hS ht _) (by have h := hS.2.2; rw [K.1] at h; exact h) hd F.hl
theorem k_xreti (F : mF X E own cc Ts) (K : kXx X E ids ret ef post px mc ms) {ty : FieldType} (hr : ret = some ty) {x : Int} (hn : narrow ty (iV x) = iV x) (hd : decode cc pc = .ok (.ireturn, 1)) (hq : post (some (iV x)) u) : cW X mc ms pc lv [iV x] (gw E.1 ids (ef u) ++ T) := by
  intro H locs ls hP hD hS hl
  rw [K.2.2.1]
  exact vx_ret (W.zret F.hx F.hb (K.2.1.trans hr) hn (fun t ht hW => k_q K.1 hq hP hS ht _) (by have h := hS.2.2; rw [K.1] at h; exact h) hd F.hl)
theorem k_xretv (F : mF X E own cc Ts) (K : kXx X E ids ret ef post px mc ms) (hr : ret = none) (hd : decode cc pc = .ok (.return_, 1)) (hq : post none u) : cW X mc ms pc lv [] (gw E.1 ids (ef u) ++ T) := by
  intro H locs ls hP hD hS hl
  rw [K.2.2.1]
  exact vx_ret (W.vret F.hx F.hb (K.2.1.trans hr) (fun t ht hW => k_q K.1 hq hP hS ht _) (by have h := hS.2.2; rw [K.1] at h; exact h) hd F.hl)
/-- what a caller's world lets a callee change is the caller's own -/
theorem k_own {A : Nat → Prop} {H0 H : Heap} {locs : List Loc} (hA : ∀ q, H0.size ≤ q → A q) (hD : va_D A (gw E.1 ids e ++ T)) (hS : va_S A H0 H locs) : ∀ q, gA E.1 ids H.size q → A q := by
  intro q h
  rcases h with ⟨i, hi, rfl⟩ | h
  · obtain ⟨k, hk, -⟩ := gw_get (ad := E.1) (e := e) (T := T) hi
    exact hD.2 k _ hk
  · exact hA q (Nat.le_trans hS.1 h)
theorem k_pre (F : mF X E own cc Ts) {H : Heap} {locs : List Loc} (hP : va_P X.2.2.2.2 vwCl (gw E.1 ids e ++ T) H) (hD : va_D X.2.2.2.1 (gw E.1 ids e ++ T)) (hS : va_S X.2.2.2.1 X.2.1.1.heap H locs) (av : List Value) : ∀ U : State, U.heap = H → X.2.1.1.WarmedH U.vm → va_Pc av (gP X.2.2.2.2 E ids H.size (gw E.1 ids e)) av.toArray U := by
  intro U hU hW
  subst hU
  exact ⟨rfl, rfl, gP_left hP, (gw_left hD).weaken (fun _ _ _ _ => trivial), va_K.moved hW.alike F.hK, F.hS.go hS.2.1 (k_own F.hA hD hS) hW⟩
/-- a call of a method of a thing of the world -/
theorem q_cV (F : mF X E own cc Ts) {τ : Type} {ef : τ → Nat → va_E} {post : Option Value → τ → Prop} {y : MethodName} {bytes : ByteArray} {maxL n index i ci N : Nat} {rt : Option FieldType} {wsY wsY' : List Cond} {rm : Room} {av st0 : List Value} {fs : List Value} {C : String} {TT : u_T}
    (hM : gM X.1.2.1 X.2.2.2.2 E ids y wsY rm (.ref (E.1 i) :: av) e ef post mc ms) (hi : i ∈ ids) (he : e i = .inr (ci, fs)) (hc : vwCl[ci]? = some (C, TT, N)) (hg : GoodIn Ts (wsV own index C y wsY)) (hw : wsY = Cond.code y bytes maxL rt :: wsY') (hrc : rm.cells = mc ∧ rm.slots = ms)
    (hy : y.cls = C ∧ y.cls ≠ "java/lang/invoke/MethodHandle" ∧ y.cls ≠ "java/lang/invoke/VarHandle" ∧ (parseMethodDescriptor y.desc).map (fun d => d.parameters.length) = some n) (hR : rm.frames + 1 ≤ X.1.2.2.2.frames ∧ 8 + (maxL + 11) + rm.locals ≤ X.1.2.2.2.locals)
    (hn : av.length = n) (hst : st0 = av.reverse ++ .ref (E.1 i) :: st) (hcat : (st.map fun v => v.category).sum ≤ 8) (hd : decode cc pc = .ok (.invokevirtual index, 3)) (hcs : nc + mc ≤ X.1.2.2.2.cells ∧ ns + ms ≤ X.1.2.2.2.slots)
    (kk : ∀ (v : Option Value) (u : τ), post v u → cW X (nc + mc) (ns + ms) (pc + 3) lv (v.toList ++ st) (gw E.1 ids (ef u) ++ T)) : cW X nc ns pc lv st0 (gw E.1 ids e ++ T) := by
  intro H locs ls hP hD hS hlv
  obtain ⟨q, hq, -⟩ := gw_get (ad := E.1) (e := e) (T := T) hi
  rw [he] at hq
  have ho := k_own F.hA hD hS
  refine g_callq (va_runV (As := av) (rest := st) ⟨F.hx, F.hb, F.hml, F.ho, F.ht⟩ (hM H.size) (cwV n F.ht hg hw hrc.1 hrc.2 hy hR) ⟨gP_blind, va_recv F.hK hP hc hq, k_pre F hP hD hS _⟩ rfl hn hlv.1 hst (lv_room hcat) hd hcs) hS (fun z _ h => ho z h) ho (fun v u H1 locs1 hp hB hk hS1 => ?_)
  exact kk v u hp H1 locs1 ls (gP_join hP hD hk hB) (gD_join hD) hS1 hlv
theorem q_cS (F : mF X E own cc Ts) {τ : Type} {ef : τ → Nat → va_E} {post : Option Value → τ → Prop} {y : MethodName} {bytes : ByteArray} {maxL n index : Nat} {rt : Option FieldType} {wsY wsY' : List Cond} {rm : Room} {av st0 : List Value}
    (hM : gM X.1.2.1 X.2.2.2.2 E ids y wsY rm av e ef post mc ms) (hg : GoodIn Ts (va_wsS own index y wsY)) (hw : wsY = Cond.code y bytes maxL rt :: wsY') (hrc : rm.cells = mc ∧ rm.slots = ms)
    (hy : y.cls ≠ "java/lang/invoke/MethodHandle" ∧ y.cls ≠ "java/lang/invoke/VarHandle" ∧ (parseMethodDescriptor y.desc).map (fun d => d.parameters.length) = some n) (hR : rm.frames + 1 ≤ X.1.2.2.2.frames ∧ 8 + (maxL + 11) + rm.locals ≤ X.1.2.2.2.locals)
    (hn : av.length = n) (hst : st0 = av.reverse ++ st) (hcat : (st.map fun v => v.category).sum ≤ 8) (hd : decode cc pc = .ok (.invokestatic index, 3)) (hcs : nc + mc ≤ X.1.2.2.2.cells ∧ ns + ms ≤ X.1.2.2.2.slots)
    (kk : ∀ (v : Option Value) (u : τ), post v u → cW X (nc + mc) (ns + ms) (pc + 3) lv (v.toList ++ st) (gw E.1 ids (ef u) ++ T)) : cW X nc ns pc lv st0 (gw E.1 ids e ++ T) := by
  intro H locs ls hP hD hS hlv
  have ho := k_own F.hA hD hS
  refine g_callq (va_runS (As := av) (rest := st) ⟨F.hx, F.hb, F.hml, F.ho, F.ht⟩ (hM H.size) (va_cwS n F.ht hg hw hrc.1 hrc.2 hy hR) ⟨gP_blind, k_pre F hP hD hS _⟩ rfl hn hlv.1 hst (lv_room hcat) hd hcs) hS (fun z _ h => ho z h) ho (fun v u H1 locs1 hp hB hk hS1 => ?_)
  exact kk v u hp H1 locs1 ls (gP_join hP hD hk hB) (gD_join hD) hS1 hlv
/-- a call that may throw, in a body that lets it pass -/
theorem q_cVx (F : mF X E own cc Ts) (K : kXx X E ids ret ef post px mc ms) {qx : String → σ → Prop} {qo : Option Value → σ → Prop} {y : MethodName} {bytes : ByteArray} {maxL n index i ci N kc ks : Nat} {rt : Option FieldType} {wsY wsY' : List Cond} {rm : Room} {av st0 : List Value} {fs : List Value} {C : String} {TT : u_T}
    (hM : gMx X.1.2.1 X.2.2.2.2 E ids y wsY rm (.ref (E.1 i) :: av) e ef qo qx kc ks) (hi : i ∈ ids) (he : e i = .inr (ci, fs)) (hc : vwCl[ci]? = some (C, TT, N)) (hg : GoodIn Ts (wsV own index C y wsY)) (hw : wsY = Cond.code y bytes maxL rt :: wsY') (hrc : rm.cells = kc ∧ rm.slots = ks)
    (hy : y.cls = C ∧ y.cls ≠ "java/lang/invoke/MethodHandle" ∧ y.cls ≠ "java/lang/invoke/VarHandle" ∧ (parseMethodDescriptor y.desc).map (fun d => d.parameters.length) = some n) (hR : rm.frames + 1 ≤ X.1.2.2.2.frames ∧ 8 + (maxL + 11) + rm.locals ≤ X.1.2.2.2.locals)
    (hn : av.length = n) (hst : st0 = av.reverse ++ .ref (E.1 i) :: st) (hcat : (st.map fun v => v.category).sum ≤ 8) (hd : decode cc pc = .ok (.invokevirtual index, 3)) (hcs : nc + kc ≤ X.1.2.2.2.cells ∧ ns + ks ≤ X.1.2.2.2.slots) (hcm : nc + kc ≤ mc ∧ ns + ks ≤ ms)
    (hx : ∀ (c : String) (u : σ), qx c u → px c u)
    (kk : ∀ (v : Option Value) (u : σ), qo v u → cW X (nc + kc) (ns + ks) (pc + 3) lv (v.toList ++ st) (gw E.1 ids (ef u) ++ [])) : cW X nc ns pc lv st0 (gw E.1 ids e ++ []) := by
  intro H locs ls hP hD hS hlv
  obtain ⟨q, hq, -⟩ := gw_get (ad := E.1) (e := e) (T := []) hi
  rw [he] at hq
  have ho := k_own F.hA hD hS
  refine g_callx (vx_runV (As := av) (rest := st) ⟨F.hx, F.hb, F.hml, F.ho, F.ht⟩ (hM H.size) (cwV n F.ht hg hw hrc.1 hrc.2 hy hR) ⟨gP_blind, va_recv F.hK hP hc hq, k_pre F hP hD hS _⟩ rfl hn hlv.1 hst (lv_room hcat) hd hcs) hS (fun z _ h => ho z h) ho (fun c9 ce q9 u H1 locs1 hp hB hk hS1 hce hcv hcl => ?_) (fun v u H1 locs1 hp hB hk hS1 => ?_)
  · rw [K.2.2.1]
    refine vx_out (fun x hx => absurd hx (fun z => (K.2.2.2.1 x z).elim)) F.hl hce hcv hcl (fun t ht hvm => ?_) (by have h := hS1.2.2; rw [K.1] at h; exact h) hcm.1 hcm.2
    rw [K.1] at hS1
    exact ⟨⟨u, hx c9 u hp, by rw [ht]; exact hB⟩, hS1.F ht⟩
  · exact kk v u hp H1 locs1 ls (gP_join hP hD hk hB) (gD_join hD) hS1 hlv
end KR
