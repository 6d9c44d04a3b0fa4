/-! ===== constructors: calls, the small ones ===== -/
theorem n_callq {p : Program} {l : Launch} {e : Env} {R : Room} {s : State} {m : MethodId} {args : Array Value} {below : List Frame} {meth : Method} {c : Code} {H : Heap} {locs : List Loc} {cells slots : Nat} {Q : State → Prop} {pc : Nat} {ls : Array Slot} {rest st0 : List Value} {a : Array Value} {A0 A1 : Nat → Prop} {H0 : Heap} {mc ms : Nat} {free : Addr → Prop} {D : va_G} {S : Type} {post : S → Prop} {wf : S → va_W} (hr : va_Run p l e R s m args below meth c H locs cells slots mc ms (F0 m pc ls st0) rest (nQ D wf post A1 a) free) (hS : va_S A0 H0 H locs) (hA : ∀ q, q < H.size → A1 q → A0 q) (hf : ∀ q, free q → A0 q)
    (kk : ∀ (u : S) (H1 : Heap) (locs1 : List Loc), post u → va_P D vwCl (wf u) H1 → va_D A1 (wf u) → (∀ q : Nat, q < H.size → ¬ A1 q → H1[q]? = H[q]?) → va_S A0 H0 H1 locs1 → W p l e R s m args below meth c H1 locs1 (cells + mc) (slots + ms) Q (F0 m (pc + 3) ls rest)) : W p l e R s m args below meth c H locs cells slots Q (F0 m pc ls st0) := by
  intro T hT X
  obtain ⟨v, st₀, t, T', L, h0, X', hL, e1, e2, ⟨⟨u, hv, hp, hb, hd⟩, hF⟩, st⟩ := hr T hT X
  cases hv
  obtain ⟨k1, k2, k3⟩ := vx_keep h0 e1 hS hA hf hL hF
  obtain ⟨t2, a1, b1⟩ := kk u T'.heap (locs ++ L) hp (by rw [e1]; exact hb) hd k2 k3 T' rfl X'
  exact ⟨t2, st t2 a1, b1⟩
theorem bC {y : MethodName} {b : ByteArray} {n : Nat} {r : Option FieldType} (h5 : Cond.code y b n r ∈ bG) : GoodIn bG (Cond.code y b n r :: bG) := by
  have hm : ∀ w ∈ (Cond.code y b n r :: bG), w ∈ bG := fun w h => (List.mem_cons.mp h).elim (fun e => by rw [e]; exact h5) (fun h => h)
  exact fun w h => ⟨hm w h, good_of_word (List.mem_filter.mp (hm w h)).2⟩
section NC
variable {σ : Type} {X : xC} {E : cE} {own : String} {cc : ByteArray} {nc ns pc mc ms h0 index : Nat} {lv : List (Nat × Value)} {st : List Value} {w : va_W} {wf : Nat → σ → va_W} {post : σ → Prop}
theorem n_callN (F : mF X E own cc bG) (hC : sC X.2.1.1) {y : MethodName} {host : String} {bytes : ByteArray} {maxL : Nat} {wsY : List Cond} {rm : Room} {e0 : va_E} (hM : nM X.1.2.1 X.2.2.2.2 E y wsY rm e0 wf post mc ms) (hw : wsY = Cond.code y bytes maxL none :: bG) (hl : va_Nw (.methodLinkNest own index y host) X.2.1.1) (hi : Cond.instanceMethod y ∈ bG) (hini : Cond.initialized y.cls ∈ bG) (hcode : Cond.code y bytes maxL none ∈ bG) (hrc : rm.cells = mc ∧ rm.slots = ms)
    (hy : y.name = "<init>" ∧ y.cls ≠ "java/lang/invoke/MethodHandle" ∧ y.cls ≠ "java/lang/invoke/VarHandle" ∧ (parseMethodDescriptor y.desc).map (fun d => d.parameters.length) = some 0) (hR : rm.frames + 1 ≤ X.1.2.2.2.frames ∧ 8 + (maxL + 11) + rm.locals ≤ X.1.2.2.2.locals) (hcat : (st.map fun v => v.category).sum ≤ 8) (hd : decode cc pc = .ok (.invokespecial index, 3)) (hcs : nc + mc ≤ X.1.2.2.2.cells ∧ ns + ms ≤ X.1.2.2.2.slots) {q : Nat}
    (kk : ∀ u : σ, post u → cW X (nc + mc) (ns + ms) (pc + 3) lv st (w ++ wf q u)) : cW X nc ns pc lv (.ref q :: st) (w ++ [(q, e0)]) := by
  intro H locs ls hP hD hS hlv
  have ho := n_own F.hA hD hS
  refine n_callq (va_runIN (As := []) (rest := st) ⟨F.hx, F.hb, F.hml, F.ho, F.ht⟩ (hM H.size q) ⟨va_cnB 0 F.ht (by rw [hw]; exact bC hcode) hw hrc.1 hrc.2 hl (F.ht _ hini) hy.2 hR, hy.1, F.ht _ hi⟩ ⟨nP_blind, n_pre F hC hP hD hS⟩ rfl rfl hlv.1 rfl (lv_room hcat) hd hcs) hS (fun z _ h => ho z h) ho (fun u H1 locs1 hp hB hD1 hk hS1 => ?_)
  exact kk u hp H1 locs1 ls (n_join hP hD hk hB) (n_joinD hP hD ho hD1) hS1 hlv
theorem n_callI (F : mF X E own cc bG) (hC : sC X.2.1.1) {y : MethodName} {bytes : ByteArray} {maxL : Nat} {wsY : List Cond} {rm : Room} {e0 : va_E} (hM : nM X.1.2.1 X.2.2.2.2 E y wsY rm e0 wf post mc ms) (hw : wsY = Cond.code y bytes maxL none :: bG) (hl : Cond.methodLink own index y ∈ bG) (hi : Cond.instanceMethod y ∈ bG) (hini : Cond.initialized y.cls ∈ bG) (hcode : Cond.code y bytes maxL none ∈ bG) (hrc : rm.cells = mc ∧ rm.slots = ms)
    (hy : y.name = "<init>" ∧ y.cls ≠ "java/lang/invoke/MethodHandle" ∧ y.cls ≠ "java/lang/invoke/VarHandle" ∧ (parseMethodDescriptor y.desc).map (fun d => d.parameters.length) = some 0) (hR : rm.frames + 1 ≤ X.1.2.2.2.frames ∧ 8 + (maxL + 11) + rm.locals ≤ X.1.2.2.2.locals) (hcat : (st.map fun v => v.category).sum ≤ 8) (hd : decode cc pc = .ok (.invokespecial index, 3)) (hcs : nc + mc ≤ X.1.2.2.2.cells ∧ ns + ms ≤ X.1.2.2.2.slots) {q : Nat}
    (kk : ∀ u : σ, post u → cW X (nc + mc) (ns + ms) (pc + 3) lv st (w ++ wf q u)) : cW X nc ns pc lv (.ref q :: st) (w ++ [(q, e0)]) := by
  intro H locs ls hP hD hS hlv
  have ho := n_own F.hA hD hS
  refine n_callq (va_runI (As := []) (rest := st) ⟨F.hx, F.hb, F.hml, F.ho, F.ht⟩ (hM H.size q) (cwI 0 F.ht (by rw [hw]; exact bC hcode) hw hrc.1 hrc.2 (F.ht _ hini) (F.ht _ hl) (F.ht _ hi) hy.1 hy.2 hR) ⟨nP_blind, n_pre F hC hP hD hS⟩ rfl rfl hlv.1 rfl (lv_room hcat) hd hcs) hS (fun z _ h => ho z h) ho (fun u H1 locs1 hp hB hD1 hk hS1 => ?_)
  exact kk u hp H1 locs1 ls (n_join hP hD hk hB) (n_joinD hP hD ho hD1) hS1 hlv
end NC
theorem niy (y : MethodName) (h : y.name = "<init>" := by rfl) (a : y.cls ≠ "java/lang/invoke/MethodHandle" := by decide) (b : y.cls ≠ "java/lang/invoke/VarHandle" := by decide) (c : (parseMethodDescriptor y.desc).map (fun d => d.parameters.length) = some 0 := by decide +kernel) : y.name = "<init>" ∧ y.cls ≠ "java/lang/invoke/MethodHandle" ∧ y.cls ≠ "java/lang/invoke/VarHandle" ∧ (parseMethodDescriptor y.desc).map (fun d => d.parameters.length) = some 0 := ⟨h, a, b, c⟩
def vX9_init : List Cond := Cond.code yX9_init cX9_init 1 none :: bG
set_option maxHeartbeats 4000000 in
set_option maxRecDepth 100000 in
theorem kn9 {l : Launch} {D : va_G} {E : cE} : nM l D E yX9_init vX9_init (rmK 1 1 1600) (.inr (7, [iV 0, .null])) (fun h0 (q : Nat) => [(h0, .inr (7, [iV 0, .ref q])), (q, iA E 1600 (fun _ => 0))]) (fun _ => True) 1 1600 := by
  refine n_ofW (own := RX9) (cc := cX9_init) (maxL := 1) (by decide) rfl rfl rfl (Nat.le_of_ble_eq_true rfl) (fun X h0 hl hR hN hD F K => ?_)
  have hR1 : 1 ≤ X.1.2.2.2.frames ∧ 20 ≤ X.1.2.2.2.locals := by rw [hR]; exact ⟨by decide, by decide⟩
  refine q_aload_n F 0 dX9_init_0 rfl rfl ?_
  refine n_objI F hR1 wd39 dX9_init_1 ?_
  refine q_aload_n F 0 dX9_init_4 rfl rfl ?_
  refine q_sipush F dX9_init_5 (by decide) ?_
  refine n_newI F 1600 rfl (by decide) (by rw [hR]; decide) (by rw [hR]; decide) dX9_init_8 (fun q => ?_)
  refine n_putF F K.2.2.2.1 0 rfl (ci := 7) rfl ib9 tyX9 tyX9_ok nmX9 1 (by decide) wd43 rfl rfl (ty := .array .int) rfl rfl rfl (Nat.le_of_ble_eq_true rfl) dX9_init_10 rfl ?_
  exact n_ret (u := q) F K dX9_init_13 trivial
def vX3_init : List Cond := Cond.code yX3_init cX3_init 1 none :: bG
set_option maxHeartbeats 4000000 in
set_option maxRecDepth 100000 in
theorem kn3 {l : Launch} {D : va_G} {E : cE} : nM l D E yX3_init vX3_init (rmK 1 1 1980) (.inr (1, [.null, iV 0])) (fun h0 (q : Nat) => [(h0, .inr (1, [.ref q, iV 0])), (q, iA E 1980 (fun _ => 0))]) (fun _ => True) 1 1980 := by
  refine n_ofW (own := RX3) (cc := cX3_init) (maxL := 1) (by decide) rfl rfl rfl (Nat.le_of_ble_eq_true rfl) (fun X h0 hl hR hN hD F K => ?_)
  have hR1 : 1 ≤ X.1.2.2.2.frames ∧ 20 ≤ X.1.2.2.2.locals := by rw [hR]; exact ⟨by decide, by decide⟩
  refine q_aload_n F 0 dX3_init_0 rfl rfl ?_
  refine n_objI F hR1 wd72 dX3_init_1 ?_
  refine q_aload_n F 0 dX3_init_4 rfl rfl ?_
  refine q_sipush F dX3_init_5 (by decide) ?_
  refine n_newI F 1980 rfl (by decide) (by rw [hR]; decide) (by rw [hR]; decide) dX3_init_8 (fun q => ?_)
  refine n_putF F K.2.2.2.1 0 rfl (ci := 1) rfl ib3 tyX3 tyX3_ok nmX3 0 (by decide) wd73 rfl rfl (ty := .array .int) rfl rfl rfl (Nat.le_of_ble_eq_true rfl) dX3_init_10 rfl ?_
  exact n_ret (u := q) F K dX3_init_13 trivial
def vX2_init : List Cond := Cond.code yX2_init cX2_init 1 none :: bG
set_option maxHeartbeats 4000000 in
set_option maxRecDepth 100000 in
theorem kn2 {l : Launch} {D : va_G} {E : cE} : nM l D E yX2_init vX2_init (rmK 1 1 25) (.inr (0, [.null, iV 0])) (fun h0 (q : Nat) => [(h0, .inr (0, [.ref q, iV 0])), (q, iA E 25 (fun _ => 0))]) (fun _ => True) 1 25 := by
  refine n_ofW (own := RX2) (cc := cX2_init) (maxL := 1) (by decide) rfl rfl rfl (Nat.le_of_ble_eq_true rfl) (fun X h0 hl hR hN hD F K => ?_)
  have hR1 : 1 ≤ X.1.2.2.2.frames ∧ 20 ≤ X.1.2.2.2.locals := by rw [hR]; exact ⟨by decide, by decide⟩
  refine q_aload_n F 0 dX2_init_0 rfl rfl ?_
  refine n_objI F hR1 wd124 dX2_init_1 ?_
  refine q_aload_n F 0 dX2_init_4 rfl rfl ?_
  refine q_bipush F dX2_init_5 (by decide) ?_
  refine n_newI F 25 rfl (by decide) (by rw [hR]; decide) (by rw [hR]; decide) dX2_init_7 (fun q => ?_)
  refine n_putF F K.2.2.2.1 0 rfl (ci := 0) rfl ib2 tyX2 tyX2_ok nmX2 0 (by decide) wd125 rfl rfl (ty := .array .int) rfl rfl rfl (Nat.le_of_ble_eq_true rfl) dX2_init_9 rfl ?_
  exact n_ret (u := q) F K dX2_init_12 trivial
def vX6_init : List Cond := Cond.code yX6_init cX6_init 1 none :: bG
set_option maxHeartbeats 4000000 in
set_option maxRecDepth 100000 in
theorem kn6 {l : Launch} {D : va_G} {E : cE} : nM l D E yX6_init vX6_init (rmK 1 2 50) (.inr (4, [.null, iV 0, iV 0, iV 0, iV 0, iV 0, iV 0, .null])) (fun h0 (q : Nat × Nat) => [(h0, .inr (4, [.ref q.1, iV 0, iV 0, iV 0, iV 0, iV 0, iV 0, .ref q.2])), (q.1, iA E 25 (fun _ => 0)), (q.2, iA E 25 (fun _ => 0))]) (fun _ => True) 2 50 := by
  refine n_ofW (own := RX6) (cc := cX6_init) (maxL := 1) (by decide) rfl rfl rfl (Nat.le_of_ble_eq_true rfl) (fun X h0 hl hR hN hD F K => ?_)
  have hR1 : 1 ≤ X.1.2.2.2.frames ∧ 20 ≤ X.1.2.2.2.locals := by rw [hR]; exact ⟨by decide, by decide⟩
  refine q_aload_n F 0 dX6_init_0 rfl rfl ?_
  refine n_objI F hR1 wd103 dX6_init_1 ?_
  refine q_aload_n F 0 dX6_init_4 rfl rfl ?_
  refine q_bipush F dX6_init_5 (by decide) ?_
  refine n_newI F 25 rfl (by decide) (by rw [hR]; decide) (by rw [hR]; decide) dX6_init_7 (fun q => ?_)
  refine n_putF F K.2.2.2.1 0 rfl (ci := 4) rfl ib6 tyX6 tyX6_ok nmX6 0 (by decide) wd104 rfl rfl (ty := .array .int) rfl rfl rfl (Nat.le_of_ble_eq_true rfl) dX6_init_9 rfl ?_
  refine q_aload_n F 0 dX6_init_12 rfl rfl ?_
  refine q_bipush F dX6_init_13 (by decide) ?_
  refine n_newI F 25 rfl (by decide) (by rw [hR]; decide) (by rw [hR]; decide) dX6_init_15 (fun r => ?_)
  refine n_putF F K.2.2.2.1 0 rfl (ci := 4) rfl ib6 tyX6 tyX6_ok nmX6 7 (by decide) wd118 rfl rfl (ty := .array .int) rfl rfl rfl (Nat.le_of_ble_eq_true rfl) dX6_init_17 rfl ?_
  exact n_ret (u := (q, r)) F K dX6_init_20 trivial
def vX10_init : List Cond := Cond.code yX10_init cX10_init 1 none :: bG
set_option maxHeartbeats 4000000 in
set_option maxRecDepth 100000 in
theorem kn10 {l : Launch} {D : va_G} {E : cE} : nM l D E yX10_init vX10_init (rmK 1 3 4803) (.inr (8, [iV 0, .null, .null, .null])) (fun h0 (q : Nat × Nat × Nat) => [(h0, .inr (8, [iV 0, .ref q.1, .ref q.2.1, .ref q.2.2])), (q.1, iA E 1601 (fun _ => 0)), (q.2.1, iA E 1601 (fun _ => 0)), (q.2.2, iA E 1601 (fun _ => 0))]) (fun _ => True) 3 4803 := by
  refine n_ofW (own := RX10) (cc := cX10_init) (maxL := 1) (by decide) rfl rfl rfl (Nat.le_of_ble_eq_true rfl) (fun X h0 hl hR hN hD F K => ?_)
  have hR1 : 1 ≤ X.1.2.2.2.frames ∧ 20 ≤ X.1.2.2.2.locals := by rw [hR]; exact ⟨by decide, by decide⟩
  refine q_aload_n F 0 dX10_init_0 rfl rfl ?_
  refine n_objI F hR1 wd56 dX10_init_1 ?_
  refine q_aload_n F 0 dX10_init_4 rfl rfl ?_
  refine q_sipush F dX10_init_5 (by decide) ?_
  refine n_newI F 1601 rfl (by decide) (by rw [hR]; decide) (by rw [hR]; decide) dX10_init_8 (fun q => ?_)
  refine n_putF F K.2.2.2.1 0 rfl (ci := 8) rfl ib10 tyX10 tyX10_ok nmX10 1 (by decide) wd59 rfl rfl (ty := .array .int) rfl rfl rfl (Nat.le_of_ble_eq_true rfl) dX10_init_10 rfl ?_
  refine q_aload_n F 0 dX10_init_13 rfl rfl ?_
  refine q_sipush F dX10_init_14 (by decide) ?_
  refine n_newI F 1601 rfl (by decide) (by rw [hR]; decide) (by rw [hR]; decide) dX10_init_17 (fun r => ?_)
  refine n_putF F K.2.2.2.1 0 rfl (ci := 8) rfl ib10 tyX10 tyX10_ok nmX10 2 (by decide) wd60 rfl rfl (ty := .array .int) rfl rfl rfl (Nat.le_of_ble_eq_true rfl) dX10_init_19 rfl ?_
  refine q_aload_n F 0 dX10_init_22 rfl rfl ?_
  refine q_sipush F dX10_init_23 (by decide) ?_
  refine n_newI F 1601 rfl (by decide) (by rw [hR]; decide) (by rw [hR]; decide) dX10_init_26 (fun t => ?_)
  refine n_putF F K.2.2.2.1 0 rfl (ci := 8) rfl ib10 tyX10 tyX10_ok nmX10 3 (by decide) wd61 rfl rfl (ty := .array .int) rfl rfl rfl (Nat.le_of_ble_eq_true rfl) dX10_init_28 rfl ?_
  exact n_ret (u := (q, r, t)) F K dX10_init_31 trivial
def vX7_init : List Cond := Cond.code yX7_init cX7_init 1 none :: bG
set_option maxHeartbeats 4000000 in
set_option maxRecDepth 100000 in
theorem kn7 {l : Launch} {D : va_G} {E : cE} : nM l D E yX7_init vX7_init (rmK 1 1 5) (.inr (5, [.null, iV 0, iV 0, iV 0, .null, iV 0])) (fun h0 (q : Nat) => [(h0, .inr (5, [.ref (E.2.1 0 0), iV 0, iV 0, iV 0, .ref q, iV 0])), (q, iA E 5 (fun _ => 0))]) (fun _ => True) 1 5 := by
  refine n_ofW (own := RX7) (cc := cX7_init) (maxL := 1) (by decide) rfl rfl rfl (Nat.le_of_ble_eq_true rfl) (fun X h0 hl hR hN hD F K => ?_)
  have hR1 : 1 ≤ X.1.2.2.2.frames ∧ 20 ≤ X.1.2.2.2.locals := by rw [hR]; exact ⟨by decide, by decide⟩
  refine q_aload_n F 0 dX7_init_0 rfl rfl ?_
  refine n_objI F hR1 wd139 dX7_init_1 ?_
  refine q_aload_n F 0 dX7_init_4 rfl rfl ?_
  refine q_gs F (sZ_DIFFER F) wd140 rfl dX7_init_5 ?_
  refine n_put F 0 rfl (ci := 5) rfl ib7 tyX7 tyX7_ok nmX7 0 (by decide) wd142 rfl rfl (ty := .object "RiddleMill$Kind") rfl rfl rfl (Nat.le_of_ble_eq_true rfl) dX7_init_8 rfl ?_
  refine q_aload_n F 0 dX7_init_11 rfl rfl ?_
  refine q_iconst F dX7_init_12 ?_
  refine n_newI F 5 rfl (by decide) (by rw [hR]; decide) (by rw [hR]; decide) dX7_init_13 (fun q => ?_)
  refine n_putF F K.2.2.2.1 0 rfl (ci := 5) rfl ib7 tyX7 tyX7_ok nmX7 4 (by decide) wd161 rfl rfl (ty := .array .int) rfl rfl rfl (Nat.le_of_ble_eq_true rfl) dX7_init_15 rfl ?_
  exact n_ret (u := q) F K dX7_init_18 trivial
def vX5_init : List Cond := Cond.code yX5_init cX5_init 1 none :: bG
set_option maxHeartbeats 4000000 in
set_option maxRecDepth 100000 in
theorem kn5 {l : Launch} {D : va_G} {E : cE} : nM l D E yX5_init vX5_init (rmK 2 4 4807) (.inr (3, [iV 0, iV 0, .null, iV 0])) (fun h0 (q : Nat × Nat × Nat × Nat) => [(h0, .inr (3, [iV 0, iV (-1), .ref q.1, iV 0])), (q.1, .inr (8, [iV 0, .ref q.2.1, .ref q.2.2.1, .ref q.2.2.2])), (q.2.1, iA E 1601 (fun _ => 0)), (q.2.2.1, iA E 1601 (fun _ => 0)), (q.2.2.2, iA E 1601 (fun _ => 0))]) (fun _ => True) 4 4807 := by
  refine n_ofW (own := RX5) (cc := cX5_init) (maxL := 1) (by decide) rfl rfl rfl (Nat.le_of_ble_eq_true rfl) (fun X h0 hl hR hN hD F K => ?_)
  have hR1 : 1 ≤ X.1.2.2.2.frames ∧ 20 ≤ X.1.2.2.2.locals := by rw [hR]; exact ⟨by decide, by decide⟩
  refine q_aload_n F 0 dX5_init_0 rfl rfl ?_
  refine n_objI F hR1 wd50 dX5_init_1 ?_
  refine q_aload_n F 0 dX5_init_4 rfl rfl ?_
  refine q_iconst F dX5_init_5 ?_
  refine n_put F 0 rfl (ci := 3) rfl ib5 tyX5 tyX5_ok nmX5 1 (by decide) wd64 rfl rfl (ty := .int) rfl rfl rfl (Nat.le_of_ble_eq_true rfl) dX5_init_6 rfl ?_
  refine q_aload_n F 0 dX5_init_9 rfl rfl ?_
  refine n_newO F (ci := 8) rfl ib10 tyX10 tyX10_ok wd51 wd52 wd4 [iV 0, .null, .null, .null] (fun j hj => by rcases (show j = 0 ∨ j = 1 ∨ j = 2 ∨ j = 3 by omega) with rfl | rfl | rfl | rfl <;> rfl) (by rw [hR]; decide) (by rw [hR]; decide) dX5_init_10 (fun q => ?_)
  refine q_dup F dX5_init_13 rfl ?_
  subst hl; subst hD
  refine n_callN F K.2.2.2.2 (kn10 (E := E)) rfl K.2.2.2.2.2.2.1 wd54 wd4 wd55 ⟨rfl, rfl⟩ (niy _) (rmK_le hR (by decide) (by decide)) (Nat.le_of_ble_eq_true rfl) dX5_init_14 (by rw [hR]; exact ⟨by decide, by decide⟩) (fun r _ => ?_)
  refine n_putF F K.2.2.2.1 0 rfl (ci := 3) rfl ib5 tyX5 tyX5_ok nmX5 2 (by decide) wd65 rfl rfl (ty := .object "RiddleMill$Tokens") rfl rfl rfl (Nat.le_of_ble_eq_true rfl) dX5_init_17 rfl ?_
  exact n_ret (u := (q, r)) F K dX5_init_20 trivial
