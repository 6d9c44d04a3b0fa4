/-! ===== rows for the law's body ===== -/
section QCB
variable {X : xC} {E : cE} {own : String} {cc : ByteArray} {nc ns pc mc ms index : Nat} {lv : List (Nat × Value)} {st : List Value} {T : va_W} {I : cI} {R : cR}
theorem rm_c {k mc ms n : Nat} {R : Room} (h : 60 ≤ R.frames ∧ 6000 ≤ R.locals) (hk : k ≤ 40) (hn : n ≤ 41) : (rmK k mc ms).frames + 1 ≤ R.frames ∧ 8 + (n + 11) + (rmK k mc ms).locals ≤ R.locals := by
  have h1 := h.1
  have h2 := h.2
  refine ⟨?_, ?_⟩
  · show k + 1 ≤ _; omega
  · show 8 + (n + 11) + 60 * k ≤ _; omega
theorem q_cAV (F : mF X E own cc bG) {q n : Nat} {f : Int → Int} {Q : cI → cR → (Int → Int) → Prop} {y : MethodName} {bytes : ByteArray} {maxL m : Nat} {rt : Option FieldType} {wsY wsY' : List Cond} {rm : Room} {av av0 st0 : List Value} (hm : cM I R)
    (hM : gM X.1.2.1 X.2.2.2.2 (adP E q) pIds y wsY rm av0 (pef (adP E q) n ((I, R), f)) (pef (adP E q) n) (pVP Q) mc ms) (ha : av0 = av) (hg : GoodIn bG (va_wsS own index y wsY)) (hw : wsY = Cond.code y bytes maxL rt :: wsY') (hrc : rm.cells = mc ∧ rm.slots = ms)
    (hy : y.cls = RL ∧ y.cls ≠ "java/lang/invoke/MethodHandle" ∧ y.cls ≠ "java/lang/invoke/VarHandle" ∧ (parseMethodDescriptor y.desc).map (fun d => d.parameters.length) = some m) (hR : rm.frames + 1 ≤ X.1.2.2.2.frames ∧ 8 + (maxL + 11) + rm.locals ≤ X.1.2.2.2.locals)
    (hn : av.length = m) (hst : st0 = av.reverse ++ st) (hcat : (st.map fun v => v.category).sum ≤ 8) (hd : decode cc pc = .ok (.invokestatic index, 3)) (hcs : nc + mc ≤ X.1.2.2.2.cells ∧ ns + ms ≤ X.1.2.2.2.slots)
    (kk : ∀ (I' : cI) (R' : cR) (f' : Int → Int), cM I' R' → (∀ z, inR (f' z)) → Q I' R' f' → cW X (nc + mc) (ns + ms) (pc + 3) lv st (gw E.1 cIds (cef E (I', R')) ++ ((q, iA E n f') :: T))) : cW X nc ns pc lv st0 (gw E.1 cIds (cef E (I, R)) ++ ((q, iA E n f) :: T)) := by
  subst ha
  exact q_cA F hm hM hg hw hrc hy.2 hR hn hst hcat hd hcs (fun v u hp => hp.2.1) (fun v u hp => by
    obtain ⟨rfl, h1, h2, h3⟩ := hp
    exact kk u.1.1 u.1.2 u.2 h1 h2 h3)
theorem q_cAZ (F : mF X E own cc bG) {q n : Nat} {f : Int → Int} {Q : Int → cI → cR → (Int → Int) → Prop} {y : MethodName} {bytes : ByteArray} {maxL m : Nat} {rt : Option FieldType} {wsY wsY' : List Cond} {rm : Room} {av av0 st0 : List Value} (hm : cM I R)
    (hM : gM X.1.2.1 X.2.2.2.2 (adP E q) pIds y wsY rm av0 (pef (adP E q) n ((I, R), f)) (pef (adP E q) n) (pIP Q) mc ms) (ha : av0 = av) (hg : GoodIn bG (va_wsS own index y wsY)) (hw : wsY = Cond.code y bytes maxL rt :: wsY') (hrc : rm.cells = mc ∧ rm.slots = ms)
    (hy : y.cls = RL ∧ y.cls ≠ "java/lang/invoke/MethodHandle" ∧ y.cls ≠ "java/lang/invoke/VarHandle" ∧ (parseMethodDescriptor y.desc).map (fun d => d.parameters.length) = some m) (hR : rm.frames + 1 ≤ X.1.2.2.2.frames ∧ 8 + (maxL + 11) + rm.locals ≤ X.1.2.2.2.locals)
    (hn : av.length = m) (hst : st0 = av.reverse ++ st) (hcat : (st.map fun v => v.category).sum ≤ 8) (hd : decode cc pc = .ok (.invokestatic index, 3)) (hcs : nc + mc ≤ X.1.2.2.2.cells ∧ ns + ms ≤ X.1.2.2.2.slots)
    (kk : ∀ (r : Int) (I' : cI) (R' : cR) (f' : Int → Int), inR r → cM I' R' → (∀ z, inR (f' z)) → Q r I' R' f' → cW X (nc + mc) (ns + ms) (pc + 3) lv (iV r :: st) (gw E.1 cIds (cef E (I', R')) ++ ((q, iA E n f') :: T))) : cW X nc ns pc lv st0 (gw E.1 cIds (cef E (I, R)) ++ ((q, iA E n f) :: T)) := by
  subst ha
  exact q_cA F hm hM hg hw hrc hy.2 hR hn hst hcat hd hcs (fun v u hp => by obtain ⟨x, h1, h2, h3, h4⟩ := hp; exact h3) (fun v u hp => by
    obtain ⟨x, rfl, h0, h1, h2, h3⟩ := hp
    exact kk x u.1.1 u.1.2 u.2 h0 h1 h2 h3)
theorem q_ofP {B C : va_W} {x : Nat × va_E} (k : cW X nc ns pc lv st (C ++ (x :: B))) : cW X nc ns pc lv st (B ++ ([x] ++ C)) := n_perm (by
  rw [← List.append_assoc]
  refine List.perm_append_comm.trans ?_
  exact List.Perm.append_left _ List.perm_append_comm) k
theorem q_toP {B C : va_W} {x : Nat × va_E} (k : cW X nc ns pc lv st (B ++ ([x] ++ C))) : cW X nc ns pc lv st (C ++ (x :: B)) := n_perm (by
  rw [← List.append_assoc B]
  refine List.Perm.trans ?_ List.perm_append_comm
  exact List.Perm.append_left _ (List.perm_append_comm (l₁ := [x]) (l₂ := B))) k
theorem q_asc {A B C : va_W} (k : cW X nc ns pc lv st (A ++ (B ++ C))) : cW X nc ns pc lv st ((A ++ B) ++ C) := by rw [List.append_assoc]; exact k
/-- a row made beside two mills -/
theorem q_tnewP (F : mF X E own cc bG) (harr : Cond.arrayClass .int ∈ bG) {x : Int} (n : Nat) (hx : x = n) (hn : n ≤ 100000) (hc : nc + 1 ≤ X.1.2.2.2.cells) (hs : ns + n ≤ X.1.2.2.2.slots) (hd : decode cc pc = .ok (.newarray .int, 2)) {C : va_W} {e : Nat → va_E}
    (kk : ∀ q : Nat, cW X (nc + 1) (ns + n) (pc + 2) lv (.ref q :: st) (gw E.1 cIds e ++ ([(q, iA E n (fun _ => 0))] ++ C))) : cW X nc ns pc lv (iV x :: st) (gw E.1 cIds e ++ ([] ++ C)) :=
  g_tnew F harr n hx hn hc hs hd (T' := fun q => ([] ++ C) ++ [(q, iA E n (fun _ => 0))]) (fun q => rfl) (fun q => n_perm (List.Perm.append_left _ (List.perm_append_comm (l₁ := C) (l₂ := [(q, iA E n (fun _ => 0))]))) (kk q))
end QCB
theorem wdDbl : Cond.constantDouble RL 129 (4625196817309499392 : UInt64) ∈ bG := bm (t_in5 (List.mem_of_getElem? (i := 64) rfl)) rfl
theorem blw_in {a b : Int} (h : 0 < b) (hb : inR b) : inR (blw a b) := by
  have := blw_b (a := a) h
  unfold inR at hb ⊢
  omega
