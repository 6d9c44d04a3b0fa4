/-! ===== the start: texts ===== -/
def msI : List Nat := [350, 352, 354, 356, 358, 360, 362, 364, 366, 368, 369, 371, 373, 375, 139]
def tmS (i : Nat) : Term := Term.string "RiddleMillModel" (msI.getD i 0)
theorem tx_ne : ∀ i : Nat, i < 15 → ∀ j : Nat, j < 15 → txL.getD i 0 = txL.getD j 0 → (∀ k : Nat, k < txL.getD i 0 → (txB.getD i []).getD k 0 = (txB.getD j []).getD k 0) → i = j := by decide +kernel
theorem tx_b : ∀ i : Nat, i < 15 → txL.getD i 0 < 100 := by decide +kernel
theorem f_ex : ∀ i : Nat, i < 15 → (Cond.exactly (tmS i) "java/lang/String") ∈ flatC (Jvm.Cond.and given_1 narrow_1) := by decide +kernel
theorem f_co : ∀ i : Nat, i < 15 → (Cond.eq (.field (tmS i) "java/lang/String" "coder" "B") (.int 0)) ∈ flatC (Jvm.Cond.and given_1 narrow_1) := by decide +kernel
theorem f_ar : ∀ i : Nat, i < 15 → (Cond.arrayOf (.field (tmS i) "java/lang/String" "value" "[B") .byte) ∈ flatC (Jvm.Cond.and given_1 narrow_1) := by decide +kernel
theorem f_le : ∀ i : Nat, i < 15 → (Cond.eq (.length (.field (tmS i) "java/lang/String" "value" "[B")) (.int (Int32.ofNat (txL.getD i 0)))) ∈ flatC (Jvm.Cond.and given_1 narrow_1) := by decide +kernel
theorem f_el0 : ∀ j : Nat, j < txL.getD 0 0 → (Cond.eq (.elem (.field (tmS 0) "java/lang/String" "value" "[B") (.int (Int32.ofNat j))) (.int ((txB.getD 0 []).getD j 0))) ∈ flatC (Jvm.Cond.and given_1 narrow_1) := by decide +kernel
theorem f_el1 : ∀ j : Nat, j < txL.getD 1 0 → (Cond.eq (.elem (.field (tmS 1) "java/lang/String" "value" "[B") (.int (Int32.ofNat j))) (.int ((txB.getD 1 []).getD j 0))) ∈ flatC (Jvm.Cond.and given_1 narrow_1) := by decide +kernel
theorem f_el2 : ∀ j : Nat, j < txL.getD 2 0 → (Cond.eq (.elem (.field (tmS 2) "java/lang/String" "value" "[B") (.int (Int32.ofNat j))) (.int ((txB.getD 2 []).getD j 0))) ∈ flatC (Jvm.Cond.and given_1 narrow_1) := by decide +kernel
theorem f_el3 : ∀ j : Nat, j < txL.getD 3 0 → (Cond.eq (.elem (.field (tmS 3) "java/lang/String" "value" "[B") (.int (Int32.ofNat j))) (.int ((txB.getD 3 []).getD j 0))) ∈ flatC (Jvm.Cond.and given_1 narrow_1) := by decide +kernel
theorem f_el4 : ∀ j : Nat, j < txL.getD 4 0 → (Cond.eq (.elem (.field (tmS 4) "java/lang/String" "value" "[B") (.int (Int32.ofNat j))) (.int ((txB.getD 4 []).getD j 0))) ∈ flatC (Jvm.Cond.and given_1 narrow_1) := by decide +kernel
theorem f_el5 : ∀ j : Nat, j < txL.getD 5 0 → (Cond.eq (.elem (.field (tmS 5) "java/lang/String" "value" "[B") (.int (Int32.ofNat j))) (.int ((txB.getD 5 []).getD j 0))) ∈ flatC (Jvm.Cond.and given_1 narrow_1) := by decide +kernel
theorem f_el6 : ∀ j : Nat, j < txL.getD 6 0 → (Cond.eq (.elem (.field (tmS 6) "java/lang/String" "value" "[B") (.int (Int32.ofNat j))) (.int ((txB.getD 6 []).getD j 0))) ∈ flatC (Jvm.Cond.and given_1 narrow_1) := by decide +kernel
theorem f_el7 : ∀ j : Nat, j < txL.getD 7 0 → (Cond.eq (.elem (.field (tmS 7) "java/lang/String" "value" "[B") (.int (Int32.ofNat j))) (.int ((txB.getD 7 []).getD j 0))) ∈ flatC (Jvm.Cond.and given_1 narrow_1) := by decide +kernel
theorem f_el8 : ∀ j : Nat, j < txL.getD 8 0 → (Cond.eq (.elem (.field (tmS 8) "java/lang/String" "value" "[B") (.int (Int32.ofNat j))) (.int ((txB.getD 8 []).getD j 0))) ∈ flatC (Jvm.Cond.and given_1 narrow_1) := by decide +kernel
theorem f_el9 : ∀ j : Nat, j < txL.getD 9 0 → (Cond.eq (.elem (.field (tmS 9) "java/lang/String" "value" "[B") (.int (Int32.ofNat j))) (.int ((txB.getD 9 []).getD j 0))) ∈ flatC (Jvm.Cond.and given_1 narrow_1) := by decide +kernel
theorem f_el10 : ∀ j : Nat, j < txL.getD 10 0 → (Cond.eq (.elem (.field (tmS 10) "java/lang/String" "value" "[B") (.int (Int32.ofNat j))) (.int ((txB.getD 10 []).getD j 0))) ∈ flatC (Jvm.Cond.and given_1 narrow_1) := by decide +kernel
theorem f_el11 : ∀ j : Nat, j < txL.getD 11 0 → (Cond.eq (.elem (.field (tmS 11) "java/lang/String" "value" "[B") (.int (Int32.ofNat j))) (.int ((txB.getD 11 []).getD j 0))) ∈ flatC (Jvm.Cond.and given_1 narrow_1) := by decide +kernel
theorem f_el12 : ∀ j : Nat, j < txL.getD 12 0 → (Cond.eq (.elem (.field (tmS 12) "java/lang/String" "value" "[B") (.int (Int32.ofNat j))) (.int ((txB.getD 12 []).getD j 0))) ∈ flatC (Jvm.Cond.and given_1 narrow_1) := by decide +kernel
theorem f_el13 : ∀ j : Nat, j < txL.getD 13 0 → (Cond.eq (.elem (.field (tmS 13) "java/lang/String" "value" "[B") (.int (Int32.ofNat j))) (.int ((txB.getD 13 []).getD j 0))) ∈ flatC (Jvm.Cond.and given_1 narrow_1) := by decide +kernel
theorem f_el14 : ∀ j : Nat, j < txL.getD 14 0 → (Cond.eq (.elem (.field (tmS 14) "java/lang/String" "value" "[B") (.int (Int32.ofNat j))) (.int ((txB.getD 14 []).getD j 0))) ∈ flatC (Jvm.Cond.and given_1 narrow_1) := by decide +kernel
theorem f_el : ∀ i : Nat, i < 15 → ∀ j : Nat, j < txL.getD i 0 → (Cond.eq (.elem (.field (tmS i) "java/lang/String" "value" "[B") (.int (Int32.ofNat j))) (.int ((txB.getD i []).getD j 0))) ∈ flatC (Jvm.Cond.and given_1 narrow_1) := by
  intro i hi
  have h : i = 0 ∨ i = 1 ∨ i = 2 ∨ i = 3 ∨ i = 4 ∨ i = 5 ∨ i = 6 ∨ i = 7 ∨ i = 8 ∨ i = 9 ∨ i = 10 ∨ i = 11 ∨ i = 12 ∨ i = 13 ∨ i = 14 := by omega
  rcases h with rfl | rfl | rfl | rfl | rfl | rfl | rfl | rfl | rfl | rfl | rfl | rfl | rfl | rfl | rfl
  · exact f_el0
  · exact f_el1
  · exact f_el2
  · exact f_el3
  · exact f_el4
  · exact f_el5
  · exact f_el6
  · exact f_el7
  · exact f_el8
  · exact f_el9
  · exact f_el10
  · exact f_el11
  · exact f_el12
  · exact f_el13
  · exact f_el14
theorem va_OF_u {o n d : String} {v v' : Value} {a : Nat} {A : Nat → Prop} {s : State} {H : Heap} (h : va_OF o n d v a A s H) (g : va_OF o n d v' a A s H) : v = v' := by
  obtain ⟨cf, k, fi, f, cell, e1, e2, e3, e4, e5, e6⟩ := h
  obtain ⟨cf', k', fi', f', cell', g1, g2, g3, g4, g5, g6⟩ := g
  cases e1.symm.trans g1
  cases e3.symm.trans g3
  exact Option.some.inj (e5.symm.trans g5)
theorem start_S {s : State} {args : Array Value} {A : Nat → Prop} (h : (Jvm.Cond.and given_1 narrow_1).before args s = true) (hA : ∀ a : Nat, a < s.heap.size → ¬ A a) : ∃ adK adV : Nat → Nat, vk_S 15 txL txB adK adV A s s.heap ∧ ∀ i : Nat, i < 15 → (tmS i).eval args s none [] s = some (.ref (adK i)) := by
  have hs := flat_of_before _ h
  have h0 : ∀ i : Nat, ∃ q : Nat × Nat, i < 15 → (tmS i).eval args s none [] s = some (.ref q.1) ∧ va_O "java/lang/String" q.1 A s s.heap ∧ va_OF "java/lang/String" "coder" "B" (.int 0) q.1 A s s.heap ∧ va_OF "java/lang/String" "value" "[B" (.ref q.2) q.1 A s s.heap ∧ va_T .byte q.2 (txL.getD i 0) (fun j => .int ((txB.getD i []).getD j 0)) A s s.heap := by
    intro i
    by_cases hi : i < 15
    · obtain ⟨a, c, cA, kA, q1, q2, q3, q4, q5, q6, -⟩ := Cond.exactly_spec (args := args) (first := s) (o := none) (s := s) (idx := []) (t := tmS i) (cls := "java/lang/String") (hs _ (f_ex i hi))
      obtain ⟨t, ht, hT⟩ := va_Tof (f := fun j => .int ((txB.getD i []).getD j 0)) (A := A) (by have := tx_b i hi; omega) (hs _ (f_ar i hi)) (va_eqt (hs _ (f_le i hi))) (fun j hj => va_eqt (hs _ (f_el i hi j hj))) hA
      exact ⟨(a, t), fun _ => ⟨q1, ⟨cA, q3, q5, by rw [q6]; exact q2, hA a (Array.getElem?_eq_some_iff.mp q3).1⟩, vk_OFof q1 (va_eqt (hs _ (f_co i hi))) hA, vk_OFof q1 ht hA, hT⟩⟩
    · exact ⟨(0, 0), fun h => absurd h hi⟩
  obtain ⟨ad, had⟩ := Classical.axiomOfChoice h0
  refine ⟨fun i => (ad i).1, fun i => (ad i).2, ⟨fun i hi => (had i hi).2, fun i j hi hj e => ?_⟩, fun i hi => (had i hi).1⟩
  have e' : (ad i).1 = (ad j).1 := e
  obtain ⟨-, -, -, v1, t1⟩ := had i hi
  obtain ⟨-, -, -, v2, t2⟩ := had j hj
  rw [e'] at v1
  have ev : (ad i).2 = (ad j).2 := by
    have := va_OF_u v1 v2
    injection this
  rw [ev] at t1
  obtain ⟨c1, a1, -, -, -, a5, a6, -⟩ := t1
  obtain ⟨c2, b1, -, -, -, b5, b6, -⟩ := t2
  cases a1.symm.trans b1
  have bi := tx_b i hi
  have bj := tx_b j hj
  have el : txL.getD i 0 = txL.getD j 0 := by
    have := a5.symm.trans b5
    have h1 : (Int32.ofNat (txL.getD i 0)).toInt = (Int32.ofNat (txL.getD j 0)).toInt := by rw [this]
    rw [Int32.toInt_ofNat_of_lt (by omega), Int32.toInt_ofNat_of_lt (by omega)] at h1
    omega
  refine tx_ne i hi j hj el (fun k hk => ?_)
  have := (a6 k hk).symm.trans (b6 k (by omega))
  injection this with this
  injection this
