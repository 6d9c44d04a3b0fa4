/-! ===== the start: texts ===== -/
def tmL : List (String × Nat) := [("RiddleMill$Kind", 74), ("RiddleMill$Kind", 80), ("RiddleMill$Kind", 83), ("RiddleMill$Kind", 86), ("RiddleMill$Kind", 89), ("RiddleMill$Kind", 92), ("RiddleMill$Kind", 95), ("RiddleMill$Kind", 98), ("RiddleMill$Kind", 101), ("RiddleMill$Kind", 104), ("RiddleMill$Kind", 107), ("RiddleMill$Kind", 110), ("RiddleMill$Tokens", 76), ("RiddleMill$Tokens", 78), ("RiddleMill$Tokens", 80), ("RiddleMillLaw", 147), ("RiddleMillLaw", 149), ("RiddleMillLaw", 151), ("RiddleMillLaw", 153), ("RiddleMillLaw", 155), ("RiddleMillLaw", 157), ("RiddleMillLaw", 159), ("RiddleMillLaw", 161), ("RiddleMillLaw", 163), ("RiddleMillLaw", 165), ("RiddleMillLaw", 167), ("RiddleMillLaw", 169), ("RiddleMillLaw", 171), ("RiddleMillLaw", 173), ("RiddleMillLaw", 175), ("RiddleMillLaw", 177), ("RiddleMillLaw", 63), ("RiddleMillLaw", 76)]
def tmS (i : Nat) : Term := Term.string (tmL.getD i ("", 0)).1 (tmL.getD i ("", 0)).2
/-- where a text's facts begin among the start's -/
def tmB : List Nat := [702, 953, 960, 971, 979, 985, 992, 999, 1007, 712, 1016, 1025, 200, 208, 219, 718, 727, 739, 755, 770, 788, 802, 814, 832, 842, 853, 875, 895, 909, 931, 942, 681, 697]
def fL : List Cond := flatC (Jvm.Cond.and given_1 narrow_1)
theorem f_all : ∀ i : Fin 33, fL[tmB.getD i.val 0]? = some (Cond.exactly (tmS i.val) "java/lang/String") ∧ fL[tmB.getD i.val 0 + 1]? = some (Cond.eq (.field (tmS i.val) "java/lang/String" "coder" "B") (.int 0)) ∧ fL[tmB.getD i.val 0 + 2]? = some (Cond.arrayOf (.field (tmS i.val) "java/lang/String" "value" "[B") .byte) ∧ fL[tmB.getD i.val 0 + 3]? = some (Cond.eq (.length (.field (tmS i.val) "java/lang/String" "value" "[B")) (.int (Int32.ofNat (txL.getD i.val 0)))) := by decide +kernel
def f_elP (i : Nat) : Prop := ∀ j : Fin (txL.getD i 0), fL[tmB.getD i 0 + 4 + j.val]? = some (Cond.eq (.elem (.field (tmS i) "java/lang/String" "value" "[B") (.int (Int32.ofNat j.val))) (.int ((txB.getD i []).getD j.val 0)))
theorem f_el0 : ∀ i : Fin 9, ∀ j : Fin (txL.getD (0 + i.val) 0), fL[tmB.getD (0 + i.val) 0 + 4 + j.val]? = some (Cond.eq (.elem (.field (tmS (0 + i.val)) "java/lang/String" "value" "[B") (.int (Int32.ofNat j.val))) (.int ((txB.getD (0 + i.val) []).getD j.val 0))) := by decide +kernel
theorem f_el1 : ∀ i : Fin 8, ∀ j : Fin (txL.getD (9 + i.val) 0), fL[tmB.getD (9 + i.val) 0 + 4 + j.val]? = some (Cond.eq (.elem (.field (tmS (9 + i.val)) "java/lang/String" "value" "[B") (.int (Int32.ofNat j.val))) (.int ((txB.getD (9 + i.val) []).getD j.val 0))) := by decide +kernel
theorem f_el2 : ∀ i : Fin 5, ∀ j : Fin (txL.getD (17 + i.val) 0), fL[tmB.getD (17 + i.val) 0 + 4 + j.val]? = some (Cond.eq (.elem (.field (tmS (17 + i.val)) "java/lang/String" "value" "[B") (.int (Int32.ofNat j.val))) (.int ((txB.getD (17 + i.val) []).getD j.val 0))) := by decide +kernel
theorem f_el3 : ∀ i : Fin 4, ∀ j : Fin (txL.getD (22 + i.val) 0), fL[tmB.getD (22 + i.val) 0 + 4 + j.val]? = some (Cond.eq (.elem (.field (tmS (22 + i.val)) "java/lang/String" "value" "[B") (.int (Int32.ofNat j.val))) (.int ((txB.getD (22 + i.val) []).getD j.val 0))) := by decide +kernel
theorem f_el4 : ∀ i : Fin 3, ∀ j : Fin (txL.getD (26 + i.val) 0), fL[tmB.getD (26 + i.val) 0 + 4 + j.val]? = some (Cond.eq (.elem (.field (tmS (26 + i.val)) "java/lang/String" "value" "[B") (.int (Int32.ofNat j.val))) (.int ((txB.getD (26 + i.val) []).getD j.val 0))) := by decide +kernel
theorem f_el5 : ∀ i : Fin 4, ∀ j : Fin (txL.getD (29 + i.val) 0), fL[tmB.getD (29 + i.val) 0 + 4 + j.val]? = some (Cond.eq (.elem (.field (tmS (29 + i.val)) "java/lang/String" "value" "[B") (.int (Int32.ofNat j.val))) (.int ((txB.getD (29 + i.val) []).getD j.val 0))) := by decide +kernel
theorem f_el {i : Nat} (hi : i < 33) : f_elP i := by
  by_cases h0 : i < 9
  · have := f_el0 ⟨i - 0, by omega⟩
    rw [show 0 + (i - 0) = i by omega] at this
    exact this
  by_cases h1 : i < 17
  · have := f_el1 ⟨i - 9, by omega⟩
    rw [show 9 + (i - 9) = i by omega] at this
    exact this
  by_cases h2 : i < 22
  · have := f_el2 ⟨i - 17, by omega⟩
    rw [show 17 + (i - 17) = i by omega] at this
    exact this
  by_cases h3 : i < 26
  · have := f_el3 ⟨i - 22, by omega⟩
    rw [show 22 + (i - 22) = i by omega] at this
    exact this
  by_cases h4 : i < 29
  · have := f_el4 ⟨i - 26, by omega⟩
    rw [show 26 + (i - 26) = i by omega] at this
    exact this
  by_cases h5 : i < 33
  · have := f_el5 ⟨i - 29, by omega⟩
    rw [show 29 + (i - 29) = i by omega] at this
    exact this
  omega
theorem tx_b : ∀ i : Nat, i < 33 → txL.getD i 0 < 100 := by decide +kernel
theorem va_OF_u {o n d : String} {v v' : Value} {a : Nat} {A : Nat → Prop} {s : State} {H : Heap} (h : va_OF o n d v a A s H) (g : va_OF o n d v' a A s H) : v = v' := by
  obtain ⟨cf, k, fi, f, cell, e1, e2, e3, e4, e5, e6⟩ := h
  obtain ⟨cf', k', fi', f', cell', g1, g2, g3, g4, g5, g6⟩ := g
  cases e1.symm.trans g1
  cases e3.symm.trans g3
  exact Option.some.inj (e5.symm.trans g5)
theorem start_S {s : State} {args : Array Value} {A : Nat → Prop} (h : (Jvm.Cond.and given_1 narrow_1).before args s = true) (hA : ∀ a : Nat, a < s.heap.size → ¬ A a) : ∃ adK adV : Nat → Nat, wk_S 33 txL txB adK adV A s s.heap ∧ ∀ i : Nat, i < 33 → (tmS i).eval args s none [] s = some (.ref (adK i)) := by
  have hs := flat_of_before _ h
  have h0 : ∀ i : Nat, ∃ q : Nat × Nat, i < 33 → (tmS i).eval args s none [] s = some (.ref q.1) ∧ va_O "java/lang/String" q.1 A s s.heap ∧ va_OF "java/lang/String" "coder" "B" (.int 0) q.1 A s s.heap ∧ va_OF "java/lang/String" "value" "[B" (.ref q.2) q.1 A s s.heap ∧ va_T .byte q.2 (txL.getD i 0) (fun j => .int ((txB.getD i []).getD j 0)) A s s.heap := by
    intro i
    by_cases hi : i < 33
    · obtain ⟨fe, fc, fa, fl⟩ := f_all ⟨i, hi⟩
      have fe := List.mem_of_getElem? fe
      have fc := List.mem_of_getElem? fc
      have fa := List.mem_of_getElem? fa
      have fl := List.mem_of_getElem? fl
      obtain ⟨a, c, cA, kA, q1, q2, q3, q4, q5, q6, -⟩ := Cond.exactly_spec (args := args) (first := s) (o := none) (s := s) (idx := []) (t := tmS i) (cls := "java/lang/String") (hs _ fe)
      obtain ⟨t, ht, hT⟩ := va_Tof (f := fun j => .int ((txB.getD i []).getD j 0)) (A := A) (by show txL.getD i 0 < 2 ^ 31; have := tx_b i hi; omega) (hs _ fa) (va_eqt (hs _ fl)) (fun j hj => va_eqt (hs _ (List.mem_of_getElem? (f_el hi ⟨j, hj⟩)))) hA
      exact ⟨(a, t), fun _ => ⟨q1, ⟨cA, q3, q5, by rw [q6]; exact q2, hA a (Array.getElem?_eq_some_iff.mp q3).1⟩, vk_OFof q1 (va_eqt (hs _ fc)) hA, vk_OFof q1 ht hA, hT⟩⟩
    · exact ⟨(0, 0), fun h => absurd h hi⟩
  obtain ⟨ad, had⟩ := Classical.axiomOfChoice h0
  refine ⟨fun i => (ad i).1, fun i => (ad i).2, fun i hi => ⟨fun k hk => ?_, fun j k hj hk _ => by omega⟩, fun i hi => (had i hi).1⟩
  have k0 : k = 0 := by omega
  subst k0
  exact (had i hi).2
