/-! ===== the start: kinds ===== -/
def knL : List String := ["DIFFER", "SUM", "PRODUCT", "LESS", "UP", "SEE", "ODD", "EVEN", "COUNT", "IS", "APART", "SAME"]
def knT (i : Nat) : Term := Term.static "RiddleMill$Kind" (knL.getD i "") "LRiddleMill$Kind;"
theorem k_ex : ∀ i : Nat, i < 12 → (Cond.exactly (knT i) "RiddleMill$Kind") ∈ flatC (Jvm.Cond.and given_1 narrow_1) := by decide +kernel
theorem k_or : ∀ i : Nat, i < 12 → (Cond.eq (.field (knT i) "java/lang/Enum" "ordinal" "I") (.int (Int32.ofInt (i : Int)))) ∈ flatC (Jvm.Cond.and given_1 narrow_1) := by decide +kernel
theorem k_nu : ∀ i : Nat, i < 12 → (Cond.eq (.field (knT i) "RiddleMill$Kind" "number" "I") (.int (Int32.ofInt (i : Int)))) ∈ flatC (Jvm.Cond.and given_1 narrow_1) := by decide +kernel
theorem k_ah : ∀ i : Nat, i < 12 → (Cond.eq (.field (knT i) "RiddleMill$Kind" "numbersAhead" "I") (.int (Int32.ofInt (kAh.getD i 0)))) ∈ flatC (Jvm.Cond.and given_1 narrow_1) := by decide +kernel
theorem k_xc : ∀ i : Nat, i < 12 → (Cond.eq (.field (knT i) "RiddleMill$Kind" "exactCells" "I") (.int (Int32.ofInt (kEx.getD i 0)))) ∈ flatC (Jvm.Cond.and given_1 narrow_1) := by decide +kernel
theorem start_N {s : State} {args : Array Value} {A : Nat → Prop} (h : (Jvm.Cond.and given_1 narrow_1).before args s = true) (hA : ∀ a : Nat, a < s.heap.size → ¬ A a) : ∃ ad : Nat → Nat, (∀ i : Nat, i < 12 → (knT i).eval args s none [] s = some (.ref (ad i))) ∧ (∀ j : Nat, j < 12 → va_O RX1 (ad j) A s s.heap) ∧
    va_Ef 12 "java/lang/Enum" "ordinal" "I" (fun j => iV (j : Int)) ad A s s.heap ∧ va_Ef 12 RX1 "number" "I" (fun j => iV (j : Int)) ad A s s.heap ∧ va_Ef 12 RX1 "numbersAhead" "I" (fun j => iV (kAh.getD j 0)) ad A s s.heap ∧ va_Ef 12 RX1 "exactCells" "I" (fun j => iV (kEx.getD j 0)) ad A s s.heap ∧
    (∀ i j : Nat, i < 12 → j < 12 → ad i = ad j → i = j) := by
  have hs := flat_of_before _ h
  have h0 : ∀ i : Nat, ∃ q : Nat, i < 12 → (knT i).eval args s none [] s = some (.ref q) := by
    intro i
    by_cases hi : i < 12
    · obtain ⟨a, c, cA, kA, q1, q2⟩ := Cond.exactly_spec (args := args) (first := s) (o := none) (s := s) (idx := []) (t := knT i) (cls := "RiddleMill$Kind") (hs _ (k_ex i hi))
      exact ⟨a, fun _ => q1⟩
    · exact ⟨0, fun h => absurd h hi⟩
  obtain ⟨ad, had⟩ := Classical.axiomOfChoice h0
  have eo := va_Efof (nm := knL) (d0 := "LRiddleMill$Kind;") (E := "RiddleMill$Kind") (ad := ad) (v := fun j => iV (j : Int)) had (fun i hi => hs _ (k_or i hi)) (fun i hi => rfl) hA
  have en := va_Efof (nm := knL) (d0 := "LRiddleMill$Kind;") (E := "RiddleMill$Kind") (ad := ad) (v := fun j => iV (j : Int)) had (fun i hi => hs _ (k_nu i hi)) (fun i hi => rfl) hA
  have ea := va_Efof (nm := knL) (d0 := "LRiddleMill$Kind;") (E := "RiddleMill$Kind") (ad := ad) (v := fun j => iV (kAh.getD j 0)) had (fun i hi => hs _ (k_ah i hi)) (fun i hi => rfl) hA
  have ex := va_Efof (nm := knL) (d0 := "LRiddleMill$Kind;") (E := "RiddleMill$Kind") (ad := ad) (v := fun j => iV (kEx.getD j 0)) had (fun i hi => hs _ (k_xc i hi)) (fun i hi => rfl) hA
  refine ⟨ad, had, fun j hj => va_Oof (hs _ (k_ex j hj)) (had j hj) hA, eo, en, ea, ex, fun i j hi hj e => ?_⟩
  have v1 := eo i hi
  have v2 := eo j hj
  rw [e] at v1
  have v3 : iV (i : Int) = iV (j : Int) := va_OF_u v1 v2
  injection v3 with v4
  have := (ti_eq (by unfold inR; omega) (by unfold inR; omega)).mp v4
  omega
