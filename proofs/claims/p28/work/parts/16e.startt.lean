/-! ===== the start: tables ===== -/
def tAL : Term := Term.static "RiddleMill$Kind" "ALL" "[LRiddleMill$Kind;"
def tSW : Term := Term.static "RiddleMill$1" "$SwitchMap$RiddleMill$Kind" "[I"
def tRU : Term := Term.static "RiddleMillLaw" "RULES" "[Ljava/lang/String;"
theorem t_al : ∀ j : Nat, j < 12 → (Cond.eq (.elem tAL (.int (Int32.ofNat j))) (knT j)) ∈ flatC (Jvm.Cond.and given_1 narrow_1) := by decide +kernel
theorem t_sw : ∀ j : Nat, j < 12 → (Cond.eq (.elem tSW (.int (Int32.ofNat j))) (.int (Int32.ofInt (swM.getD j 0)))) ∈ flatC (Jvm.Cond.and given_1 narrow_1) := by decide +kernel
theorem t_ru : ∀ j : Nat, j < 16 → (Cond.eq (.elem tRU (.int (Int32.ofNat j))) (tmS (15 + j))) ∈ flatC (Jvm.Cond.and given_1 narrow_1) := by decide +kernel
theorem t_le : (Cond.eq (.length tAL) (.int (Int32.ofNat 12))) ∈ flatC (Jvm.Cond.and given_1 narrow_1) ∧ (Cond.eq (.length tSW) (.int (Int32.ofNat 12))) ∈ flatC (Jvm.Cond.and given_1 narrow_1) ∧ (Cond.eq (.length tRU) (.int (Int32.ofNat 16))) ∈ flatC (Jvm.Cond.and given_1 narrow_1) := by decide +kernel
theorem t_ar : (Cond.arrayOf tAL (.object "RiddleMill$Kind")) ∈ flatC (Jvm.Cond.and given_1 narrow_1) ∧ (Cond.arrayOf tSW .int) ∈ flatC (Jvm.Cond.and given_1 narrow_1) ∧ (Cond.arrayOf tRU (.object "java/lang/String")) ∈ flatC (Jvm.Cond.and given_1 narrow_1) := by decide +kernel
theorem start_T {s : State} {args : Array Value} {A : Nat → Prop} {ad adK : Nat → Nat} (hts : ∀ w ∈ lw_tbl, w.before args s = true) (h : (Jvm.Cond.and given_1 narrow_1).before args s = true) (hA : ∀ a : Nat, a < s.heap.size → ¬ A a) (had : ∀ i : Nat, i < 12 → (knT i).eval args s none [] s = some (.ref (ad i))) (haK : ∀ i : Nat, i < 33 → (tmS i).eval args s none [] s = some (.ref (adK i))) :
    (va_Z RX1 "DIFFER" "LRiddleMill$Kind;" (.ref (ad 0)) A s s.heap ∧ va_Z RX1 "IS" "LRiddleMill$Kind;" (.ref (ad 9)) A s s.heap) ∧ ∃ t0 t1 t2 : Nat,
      (va_Z RX1 "ALL" "[LRiddleMill$Kind;" (.ref t0) A s s.heap ∧ va_T (.object RX1) t0 12 (fun j => .ref (ad j)) A s s.heap) ∧
      (va_Z RX0 "$SwitchMap$RiddleMill$Kind" "[I" (.ref t1) A s s.heap ∧ va_T .int t1 12 (fun j => iV (swM.getD j 0)) A s s.heap) ∧
      (va_Z RL "RULES" "[Ljava/lang/String;" (.ref t2) A s s.heap ∧ va_T (.object "java/lang/String") t2 16 (fun j => .ref (adK (15 + j))) A s s.heap) := by
  have hs := flat_of_before _ h
  have hb : ∀ w ∈ bG, w.before args s = true := fun w h => hts w (List.mem_filter.mp h).1
  obtain ⟨t0, e0, T0⟩ := va_Tof (f := fun j => .ref (ad j)) (A := A) (by decide) (hs _ t_ar.1) (va_eqt (hs _ t_le.1)) (fun j hj => va_eqv (hs _ (t_al j hj)) (had j hj)) hA
  obtain ⟨t1, e1, T1⟩ := va_Tof (f := fun j => iV (swM.getD j 0)) (A := A) (by decide) (hs _ t_ar.2.1) (va_eqt (hs _ t_le.2.1)) (fun j hj => va_eqt (hs _ (t_sw j hj))) hA
  obtain ⟨t2, e2, T2⟩ := va_Tof (f := fun j => .ref (adK (15 + j))) (A := A) (by decide) (hs _ t_ar.2.2) (va_eqt (hs _ t_le.2.2)) (fun j hj => va_eqv (hs _ (t_ru j hj)) (haK (15 + j) (by omega))) hA
  exact ⟨⟨va_Zof (hts _ wd141) (hb _ wd12) (had 0 (by decide)) hA, va_Zof (hts _ wd321) (hb _ wd12) (had 9 (by decide)) hA⟩, t0, t1, t2, ⟨va_Zof (hts _ wd244) (hb _ wd12) e0 hA, T0⟩, ⟨va_Zof (hts _ wd378) (hb _ wd17) e1 hA, T1⟩, ⟨va_Zof (hts _ wd827) (hb _ wd0) e2 hA, T2⟩⟩
