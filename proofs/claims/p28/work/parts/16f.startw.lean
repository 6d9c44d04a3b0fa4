/-! ===== the start: words, messages ===== -/
theorem va_eqr {args : Array Value} {s : State} {t u : Term} {v : Value} (h : (Cond.eq t u).before args s = true) (ht : t.eval args s none [] s = some v) : u.eval args s none [] s = some v := by
  cases hu : u.eval args s none [] s with
  | none => simp [Cond.before, Cond.holds, Cond.value, ht, hu] at h
  | some w =>
    simp only [Cond.before, Cond.holds, Cond.value, ht, hu] at h
    cases w <;> cases v <;> simp_all
theorem w_fi : ∀ i : Nat, i < 12 → (Cond.eq (.field (knT i) "RiddleMill$Kind" "word" "Ljava/lang/String;") (tmS i)) ∈ flatC (Jvm.Cond.and given_1 narrow_1) := by decide +kernel
theorem w_gr : (Cond.eq (.string "RiddleMill$Tokens" 80) (.string "RiddleMill$Paper" 19)) ∈ flatC (Jvm.Cond.and given_1 narrow_1) := by decide +kernel
theorem m_ex : ∀ j : Nat, j < 15 → (Cond.exactly (.string "RiddleMill" (msG.getD j (0, "")).1) "java/lang/String") ∈ flatC (Jvm.Cond.and given_1 narrow_1) := by decide +kernel
theorem start_W {s : State} {args : Array Value} {A : Nat → Prop} {ad adK : Nat → Nat} (hts : ∀ w ∈ lw_tbl, w.before args s = true) (h : (Jvm.Cond.and given_1 narrow_1).before args s = true) (hA : ∀ a : Nat, a < s.heap.size → ¬ A a) (had : ∀ i : Nat, i < 12 → (knT i).eval args s none [] s = some (.ref (ad i))) (haK : ∀ i : Nat, i < 33 → (tmS i).eval args s none [] s = some (.ref (adK i))) :
    va_Ef 12 RX1 "word" "Ljava/lang/String;" (fun j => .ref (adK j)) ad A s s.heap ∧ (vk_R RX10 76 "rows" (adK 12) s ∧ vk_R RX10 78 "columns" (adK 13) s ∧ vk_R RX10 80 "grid" (adK 14) s ∧ vk_R RX3 19 "grid" (adK 14) s ∧ vk_R RL 63 "grid 2 2 4; " (adK 31) s ∧ vk_R RL 76 ";" (adK 32) s) ∧ ∃ am : Nat → Nat, ∀ j : Nat, j < 15 → vk_R RX11 (msG.getD j (0, "")).1 (msG.getD j (0, "")).2 (am j) s := by
  have hs := flat_of_before _ h
  have h0 : ∀ j : Nat, ∃ q : Nat, j < 15 → (Term.string "RiddleMill" (msG.getD j (0, "")).1).eval args s none [] s = some (.ref q) := by
    intro j
    by_cases hj : j < 15
    · obtain ⟨a, c, cA, kA, q1, q2⟩ := Cond.exactly_spec (args := args) (first := s) (o := none) (s := s) (idx := []) (t := Term.string "RiddleMill" (msG.getD j (0, "")).1) (cls := "java/lang/String") (hs _ (m_ex j hj))
      exact ⟨a, fun _ => q1⟩
    · exact ⟨0, fun h => absurd h hj⟩
  obtain ⟨am, ham⟩ := Classical.axiomOfChoice h0
  refine ⟨va_Efof (nm := knL) (d0 := "LRiddleMill$Kind;") (E := "RiddleMill$Kind") (ad := ad) (v := fun j => .ref (adK j)) had (fun i hi => hs _ (w_fi i hi)) (fun i hi => haK i (by omega)) hA, ⟨vk_R.of (hts _ wd296) (haK 12 (by decide)), vk_R.of (hts _ wd297) (haK 13 (by decide)), vk_R.of (hts _ wd298) (haK 14 (by decide)), vk_R.of (hts _ wd549) (va_eqr (hs _ w_gr) (haK 14 (by decide))), vk_R.of (hts _ wd825) (haK 31 (by decide)), vk_R.of (hts _ wd828) (haK 32 (by decide))⟩, am, fun j hj => vk_R.of ?_ (ham j hj)⟩
  have hc : j = 0 ∨ j = 1 ∨ j = 2 ∨ j = 3 ∨ j = 4 ∨ j = 5 ∨ j = 6 ∨ j = 7 ∨ j = 8 ∨ j = 9 ∨ j = 10 ∨ j = 11 ∨ j = 12 ∨ j = 13 ∨ j = 14 := by omega
  rcases hc with rfl | rfl | rfl | rfl | rfl | rfl | rfl | rfl | rfl | rfl | rfl | rfl | rfl | rfl | rfl
  · exact hts _ wd803
  · exact hts _ wd812
  · exact hts _ wd486
  · exact hts _ wd516
  · exact hts _ wd572
  · exact hts _ wd586
  · exact hts _ wd599
  · exact hts _ wd629
  · exact hts _ wd660
  · exact hts _ wd707
  · exact hts _ wd713
  · exact hts _ wd761
  · exact hts _ wd540
  · exact hts _ wd510
  · exact hts _ wd581
