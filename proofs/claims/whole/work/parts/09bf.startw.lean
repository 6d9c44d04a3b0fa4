/-! ===== the start: words, messages ===== -/
theorem va_eqr {args : Array Value} {s : State} {t u : Term} {v : Value} (h : (Cond.eq t u).before args s = true) (ht : t.eval args s none [] s = some v) : u.eval args s none [] s = some v := by
  cases hu : u.eval args s none [] s with
  | none => simp [Cond.before, Cond.holds, Cond.value, ht, hu] at h
  | some w =>
    simp only [Cond.before, Cond.holds, Cond.value, ht, hu] at h
    cases w <;> cases v <;> simp_all
def kwL : List Nat := [74, 80, 83, 86, 89, 92, 95, 98, 101, 104, 107, 110]
def tmK (i : Nat) : Term := Term.string "RiddleMill$Kind" (kwL.getD i 0)
theorem w_eq : ∀ i : Nat, i < 12 → (Cond.eq (tmK i) (tmS i)) ∈ flatC (Jvm.Cond.and given_1 narrow_1) ∨ (Cond.eq (tmS i) (tmK i)) ∈ flatC (Jvm.Cond.and given_1 narrow_1) := by decide +kernel
theorem w_fi : ∀ i : Nat, i < 12 → (Cond.eq (.field (knT i) "RiddleMill$Kind" "word" "Ljava/lang/String;") (tmK i)) ∈ flatC (Jvm.Cond.and given_1 narrow_1) := by decide +kernel
theorem w_gr : (Cond.eq (.string "RiddleMill$Tokens" 80) (tmS 14)) ∈ flatC (Jvm.Cond.and given_1 narrow_1) ∧ (Cond.eq (.string "RiddleMill$Paper" 19) (tmS 14)) ∈ flatC (Jvm.Cond.and given_1 narrow_1) ∧ (Cond.eq (.string "RiddleMill$Tokens" 76) (tmS 12)) ∈ flatC (Jvm.Cond.and given_1 narrow_1) ∧ (Cond.eq (.string "RiddleMill$Tokens" 78) (tmS 13)) ∈ flatC (Jvm.Cond.and given_1 narrow_1) := by decide +kernel
theorem m_ex : ∀ j : Nat, j < 15 → (Cond.exactly (.string "RiddleMill" (msG.getD j (0, "")).1) "java/lang/String") ∈ flatC (Jvm.Cond.and given_1 narrow_1) := by decide +kernel
theorem start_W {s : State} {args : Array Value} {A : Nat → Prop} {ad adK : Nat → Nat} (hts : ∀ w ∈ lw_tbl, w.before args s = true) (h : (Jvm.Cond.and given_1 narrow_1).before args s = true) (hA : ∀ a : Nat, a < s.heap.size → ¬ A a) (had : ∀ i : Nat, i < 12 → (knT i).eval args s none [] s = some (.ref (ad i))) (haK : ∀ i : Nat, i < 15 → (tmS i).eval args s none [] s = some (.ref (adK i))) :
    va_Ef 12 RX1 "word" "Ljava/lang/String;" (fun j => .ref (adK j)) ad A s s.heap ∧ (vk_R RX10 76 "rows" (adK 12) s ∧ vk_R RX10 78 "columns" (adK 13) s ∧ vk_R RX10 80 "grid" (adK 14) s ∧ vk_R RX3 19 "grid" (adK 14) s ∧ vk_R RX12 139 "grid" (adK 14) s) ∧ ∃ am : Nat → Nat, ∀ j : Nat, j < 15 → vk_R RX11 (msG.getD j (0, "")).1 (msG.getD j (0, "")).2 (am j) s := by
  have hs := flat_of_before _ h
  have hK : ∀ i : Nat, i < 12 → (tmK i).eval args s none [] s = some (.ref (adK i)) := fun i hi => by
    rcases w_eq i hi with w | w
    · exact va_eqv (hs _ w) (haK i (by omega))
    · exact va_eqr (hs _ w) (haK i (by omega))
  have h0 : ∀ j : Nat, ∃ q : Nat, j < 15 → (Term.string "RiddleMill" (msG.getD j (0, "")).1).eval args s none [] s = some (.ref q) := by
    intro j
    by_cases hj : j < 15
    · obtain ⟨a, c, cA, kA, q1, q2⟩ := Cond.exactly_spec (args := args) (first := s) (o := none) (s := s) (idx := []) (t := Term.string "RiddleMill" (msG.getD j (0, "")).1) (cls := "java/lang/String") (hs _ (m_ex j hj))
      exact ⟨a, fun _ => q1⟩
    · exact ⟨0, fun h => absurd h hj⟩
  obtain ⟨am, ham⟩ := Classical.axiomOfChoice h0
  refine ⟨va_Efof (nm := knL) (d0 := "LRiddleMill$Kind;") (E := "RiddleMill$Kind") (ad := ad) (v := fun j => .ref (adK j)) had (fun i hi => hs _ (w_fi i hi)) hK hA, ⟨vk_R.of (hts _ wd298) (va_eqv (hs _ w_gr.2.2.1) (haK 12 (by decide))), vk_R.of (hts _ wd299) (va_eqv (hs _ w_gr.2.2.2) (haK 13 (by decide))), vk_R.of (hts _ wd300) (va_eqv (hs _ w_gr.1) (haK 14 (by decide))), vk_R.of (hts _ wd682) (va_eqv (hs _ w_gr.2.1) (haK 14 (by decide))), vk_R.of (hts _ wd954) (haK 14 (by decide))⟩, am, fun j hj => vk_R.of ?_ (ham j hj)⟩
  have hc : j = 0 ∨ j = 1 ∨ j = 2 ∨ j = 3 ∨ j = 4 ∨ j = 5 ∨ j = 6 ∨ j = 7 ∨ j = 8 ∨ j = 9 ∨ j = 10 ∨ j = 11 ∨ j = 12 ∨ j = 13 ∨ j = 14 := by omega
  rcases hc with rfl | rfl | rfl | rfl | rfl | rfl | rfl | rfl | rfl | rfl | rfl | rfl | rfl | rfl | rfl
  · exact hts _ wd617
  · exact hts _ wd638
  · exact hts _ wd565
  · exact hts _ wd595
  · exact hts _ wd708
  · exact hts _ wd720
  · exact hts _ wd735
  · exact hts _ wd768
  · exact hts _ wd794
  · exact hts _ wd604
  · exact hts _ wd807
  · exact hts _ wd858
  · exact hts _ wd677
  · exact hts _ wd589
  · exact hts _ wd719
