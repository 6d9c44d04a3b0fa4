/-! ===== the tokens are read ===== -/
noncomputable def kOf (T : Int → Int) (L : Int) : kT := (fun i => tkK T L (psT T L i.toNat), fun i => wN T L (psT T L i.toNat) (tkE T L (psT T L i.toNat)), fun i => dv T (psT T L i.toNat) (tkE T L (psT T L i.toNat) - psT T L i.toNat).toNat, fun i => byT T L (psT T L i.toNat) - 97, fun i => byT T L (psT T L i.toNat + 1) - 49, fun i => psT T L i.toNat, nT T L)
section KO
variable {T : Int → Int} {L p : Int} {J : cI}
theorem tk1 (h : tkK T L p = 1) : isL (byT T L p) ∧ isD (byT T L (p + 1)) := by
  by_cases c : isL (byT T L p) ∧ isD (byT T L (p + 1))
  · exact c
  · unfold tkK at h
    rw [if_neg c] at h
    repeat' split at h
    all_goals exact absurd h (by decide)
theorem tk2 (h : tkK T L p = 2) : isL (byT T L p) ∧ tkE T L p = enD T L isL p ∧ tkE T L p - p ≤ 8 := by
  unfold tkK at h
  unfold tkE
  by_cases c : isL (byT T L p) ∧ isD (byT T L (p + 1))
  · rw [if_pos c] at h; exact absurd h (by decide)
  · rw [if_neg c] at h ⊢
    by_cases d : isL (byT T L p)
    · rw [if_pos d] at h ⊢
      by_cases e : 8 < enD T L isL p - p
      · rw [if_pos e] at h; exact absurd h (by decide)
      · exact ⟨d, rfl, by omega⟩
    · rw [if_neg d] at h
      repeat' split at h
      all_goals exact absurd h (by decide)
theorem tk3 (h : tkK T L p = 3) : isD (byT T L p) ∧ tkE T L p = enD T L isD p ∧ tkE T L p - p ≤ 4 := by
  unfold tkK at h
  unfold tkE
  by_cases c : isL (byT T L p) ∧ isD (byT T L (p + 1))
  · rw [if_pos c] at h; exact absurd h (by decide)
  · rw [if_neg c] at h ⊢
    by_cases d : isL (byT T L p)
    · rw [if_pos d] at h
      repeat' split at h
      all_goals exact absurd h (by decide)
    · rw [if_neg d] at h ⊢
      by_cases d2 : isD (byT T L p)
      · rw [if_pos d2] at h ⊢
        by_cases e : 4 < enD T L isD p - p
        · rw [if_pos e] at h; exact absurd h (by decide)
        · exact ⟨d2, rfl, by omega⟩
      · rw [if_neg d2] at h
        repeat' split at h
        all_goals exact absurd h (by decide)
theorem num_d (h : tkK T L p = 3) : 0 ≤ p ∧ p < tkE T L p ∧ tkE T L p ≤ L ∧ tkE T L p - p ≤ 4 ∧ ∀ i, 0 ≤ i → i < tkE T L p - p → isD (T (p + i)) := by
  have t := tk3 h
  have b := by_p nD t.1
  have e := tkE_b (T := T) b.2
  have d := (enD_b (T := T) (L := L) (p := p) nD (by omega)).2.2
  refine ⟨b.1, e.1, e.2, t.2.2, fun i i0 i1 => ?_⟩
  have := d (p + i) (by omega) (by rw [← t.2.1]; omega)
  rw [by_i (by omega) (by omega)] at this
  exact this
theorem okK_of (l0 : 0 ≤ L) (l1 : L ≤ 1600) : okK (kOf T L) := by
  have n := nT_ok (T := T) l0 l1
  refine ⟨n.1, n.2.1, fun i i0 i1 => ?_⟩
  have i1' : i ≤ nT T L := i1
  have pb := ps_b (T := T) l0 i.toNat
  refine ⟨tkK_b, ⟨fun z => ?_, fun z => ?_⟩, ?_, fun z => ?_, fun z => ?_⟩
  · by_cases c : i < nT T L
    · exact absurd z (tkK_n (n.2.2.2 i i0 c))
    · show i = nT T L
      omega
  · have z' : i = nT T L := z
    show tkK T L (psT T L i.toNat) = 0
    rw [z', n.2.2.1]
    exact (tkE_e (by omega)).2
  · show -1 ≤ wN T L (psT T L i.toNat) (tkE T L (psT T L i.toNat)) ∧ wN T L (psT T L i.toNat) (tkE T L (psT T L i.toNat)) ≤ 14
    rcases wN_b (T := T) (L := L) (a := psT T L i.toNat) (e := tkE T L (psT T L i.toNat)) with a | ⟨j, a, -, b⟩
    · omega
    · omega
  · have d := num_d z
    show 0 ≤ dv T (psT T L i.toNat) (tkE T L (psT T L i.toNat) - psT T L i.toNat).toNat ∧ dv T (psT T L i.toNat) (tkE T L (psT T L i.toNat) - psT T L i.toNat).toNat ≤ 9999
    have v := dv_b (T := T) (p := psT T L i.toNat) (tkE T L (psT T L i.toNat) - psT T L i.toNat).toNat (by omega) (fun j j0 j1 => d.2.2.2.2 j (by omega) (by omega))
    have hk : (tkE T L (psT T L i.toNat) - psT T L i.toNat).toNat ≤ 4 := by omega
    have hp : (10 : Int) ^ (tkE T L (psT T L i.toNat) - psT T L i.toNat).toNat ≤ 10000 := by
      generalize (tkE T L (psT T L i.toNat) - psT T L i.toNat).toNat = m at hk
      have : m = 0 ∨ m = 1 ∨ m = 2 ∨ m = 3 ∨ m = 4 := by omega
      rcases this with rfl | rfl | rfl | rfl | rfl <;> decide
    omega
  · have t := tk1 z
    unfold isL isD at t
    show 0 ≤ byT T L (psT T L i.toNat) - 97 ∧ byT T L (psT T L i.toNat) - 97 ≤ 25 ∧ -1 ≤ byT T L (psT T L i.toNat + 1) - 49 ∧ byT T L (psT T L i.toNat + 1) - 49 ≤ 8
    omega
theorem cKV_of {I : cI} (h0 : I 4 0 = nT T L + 1) (h : cRw I T L (nT T L + 1)) : cKV I (kOf T L) := by
  refine ⟨h0, fun i i0 i1 => ?_⟩
  have i1' : i ≤ nT T L := i1
  have r := h i i0 (by omega)
  refine ⟨r.1, r.2.1, fun z => ?_, fun z => ?_, fun z => ?_⟩
  · have z' : tkK T L (psT T L i.toNat) = 2 := z
    rw [r.2.2 (by omega)]
    show ctN T L (psT T L i.toNat) = wN T L (psT T L i.toNat) (tkE T L (psT T L i.toNat))
    unfold ctN
    rw [if_neg (by omega), if_pos z']
  · have z' : tkK T L (psT T L i.toNat) = 3 := z
    rw [r.2.2 (by omega)]
    show ctN T L (psT T L i.toNat) = dv T (psT T L i.toNat) (tkE T L (psT T L i.toNat) - psT T L i.toNat).toNat
    unfold ctN
    rw [if_neg (by omega), if_neg (by omega), if_pos z']
  · have z' : tkK T L (psT T L i.toNat) = 1 := z
    rw [r.2.2 (by omega)]
    show ctN T L (psT T L i.toNat) = 10 * (byT T L (psT T L i.toNat) - 97) + (byT T L (psT T L i.toNat + 1) - 49 + 1)
    unfold ctN
    rw [if_pos z']
    omega
end KO
