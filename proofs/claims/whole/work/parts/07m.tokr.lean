/-! ===== the tokens are read ===== -/
noncomputable def kOf (T : Int → Int) (L : Int) : kT := (fun i => tkK T L (psT T L i.toNat), fun i => wN T L (psT T L i.toNat) (tkE T L (psT T L i.toNat)), fun i => dv T (psT T L i.toNat) (tkE T L (psT T L i.toNat) - psT T L i.toNat).toNat, fun i => byT T L (psT T L i.toNat) - 97, fun i => byT T L (psT T L i.toNat + 1) - 49, fun i => psT T L i.toNat, nT T L)
section KO
variable {T : Int → Int} {L p : Int} {J : cI}
theorem tk1 (h : tkK T L p = 1) : isL (byT T L p) ∧ isD (byT T L (p + 1)) := by
  by_cases c : isL (byT T L p) ∧ isD (byT T L (p + 1))
  · exact c
  · unfold tkK at h
    rw [if_neg c] at h
    repeat' split at h
    all_goals exact absurd h (by decide)
theorem tk2 (h : tkK T L p = 2) : isL (byT T L p) ∧ tkE T L p = enD T L isL p ∧ tkE T L p - p ≤ 8 := by
  unfold tkK at h
  unfold tkE
  by_cases c : isL (byT T L p) ∧ isD (byT T L (p + 1))
  · rw [if_pos c] at h; exact absurd h (by decide)
  · rw [if_neg c] at h ⊢
    by_cases d : isL (byT T L p)
    · rw [if_pos d] at h ⊢
      by_cases e : 8 < enD T L isL p - p
      · rw [if_pos e] at h; exact absurd h (by decide)
      · exact ⟨d, rfl, by omega⟩
    · rw [if_neg d] at h
      repeat' split at h
      all_goals exact absurd h (by decide)
theorem tk3 (h : tkK T L p = 3) : isD (byT T L p) ∧ tkE T L p = enD T L isD p ∧ tkE T L p - p ≤ 4 := by
  unfold tkK at h
  unfold tkE
  by_cases c : isL (byT T L p) ∧ isD (byT T L (p + 1))
  · rw [if_pos c] at h; exact absurd h (by decide)
  · rw [if_neg c] at h ⊢
    by_cases d : isL (byT T L p)
    · rw [if_pos d] at h
      repeat' split at h
      all_goals exact absurd h (by decide)
    · rw [if_neg d] at h ⊢
      by_cases d2 : isD (byT T L p)
      · rw [if_pos d2] at h ⊢
        by_cases e : 4 < enD T L isD p - p
        · rw [if_pos e] at h; exact absurd h (by decide)
        · exact ⟨d2, rfl, by omega⟩
      · rw [if_neg d2] at h
        repeat' split at h
        all_goals exact absurd h (by decide)
theorem num_d (h : tkK T L p = 3) : 0 ≤ p ∧ p < tkE T L p ∧ tkE T L p ≤ L ∧ tkE T L p - p ≤ 4 ∧ ∀ i, 0 ≤ i → i < tkE T L p - p → isD (T (p + i)) := by
  have t := tk3 h
  have b := by_p nD t.1
  have e := tkE_b (T := T) b.2
  have d := (enD_b (T := T) (L := L) (p := p) nD (by omega)).2.2
  refine ⟨b.1, e.1, e.2, t.2.2, fun i i0 i1 => ?_⟩
  have := d (p + i) (by omega) (by rw [← t.2.1]; omega)
  rw [by_i (by omega) (by omega)] at this
  exact this
theorem okK_of (l0 : 0 ≤ L) (l1 : L ≤ 1600) : okK (kOf T L) := by
  have n := nT_ok (T := T) l0 l1
  refine ⟨n.1, n.2.1, fun i i0 i1 => ?_⟩
  have i1' : i ≤ nT T L := i1
  have pb := ps_b (T := T) l0 i.toNat
  refine ⟨tkK_b, ⟨fun z => ?_, fun z => ?_⟩, ?_, fun z => ?_, fun z => ?_⟩
  · by_cases c : i < nT T L
    · exact absurd z (tkK_n (n.2.2.2 i i0 c))
    · show i = nT T L
      omega
  · have z' : i = nT T L := z
    show tkK T L (psT T L i.toNat) = 0
    rw [z', n.2.2.1]
    exact (tkE_e (by omega)).2
  · show -1 ≤ wN T L (psT T L i.toNat) (tkE T L (psT T L i.toNat)) ∧ wN T L (psT T L i.toNat) (tkE T L (psT T L i.toNat)) ≤ 14
    rcases wN_b (T := T) (L := L) (a := psT T L i.toNat) (e := tkE T L (psT T L i.toNat)) with a | ⟨j, a, -, b⟩
    · omega
    · omega
  · have d := num_d z
    show 0 ≤ dv T (psT T L i.toNat) (tkE T L (psT T L i.toNat) - psT T L i.toNat).toNat ∧ dv T (psT T L i.toNat) (tkE T L (psT T L i.toNat) - psT T L i.toNat).toNat ≤ 9999
    have v := dv_b (T := T) (p := psT T L i.toNat) (tkE T L (psT T L i.toNat) - psT T L i.toNat).toNat (by omega) (fun j j0 j1 => d.2.2.2.2 j (by omega) (by omega))
    have hk : (tkE T L (psT T L i.toNat) - psT T L i.toNat).toNat ≤ 4 := by omega
    have hp : (10 : Int) ^ (tkE T L (psT T L i.toNat) - psT T L i.toNat).toNat ≤ 10000 := by
      generalize (tkE T L (psT T L i.toNat) - psT T L i.toNat).toNat = m at hk
      have : m = 0 ∨ m = 1 ∨ m = 2 ∨ m = 3 ∨ m = 4 := by omega
      rcases this with rfl | rfl | rfl | rfl | rfl <;> decide
    omega
  · have t := tk1 z
    unfold isL isD at t
    show 0 ≤ byT T L (psT T L i.toNat) - 97 ∧ byT T L (psT T L i.toNat) - 97 ≤ 25 ∧ -1 ≤ byT T L (psT T L i.toNat + 1) - 49 ∧ byT T L (psT T L i.toNat + 1) - 49 ≤ 8
    omega
theorem cKV_of {I : cI} (h0 : I 4 0 = nT T L + 1) (h : cRw I T L (nT T L + 1)) : cKV I (kOf T L) := by
  refine ⟨h0, fun i i0 i1 => ?_⟩
  have i1' : i ≤ nT T L := i1
  have r := h i i0 (by omega)
  refine ⟨r.1, r.2.1, fun z => ?_, fun z => ?_, fun z => ?_⟩
  · have z' : tkK T L (psT T L i.toNat) = 2 := z
    rw [r.2.2 (by omega)]
    show ctN T L (psT T L i.toNat) = wN T L (psT T L i.toNat) (tkE T L (psT T L i.toNat))
    unfold ctN
    rw [if_neg (by omega), if_pos z']
  · have z' : tkK T L (psT T L i.toNat) = 3 := z
    rw [r.2.2 (by omega)]
    show ctN T L (psT T L i.toNat) = dv T (psT T L i.toNat) (tkE T L (psT T L i.toNat) - psT T L i.toNat).toNat
    unfold ctN
    rw [if_neg (by omega), if_neg (by omega), if_pos z']
  · have z' : tkK T L (psT T L i.toNat) = 1 := z
    rw [r.2.2 (by omega)]
    show ctN T L (psT T L i.toNat) = 10 * (byT T L (psT T L i.toNat) - 97) + (byT T L (psT T L i.toNat + 1) - 49 + 1)
    unfold ctN
    rw [if_pos z']
    omega
theorem m_is {a : Int} {i : Nat} {Q : Int → cI → Prop} (h : jTp J T L) (r : jRw J T L (nT T L + 1)) (a0 : 0 ≤ a) (a1 : a ≤ nT T L) (hi : i < 15) (hQ : Q (b2 (tkK T L (psT T L a.toNat) = 2 ∧ mtW T L i (psT T L a.toNat) (tkE T L (psT T L a.toNat)))) J) : wX12_is a i J Q := by
  have n := nT_ok (T := T) h.2.1 h.2.2.1
  have L1 := h.2.2.1
  have ra := r a a0 (by omega)
  have tb := txN_b i hi
  have pb := ps_b (T := T) h.2.1 a.toNat
  have z0 : ¬ (tkK T L (psT T L a.toNat) = 2 ∧ mtW T L i (psT T L a.toNat) (tkE T L (psT T L a.toNat))) → wX12_is_34 Q a i J := fun c => by
    rw [b2_f c] at hQ
    refine ⟨1, ?_⟩
    show wbX12_is_39 Q a i (wX12_is_39 Q a i 0) 0 0 J
    exact ⟨fun _ => ⟨Or.inl rfl, hQ⟩, fun _ => ⟨fun _ => ⟨Or.inl rfl, hQ⟩, fun z => absurd rfl z⟩⟩
  unfold wX12_is
  rw [ra.1, ra.2.1, ra.2.2]
  refine ⟨by omega, fun c => z0 (fun q => c q.1), fun c => ?_⟩
  have t := tk2 c
  have b := by_p nL t.1
  have e := tkE_b (T := T) b.2
  refine ⟨by omega, by omega, by unfold inR; omega, fun d => z0 (fun q => d q.2.1), fun d => ?_⟩
  unfold wX12_is_35
  refine ⟨10, ?_⟩
  have K : ∀ (m : Nat) (x v : Int), 0 ≤ x → x ≤ txN i → txN i - x < m → ((v = 1 ∧ ∀ y, 0 ≤ y → y < x → byT T L (psT T L a.toNat + y) = txC i y) ∨ (v = 0 ∧ ∃ y, 0 ≤ y ∧ y < x ∧ ¬ byT T L (psT T L a.toNat + y) = txC i y)) → wX12_is_39 Q a i m v x J := by
    intro m
    induction m with
    | zero => intro x v x0 x1 x2; omega
    | succ m ih =>
      intro x v x0 x1 x2 hv
      show wbX12_is_39 Q a i (wX12_is_39 Q a i m) v x J
      unfold wbX12_is_39
      rw [ra.2.1]
      have bad : v = 0 → (∃ y, 0 ≤ y ∧ y < x ∧ ¬ byT T L (psT T L a.toNat + y) = txC i y) → (v = 0 ∨ v = 1) ∧ Q v J := fun v0 ⟨y, y0, y1, y2⟩ => by
        rw [b2_f (fun q => y2 (q.2.2 y y0 (by omega)))] at hQ
        rw [v0]; exact ⟨Or.inl rfl, hQ⟩
      refine ⟨fun c' => ?_, fun c' => ⟨fun v0 => ?_, fun v0 => ?_⟩⟩
      · rcases hv with ⟨v1, f⟩ | ⟨v0, f⟩
        · rw [b2_t ⟨c, d, fun y y0 y1 => f y y0 (by omega)⟩] at hQ
          rw [v1]; exact ⟨Or.inr rfl, hQ⟩
        · exact bad v0 f
      · rcases hv with ⟨v1, f⟩ | ⟨-, f⟩
        · omega
        · exact bad v0 f
      · rcases hv with ⟨v1, f⟩ | ⟨v0', f⟩
        · have eb : byT T L (psT T L a.toNat + x) = J 1001 (psT T L a.toNat + x) := by rw [by_i (by omega) (by omega)]; exact (h.2.2.2 _ (by omega) (by omega)).1.symm
          rw [← eb]
          refine ⟨by omega, by omega, by omega, fun ne => ⟨by unfold inR; omega, fun z hz => ?_⟩, fun eq => ⟨by unfold inR; omega, fun z hz => ?_⟩⟩
          · subst hz
            exact ih (x + 1) 0 (by omega) (by omega) (by omega) (Or.inr ⟨rfl, x, x0, by omega, ne⟩)
          · subst hz
            refine ih (x + 1) 1 (by omega) (by omega) (by omega) (Or.inl ⟨rfl, fun y y0 y1 => ?_⟩)
            by_cases ey : y = x
            · subst ey; exact eq
            · exact f y y0 (by omega)
        · exact absurd v0' v0
  exact K 10 0 1 (Int.le_refl 0) tb.1 (by omega) (Or.inl ⟨rfl, fun y y0 y1 => by omega⟩)
theorem m_wordAt {a : Int} {Q : Int → cI → Prop} (h : jTp J T L) (r : jRw J T L (nT T L + 1)) (a0 : 0 ≤ a) (a1 : a ≤ nT T L) (hQ : Q (if kK (kOf T L) a = 2 ∧ kW (kOf T L) a ≠ 14 then kW (kOf T L) a else -1) J) : wX12_wordAt a J Q := by
  have ek : kK (kOf T L) a = tkK T L (psT T L a.toNat) := rfl
  have ew : kW (kOf T L) a = wN T L (psT T L a.toNat) (tkE T L (psT T L a.toNat)) := rfl
  rw [ek, ew] at hQ
  refine ⟨15, ?_⟩
  have K : ∀ (m : Nat) (x : Nat) (v : Int), x ≤ 14 → 14 - x < m → ((v = -1 ∧ ∀ y : Nat, y < x → ¬ (tkK T L (psT T L a.toNat) = 2 ∧ mtW T L y (psT T L a.toNat) (tkE T L (psT T L a.toNat)))) ∨ ∃ y : Nat, y < x ∧ (tkK T L (psT T L a.toNat) = 2 ∧ mtW T L y (psT T L a.toNat) (tkE T L (psT T L a.toNat))) ∧ v = y) → wX12_wordAt_4 Q a m v x J := by
    intro m
    induction m with
    | zero => intro x v x1 x2; omega
    | succ m ih =>
      intro x v x1 x2 hv
      show wbX12_wordAt_4 Q a (wX12_wordAt_4 Q a m) v x J
      unfold wbX12_wordAt_4
      refine ⟨fun c => ?_, fun c => ⟨by omega, ?_⟩⟩
      · have x14 : x = 14 := by omega
        rcases hv with ⟨v1, f⟩ | ⟨y, y1, y2, y3⟩
        · by_cases d : tkK T L (psT T L a.toNat) = 2 ∧ wN T L (psT T L a.toNat) (tkE T L (psT T L a.toNat)) ≠ 14
          · rw [if_pos d] at hQ
            rcases wN_b (T := T) (L := L) (a := psT T L a.toNat) (e := tkE T L (psT T L a.toNat)) with q | ⟨j, q1, q2, q3⟩
            · rw [q.1] at hQ; rw [v1]; exact hQ
            · exact absurd ⟨d.1, q2⟩ (f j (by have := d.2; omega))
          · rw [if_neg d] at hQ; rw [v1]; exact hQ
        · have e := wN_y (show y < 15 by omega) y2.2
          rw [e, if_pos ⟨y2.1, by omega⟩] at hQ
          rw [y3]; exact hQ
      · have xl : x + 1 ≤ 14 := by clear hv; omega
        have xm : 14 - (x + 1) < m := by clear hv; omega
        rw [show ((x : Int)).toNat = x by omega]
        refine m_is h r a0 a1 (by omega) ⟨fun z => ⟨by unfold inR; omega, fun z' hz => ?_⟩, fun z => ⟨by unfold inR; omega, fun z' hz => ?_⟩⟩
        · subst hz
          have nz := b2_n.mp z
          refine ih (x + 1) v xl xm ?_
          rcases hv with ⟨v1, f⟩ | ⟨y, y1, y2, y3⟩
          · refine Or.inl ⟨v1, fun y y1 => ?_⟩
            by_cases ey : y = x
            · subst ey; exact nz
            · exact f y (by omega)
          · exact Or.inr ⟨y, by omega, y2, y3⟩
        · subst hz
          exact ih (x + 1) x xl xm (Or.inr ⟨x, Nat.lt_succ_self x, b2_y.mp ((b2_or _).resolve_left z), rfl⟩)
  exact K 15 0 (-1) (by decide) (by decide) (Or.inl ⟨rfl, fun y y1 => by omega⟩)
theorem m_numberAt {a : Int} {Q : Int → cI → Prop} (h : jTp J T L) (r : jRw J T L (nT T L + 1)) (a0 : 0 ≤ a) (a1 : a ≤ nT T L) (k3 : tkK T L (psT T L a.toNat) = 3) (hQ : Q (dv T (psT T L a.toNat) (tkE T L (psT T L a.toNat) - psT T L a.toNat).toNat) J) : wX12_numberAt a J Q := by
  have n := nT_ok (T := T) h.2.1 h.2.2.1
  have L1 := h.2.2.1
  have ra := r a a0 (by omega)
  have d := num_d k3
  obtain ⟨p0, p1, p2, p3, p4⟩ := d
  unfold wX12_numberAt
  rw [ra.2.1]
  refine ⟨by omega, fun z2 hz => ?_⟩
  subst hz
  refine ⟨6, ?_⟩
  have K : ∀ (m : Nat) (x : Nat), (x : Int) ≤ tkE T L (psT T L a.toNat) - psT T L a.toNat → tkE T L (psT T L a.toNat) - psT T L a.toNat - x < m → wX12_numberAt_9 Q a m (dv T (psT T L a.toNat) x) (psT T L a.toNat + x) J := by
    intro m
    induction m with
    | zero => intro x x1 x2; omega
    | succ m ih =>
      intro x x1 x2
      show wbX12_numberAt_9 Q a (wX12_numberAt_9 Q a m) (dv T (psT T L a.toNat) x) (psT T L a.toNat + x) J
      unfold wbX12_numberAt_9
      rw [ra.2.2]
      refine ⟨by omega, fun c => ?_, fun c => ?_⟩
      · rw [show (tkE T L (psT T L a.toNat) - psT T L a.toNat).toNat = x by omega] at hQ; exact hQ
      · have v := dv_b (T := T) (p := psT T L a.toNat) x (by omega) (fun j j0 j1 => p4 j (by omega) (by omega))
        have vp : (10 : Int) ^ x ≤ 10000 := by
          have : x = 0 ∨ x = 1 ∨ x = 2 ∨ x = 3 ∨ x = 4 := by omega
          rcases this with rfl | rfl | rfl | rfl | rfl <;> decide
        have t := h.2.2.2 (psT T L a.toNat + x) (by omega) (by omega)
        rw [t.1]
        refine ⟨by omega, by unfold inR; omega, fun z4 hz4 => ⟨by unfold inR; omega, fun z6 hz6 => ?_⟩⟩
        have := ih (x + 1) (by omega) (by omega)
        have e4 : z4 = dv T (psT T L a.toNat) (x + 1) := hz4
        have e6 : z6 = psT T L a.toNat + ((x + 1 : Nat) : Int) := by omega
        rw [e4, e6]; exact this
  have := K 6 0 (by omega) (by omega)
  rw [show psT T L a.toNat + ((0 : Nat) : Int) = psT T L a.toNat by omega] at this
  exact this
theorem jA_of (h : jTp J T L) (r : jRw J T L (nT T L + 1)) : jA J (kOf T L) := fun J' s i i0 i1 => by
  have n := nT_ok (T := T) h.2.1 h.2.2.1
  have L1 := h.2.2.1
  have i1' : i ≤ nT T L := i1
  have h' : jTp J' T L := ⟨by rw [s.2]; exact h.1, h.2.1, h.2.2.1, fun k k0 k1 => by rw [s.1 1001 k (Or.inl rfl)]; exact h.2.2.2 k k0 k1⟩
  have r' : jRw J' T L (nT T L + 1) := fun j j0 j1 => by rw [s.1 1004 j (by omega), s.1 1005 j (by omega), s.1 1006 j (by omega)]; exact r j j0 j1
  have ri := r' i i0 (by omega)
  refine ⟨ri.1, ri.2.1, fun Q hQ => m_wordAt h' r' i0 i1' hQ, fun k3 Q hQ => m_numberAt h' r' i0 i1' k3 hQ, fun k1 => ?_, fun e Q hQ => ?_⟩
  · have t := tk1 k1
    have b := by_p nL t.1
    have b' := by_p nD t.2
    show 0 ≤ psT T L i.toNat ∧ psT T L i.toNat + 1 < 1600 ∧ J' 1001 (psT T L i.toNat) - 97 = byT T L (psT T L i.toNat) - 97 ∧ J' 1001 (psT T L i.toNat + 1) - 49 = byT T L (psT T L i.toNat + 1) - 49
    rw [by_i b.1 b.2, by_i b'.1 b'.2, (h'.2.2.2 _ b.1 b.2).1, (h'.2.2.2 _ b'.1 b'.2).1]
    omega
  · subst e
    refine m_is h' r' (Int.le_refl 0) i1' (by decide) ?_
    have e : b2 (tkK T L (psT T L (0 : Int).toNat) = 2 ∧ mtW T L 14 (psT T L (0 : Int).toNat) (tkE T L (psT T L (0 : Int).toNat))) = b2 (kK (kOf T L) 0 = 2 ∧ kW (kOf T L) 0 = 14) := by
      refine b2_c ⟨fun q => ⟨q.1, wN_y (i := 14) (by decide) q.2⟩, fun q => ⟨q.1, ?_⟩⟩
      have q2 : wN T L (psT T L (0 : Int).toNat) (tkE T L (psT T L (0 : Int).toNat)) = 14 := q.2
      rcases wN_b (T := T) (L := L) (a := psT T L (0 : Int).toNat) (e := tkE T L (psT T L (0 : Int).toNat)) with w | ⟨j, w1, w2, w3⟩
      · omega
      · have : j = 14 := by omega
        subst this; exact w2
    rw [e]; exact hQ
end KO
