/-! ===== what is read of such a text ===== -/
/-- a rule as it is written: kind (12 rows, 13 columns), number, times, cells -/
abbrev rdT : Type := Int × Int × Int × List Int
def sh (r : rdT) : Int → Int := fun t => if t = 0 then r.1 else if t = 1 then r.2.1 else if t = 2 then r.2.2.1 else if t = 3 then (r.2.2.2.length : Int) else r.2.2.2.getD (t - 4).toNat 0
def nsR (r : rdT) : List Int := ([r.2.1, r.2.2.1]).take (nuT r.1).toNat
def itL (r : rdT) : List (Int × Int) := (2, r.1) :: ((nsR r).map (fun v => ((3 : Int), v)) ++ (r.2.2.2.map (fun c => ((1 : Int), c)) ++ (if r.1 = 9 then [((3 : Int), r.2.1)] else [])))
def rlI (r : rdT) : List rdT := if r.1 = 12 then [(0, 0, 0, [0, 1]), (0, 0, 0, [2, 3])] else if r.1 = 13 then [(0, 0, 0, [0, 2]), (0, 0, 0, [1, 3])] else [r]
/-- a good rule on four cells -/
def okR (r : rdT) : Prop := 0 ≤ r.1 ∧ r.1 < 12 ∧ 0 ≤ r.2.1 ∧ r.2.1 ≤ 9 ∧ 0 ≤ r.2.2.1 ∧ r.2.2.1 ≤ 5 ∧ 1 ≤ r.2.2.2.length ∧ r.2.2.2.length ≤ 3 ∧ (∀ c ∈ r.2.2.2, 0 ≤ c ∧ c < 4) ∧ r.2.2.2.Nodup ∧ (r.1 = 9 → r.2.2.2.length = 1 ∧ 1 ≤ r.2.1 ∧ r.2.1 ≤ 4) ∧ (r.1 = 3 → r.2.2.2.length = 2) ∧ (r.1 ≠ 9 → nuT r.1 = 0 → r.2.1 = 0) ∧ (nuT r.1 ≤ 1 → r.2.2.1 = 0) ∧ (1 ≤ nuT r.1 → nok 4 r.1 0 r.2.1) ∧ (2 ≤ nuT r.1 → nok 4 r.1 1 r.2.2.1)
def okI (r : rdT) : Prop := okR r ∨ ((r.1 = 12 ∨ r.1 = 13) ∧ r.2.2.2 = [])
/-- the tokens from i on -/
def Ks (k : kT) : Int → List (Int × Int) → Prop
  | i, [] => kK k i = 0 ∧ kZ k = i
  | i, x :: S => (kK k i = x.1 ∧ (x.1 = 2 → kW k i = x.2) ∧ (x.1 = 3 → kV' k i = x.2) ∧ (x.1 = 1 → kC k i = x.2 % 2 ∧ kR k i = x.2 / 2)) ∧ Ks k (i + 1) S
section PRS
variable {k : kT}
theorem Ks_z : ∀ (S : List (Int × Int)) (i : Int), Ks k i S → kZ k = i + S.length := by
  intro S
  induction S with
  | nil => intro i h; have h2 : kZ k = i := h.2; have e : ((([] : List (Int × Int)).length : Nat) : Int) = 0 := rfl; omega
  | cons x S ih => intro i h; have := ih (i + 1) h.2; rw [List.length_cons]; omega
theorem Ks_app : ∀ (A B : List (Int × Int)) (i : Int), Ks k i (A ++ B) → Ks k (i + A.length) B := by
  intro A
  induction A with
  | nil => intro B i h; have e : ((([] : List (Int × Int)).length : Nat) : Int) = 0 := rfl; rw [e, Int.add_zero]; exact h
  | cons x A ih => intro B i h; have := ih B (i + 1) h.2; rw [List.length_cons, show i + ((A.length + 1 : Nat) : Int) = i + 1 + (A.length : Int) by omega]; exact this
theorem Ks_of {S : List lxT} (h : KL k S) : Ks k 0 (S.map (fun x => x.1)) := by
  have go : ∀ (B A : List lxT), A ++ B = S → Ks k A.length (B.map (fun x => x.1)) := by
    intro B
    induction B with
    | nil =>
      intro A e
      rw [List.append_nil] at e
      subst e
      exact ⟨h.2.1, h.1⟩
    | cons x B ih =>
      intro A e
      have hl : A.length < S.length := by rw [← e, List.length_append, List.length_cons]; omega
      have hx : S.getD A.length ((0, 0), false) = x := by rw [← e, List.getD_eq_getElem?_getD, List.getElem?_append_right (Nat.le_refl _), Nat.sub_self]; rfl
      have q := h.2.2 A.length hl
      rw [hx] at q
      have r := ih (A ++ [x]) (by rw [List.append_assoc]; exact e)
      rw [List.length_append] at r
      exact ⟨q, r⟩
  exact go S [] rfl
theorem tkN_r : ∀ (ns : List Int) (S : List (Int × Int)) (i : Int), Ks k i (ns.map (fun v => ((3 : Int), v)) ++ S) → tkN k 3 ns.length i = (1, i + ns.length) := by
  intro ns
  induction ns with
  | nil => intro S i _; show ((1 : Int), i) = _; have e : ((([] : List Int).length : Nat) : Int) = 0 := rfl; rw [e, Int.add_zero]
  | cons v ns ih =>
    intro S i h
    have h1 : kK k i = 3 := h.1.1
    show (if kK k i = 3 then tkN k 3 ns.length (i + 1) else (0, i)) = _
    rw [if_pos h1, ih S (i + 1) h.2, List.length_cons, show i + 1 + (ns.length : Int) = i + ((ns.length + 1 : Nat) : Int) by omega]
theorem enC_r : ∀ (cs : List Int) (x : Int × Int) (S : List (Int × Int)) (i : Int), x.1 ≠ 1 → Ks k i (cs.map (fun c => ((1 : Int), c)) ++ x :: S) → enC k i = i + cs.length := by
  intro cs
  induction cs with
  | nil => intro x S i hx h; have e : ((([] : List Int).length : Nat) : Int) = 0 := rfl; rw [e, Int.add_zero]; exact enC_e (by rw [h.1.1]; exact hx)
  | cons c cs ih =>
    intro x S i hx h
    have z := Ks_z _ i h
    have e1 : kK k i = 1 := h.1.1
    rw [enC_s (by rw [z, List.length_append, List.length_map, List.length_cons, List.length_cons]; omega) e1, ih x S (i + 1) hx h.2, List.length_cons]
    omega
theorem adc_f : ∀ (cs : List Int) (ρ : Int → Int) (t : Int), 0 ≤ ρ 3 → cs.foldl adc ρ t = if t = 3 then ρ 3 + cs.length else if 4 + ρ 3 ≤ t ∧ t < 4 + ρ 3 + cs.length then cs.getD (t - 4 - ρ 3).toNat 0 else ρ t := by
  intro cs
  induction cs with
  | nil =>
    intro ρ t h
    have e : ((([] : List Int).length : Nat) : Int) = 0 := rfl
    rw [e]
    show ρ t = _
    by_cases q : t = 3
    · rw [if_pos q, q]; omega
    · rw [if_neg q, if_neg (by omega)]
  | cons c cs ih =>
    intro ρ t h
    have e3 : adc ρ c 3 = ρ 3 + 1 := rfl
    show cs.foldl adc (adc ρ c) t = _
    rw [ih (adc ρ c) t (by rw [e3]; omega), e3, List.length_cons]
    by_cases q : t = 3
    · rw [if_pos q, if_pos q]; omega
    · rw [if_neg q, if_neg q]
      by_cases q1 : t = 4 + ρ 3
      · rw [if_neg (by omega), if_pos (by omega), show (t - 4 - ρ 3).toNat = 0 by omega]
        show (if t = 3 then ρ 3 + 1 else if t = 4 + ρ 3 then c else ρ t) = c
        rw [if_neg q, if_pos q1]
      · by_cases q2 : 4 + (ρ 3 + 1) ≤ t ∧ t < 4 + (ρ 3 + 1) + cs.length
        · rw [if_pos q2, if_pos (by omega), show (t - 4 - ρ 3).toNat = (t - 4 - (ρ 3 + 1)).toNat + 1 by omega]
          rfl
        · rw [if_neg q2, if_neg (by omega)]
          show (if t = 3 then ρ 3 + 1 else if t = 4 + ρ 3 then c else ρ t) = ρ t
          rw [if_neg q, if_neg q1]
theorem hc_adc {ρ : Int → Int} {c d : Int} (h : 0 ≤ ρ 3) (q : hc (adc ρ c) d) : hc ρ d ∨ d = c := by
  obtain ⟨i, i0, i1, e⟩ := q
  have e3 : adc ρ c 3 = ρ 3 + 1 := rfl
  rw [e3] at i1
  have e4 : adc ρ c (4 + i) = if 4 + i = 3 then ρ 3 + 1 else if 4 + i = 4 + ρ 3 then c else ρ (4 + i) := rfl
  rw [e4, if_neg (by omega)] at e
  by_cases z : 4 + i = 4 + ρ 3
  · rw [if_pos z] at e; exact Or.inr e.symm
  · rw [if_neg z] at e; exact Or.inl ⟨i, i0, by omega, e⟩
theorem cl_r : ∀ (cs : List Int) (m : Nat) (x : Int × Int) (S : List (Int × Int)) (i : Int) (ρ : Int → Int), x.1 ≠ 1 → Ks k i (cs.map (fun c => ((1 : Int), c)) ++ x :: S) → (∀ c ∈ cs, 0 ≤ c ∧ c < 4) → 0 ≤ ρ 3 → ρ 3 + cs.length ≤ 5 → (∀ c ∈ cs, ¬ hc ρ c) → cs.Nodup → cs.length < m → cl k 2 2 m i ρ = (0, i + cs.length, cs.foldl adc ρ) := by
  intro cs
  induction cs with
  | nil =>
    intro m x S i ρ hx h _ _ _ _ _ hm
    obtain ⟨m', rfl⟩ : ∃ m', m = m' + 1 := ⟨m - 1, by have : 0 < m := hm; omega⟩
    have e : ((([] : List Int).length : Nat) : Int) = 0 := rfl
    rw [cl_1 (by rw [h.1.1]; exact hx), e, Int.add_zero]
    rfl
  | cons c cs ih =>
    intro m x S i ρ hx h hc' r0 r5 hh nd hm
    rw [List.length_cons] at hm r5
    obtain ⟨m', rfl⟩ : ∃ m', m = m' + 1 := ⟨m - 1, by omega⟩
    have e1 : kK k i = 1 := h.1.1
    have e2 : kC k i = c % 2 ∧ kR k i = c / 2 := h.1.2.2.2 rfl
    have c4 := hc' c List.mem_cons_self
    have ec : kC k i + 2 * kR k i = c := by omega
    have nd' := List.nodup_cons.mp nd
    rw [cl_5 e1 (by omega) (by rw [ec]; exact hh c List.mem_cons_self) (by omega), ec, ih m' x S (i + 1) (adc ρ c) hx h.2 (fun d hd => hc' d (List.mem_cons_of_mem _ hd)) (by show 0 ≤ ρ 3 + 1; omega) (by show ρ 3 + 1 + _ ≤ 5; omega) (fun d hd q => ?_) nd'.2 (by omega), List.length_cons]
    · rw [show i + 1 + (cs.length : Int) = i + ((cs.length + 1 : Nat) : Int) by omega]
      rfl
    · rcases hc_adc r0 q with q | q
      · exact hh d (List.mem_cons_of_mem _ hd) q
      · subst q; exact nd'.1 hd
end PRS
