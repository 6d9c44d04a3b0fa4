/-! ===== tokens: the tape as both sides see it ===== -/
def byT (T : Int → Int) (L p : Int) : Int := if 0 ≤ p ∧ p < L then T p else -1
abbrev isB (b : Int) : Prop := b = 32 ∨ b = 10
abbrev isL (b : Int) : Prop := 97 ≤ b ∧ b ≤ 122
abbrev isD (b : Int) : Prop := 48 ≤ b ∧ b ≤ 57
def cTp (I : cI) (T : Int → Int) (L : Int) : Prop := I 1 0 = L ∧ 0 ≤ L ∧ L ≤ 1600 ∧ ∀ k, 0 ≤ k → k < L → I 2 k = T k ∧ 0 ≤ T k ∧ T k ≤ 255
def jTp (J : cI) (T : Int → Int) (L : Int) : Prop := J 1000 2 = L ∧ 0 ≤ L ∧ L ≤ 1600 ∧ ∀ k, 0 ≤ k → k < L → J 1001 k = T k ∧ 0 ≤ T k ∧ T k ≤ 255
noncomputable def enD (T : Int → Int) (L : Int) (P : Int → Prop) (p : Int) : Int := fnI (fun q => ¬ P (byT T L q)) (L - p).toNat p
section EN
variable {T : Int → Int} {L p : Int} {P : Int → Prop}
theorem by_o (h : ¬ (0 ≤ p ∧ p < L)) : byT T L p = -1 := if_neg h
theorem by_i (h0 : 0 ≤ p) (h1 : p < L) : byT T L p = T p := if_pos ⟨h0, h1⟩
theorem enD_s (h : p < L) (hp : P (byT T L p)) : enD T L P p = enD T L P (p + 1) := by
  unfold enD
  rw [show (L - p).toNat = (L - (p + 1)).toNat + 1 by omega]
  exact if_neg (fun w => w hp)
theorem enD_e (hp : ¬ P (byT T L p)) : enD T L P p = p := by
  unfold enD
  cases (L - p).toNat with
  | zero => rfl
  | succ m => exact if_pos hp
theorem enD_b (hL : ¬ P (-1)) : p ≤ L → p ≤ enD T L P p ∧ enD T L P p ≤ L ∧ ∀ i, p ≤ i → i < enD T L P p → P (byT T L i) := by
  have key : ∀ x, x ≤ L → x ≤ enD T L P x ∧ enD T L P x ≤ L ∧ ∀ i, x ≤ i → i < enD T L P x → P (byT T L i) := by
    refine up_ind (n := L) (fun x c hx => ?_) (fun x c ih hx => ?_)
    · rw [enD_e (by rw [by_o (by omega)]; exact hL)]
      exact ⟨Int.le_refl x, hx, fun i i0 i1 => by omega⟩
    · by_cases hp : P (byT T L x)
      · rw [enD_s c hp]
        have k := ih (by omega)
        refine ⟨by omega, k.2.1, fun i i0 i1 => ?_⟩
        by_cases ei : i = x
        · subst ei; exact hp
        · exact k.2.2 i (by omega) i1
      · rw [enD_e hp]; exact ⟨Int.le_refl x, hx, fun i i0 i1 => by omega⟩
  exact key p
theorem enD_x (hL : ¬ P (-1)) (h : p ≤ L) : ¬ P (byT T L (enD T L P p)) := by
  have key : ∀ x, x ≤ L → ¬ P (byT T L (enD T L P x)) := by
    refine up_ind (n := L) (fun x c hx => ?_) (fun x c ih hx => ?_)
    · have hn : ¬ P (byT T L x) := by rw [by_o (by omega)]; exact hL
      rw [enD_e hn]; exact hn
    · by_cases hp : P (byT T L x)
      · rw [enD_s c hp]; exact ih (by omega)
      · rw [enD_e hp]; exact hp
  exact key p h
end EN
theorem nB : ¬ isB (-1) := by unfold isB; omega
theorem nL : ¬ isL (-1) := by unfold isL; omega
theorem nD : ¬ isD (-1) := by unfold isD; omega
/-! one token -/
noncomputable def tkK (T : Int → Int) (L p : Int) : Int := if isL (byT T L p) ∧ isD (byT T L (p + 1)) then 1 else if isL (byT T L p) then (if 8 < enD T L isL p - p then 5 else 2) else if isD (byT T L p) then (if 4 < enD T L isD p - p then 5 else 3) else if p < L then (if byT T L p = 59 then 4 else 5) else 0
noncomputable def tkE (T : Int → Int) (L p : Int) : Int := if isL (byT T L p) ∧ isD (byT T L (p + 1)) then p + 2 else if isL (byT T L p) then enD T L isL p else if isD (byT T L p) then enD T L isD p else if p < L then p + 1 else p
noncomputable def psT (T : Int → Int) (L : Int) : Nat → Int
  | 0 => enD T L isB 0
  | i + 1 => enD T L isB (tkE T L (psT T L i))
noncomputable def nT (T : Int → Int) (L : Int) : Int := fnI (fun i => psT T L i.toNat = L) 1601 0
section TK
variable {T : Int → Int} {L p : Int}
theorem by_p {P : Int → Prop} (hL : ¬ P (-1)) (h : P (byT T L p)) : 0 ≤ p ∧ p < L := by
  by_cases c : 0 ≤ p ∧ p < L
  · exact c
  · rw [by_o c] at h; exact absurd h hL
theorem tkE_b (h : p < L) : p < tkE T L p ∧ tkE T L p ≤ L := by
  unfold tkE
  by_cases c1 : isL (byT T L p) ∧ isD (byT T L (p + 1))
  · rw [if_pos c1]; have := by_p nD c1.2; omega
  · rw [if_neg c1]
    by_cases c2 : isL (byT T L p)
    · rw [if_pos c2, enD_s h c2]; have := enD_b (T := T) (p := p + 1) nL (by omega : p + 1 ≤ L); omega
    · rw [if_neg c2]
      by_cases c3 : isD (byT T L p)
      · rw [if_pos c3, enD_s h c3]; have := enD_b (T := T) (p := p + 1) nD (by omega : p + 1 ≤ L); omega
      · rw [if_neg c3, if_pos h]; omega
theorem tkE_e (h : ¬ p < L) : tkE T L p = p ∧ tkK T L p = 0 := by
  have hb : byT T L p = -1 := by_o (by omega)
  unfold tkE tkK
  rw [hb, if_neg (fun w => nL w.1), if_neg nL, if_neg nD, if_neg h, if_neg (fun w => nL w.1), if_neg nL, if_neg nD, if_neg h]
  exact ⟨rfl, rfl⟩
theorem tkK_n (h : p < L) : ¬ tkK T L p = 0 := by
  unfold tkK
  split
  · decide
  · split
    · split <;> decide
    · split
      · split <;> decide
      · first | rw [if_pos h] | skip
        split <;> decide
theorem tkK_b : 0 ≤ tkK T L p ∧ tkK T L p ≤ 5 := by
  unfold tkK
  split
  · decide
  · split
    · split <;> decide
    · split
      · split <;> decide
      · split
        · split <;> decide
        · decide
theorem ps_b (h0 : 0 ≤ L) : ∀ i : Nat, 0 ≤ psT T L i ∧ psT T L i ≤ L := by
  intro i
  induction i with
  | zero => have := enD_b (T := T) (p := 0) nB h0; exact ⟨this.1, this.2.1⟩
  | succ i ih =>
    have e : tkE T L (psT T L i) ≤ L ∧ psT T L i ≤ tkE T L (psT T L i) := by
      by_cases c : psT T L i < L
      · have := tkE_b (T := T) c; omega
      · rw [(tkE_e c).1]; omega
    have := enD_b (T := T) (p := tkE T L (psT T L i)) nB e.1
    show 0 ≤ enD T L isB (tkE T L (psT T L i)) ∧ enD T L isB (tkE T L (psT T L i)) ≤ L
    omega
theorem ps_s {i : Nat} (h : psT T L i < L) : psT T L i < psT T L (i + 1) := by
  have e := tkE_b (T := T) h
  have := enD_b (T := T) (p := tkE T L (psT T L i)) nB e.2
  show psT T L i < enD T L isB (tkE T L (psT T L i))
  omega
theorem nT_ok (h0 : 0 ≤ L) (h1 : L ≤ 1600) : 0 ≤ nT T L ∧ nT T L ≤ 1600 ∧ psT T L (nT T L).toNat = L ∧ ∀ i, 0 ≤ i → i < nT T L → psT T L i.toNat < L := by
  have grow : ∀ i : Nat, psT T L i = L ∨ (i : Int) ≤ psT T L i := by
    intro i
    induction i with
    | zero => exact Or.inr (ps_b h0 0).1
    | succ i ih =>
      by_cases c : psT T L i < L
      · have := ps_s c
        have := ps_b (T := T) h0 (i + 1)
        rcases ih with ih | ih
        · omega
        · right; omega
      · left
        have e : tkE T L (psT T L i) = psT T L i := (tkE_e c).1
        have b := ps_b (T := T) h0 i
        show enD T L isB (tkE T L (psT T L i)) = L
        rw [e, enD_e (by rw [by_o (by omega)]; exact nB)]
        omega
  have hr : psT T L L.toNat = L := by
    rcases grow L.toNat with h | h
    · exact h
    · have := ps_b (T := T) h0 L.toNat; omega
  have k := fnI_ok (p := fun i => psT T L i.toNat = L) 1601 0 L h0 (by omega) hr
  have e : fnI (fun i => psT T L i.toNat = L) 1601 0 = nT T L := rfl
  rw [e] at k
  refine ⟨k.1, by omega, k.2.2.1, fun i i0 i1 => ?_⟩
  have := ps_b (T := T) h0 i.toNat
  have := k.2.2.2 i i0 i1
  omega
end TK
/-! words and numbers -/
def mtW (T : Int → Int) (L : Int) (i : Nat) (a e : Int) : Prop := e - a = txN i ∧ ∀ x, 0 ≤ x → x < txN i → byT T L (a + x) = txC i x
theorem tx_d : ∀ i : Nat, i < 15 → ∀ j : Nat, j < 15 → i ≠ j → txN i ≠ txN j ∨ ∃ x : Nat, x < 7 ∧ (x : Int) < txN i ∧ txC i (x : Int) ≠ txC j (x : Int) := by
  unfold txN txC; decide +kernel
theorem mtW_u {T : Int → Int} {L a e : Int} {i j : Nat} (hi : i < 15) (hj : j < 15) (h : mtW T L i a e) (g : mtW T L j a e) : i = j := by
  by_cases c : i = j
  · exact c
  · rcases tx_d i hi j hj c with d | ⟨x, -, d1, d2⟩
    · exact absurd (h.1.symm.trans g.1) d
    · have hl := h.1.symm.trans g.1
      exact absurd ((h.2 x (by omega) d1).symm.trans (g.2 x (by omega) (by omega))) d2
noncomputable def wN (T : Int → Int) (L a e : Int) : Int := @dite _ (∃ i : Nat, i < 15 ∧ mtW T L i a e) (Classical.propDecidable _) (fun h => ((Classical.choose h : Nat) : Int)) (fun _ => -1)
theorem wN_y {T : Int → Int} {L a e : Int} {i : Nat} (hi : i < 15) (h : mtW T L i a e) : wN T L a e = i := by
  have hx : ∃ i : Nat, i < 15 ∧ mtW T L i a e := ⟨i, hi, h⟩
  unfold wN
  rw [dif_pos hx]
  have k := Classical.choose_spec hx
  exact congrArg (fun n : Nat => (n : Int)) (mtW_u k.1 hi k.2 h)
theorem wN_n {T : Int → Int} {L a e : Int} (h : ∀ i : Nat, i < 15 → ¬ mtW T L i a e) : wN T L a e = -1 := by
  unfold wN
  rw [dif_neg (fun ⟨i, hi, w⟩ => h i hi w)]
theorem wN_b {T : Int → Int} {L a e : Int} : (wN T L a e = -1 ∧ ∀ i : Nat, i < 15 → ¬ mtW T L i a e) ∨ (∃ i : Nat, i < 15 ∧ mtW T L i a e ∧ wN T L a e = i) := by
  by_cases h : ∃ i : Nat, i < 15 ∧ mtW T L i a e
  · obtain ⟨i, hi, w⟩ := h; exact Or.inr ⟨i, hi, w, wN_y hi w⟩
  · exact Or.inl ⟨wN_n (fun i hi w => h ⟨i, hi, w⟩), fun i hi w => h ⟨i, hi, w⟩⟩
def dv (T : Int → Int) (p : Int) : Nat → Int
  | 0 => 0
  | k + 1 => 10 * dv T p k + T (p + k) - 48
theorem dv_b {T : Int → Int} {p : Int} : ∀ k : Nat, k ≤ 4 → (∀ i, 0 ≤ i → i < k → isD (T (p + i))) → 0 ≤ dv T p k ∧ dv T p k < 10 ^ k := by
  intro k
  induction k with
  | zero => intro _ _; exact ⟨Int.le_refl 0, by show (0 : Int) < 10 ^ 0; decide⟩
  | succ k ih =>
    intro hk h
    have i1 := ih (by omega) (fun i i0 i1 => h i i0 (by omega))
    have d := h k (by omega) (by omega)
    unfold isD at d
    show 0 ≤ 10 * dv T p k + T (p + k) - 48 ∧ 10 * dv T p k + T (p + k) - 48 < 10 ^ (k + 1)
    rw [Int.pow_succ]
    omega
section CT
variable {I : cI} {R : cR} {J : cI} {T : Int → Int} {L p : Int}
theorem c_byte {Q : Int → cI → cR → Prop} (h : cTp I T L) (hQ : Q (byT T L p) I R) : wX9_byteOrNone p I R Q := by
  unfold wX9_byteOrNone
  rw [h.1]
  have h1 := h.2.2.1
  refine ⟨fun c => ?_, fun c => ⟨fun d => ?_, fun d => ⟨fun e => by omega, fun e => ⟨by omega, ?_⟩⟩⟩⟩
  · rw [by_o (by omega)] at hQ; exact hQ
  · rw [by_o (by omega)] at hQ; exact hQ
  · rw [by_i (by omega) (by omega)] at hQ
    rw [(h.2.2.2 p (by omega) (by omega)).1]; exact hQ
theorem c_isBlank {b : Int} {Q : Int → cI → cR → Prop} (hQ : Q (b2 (isB b)) I R) : wX10_isBlank b I R Q := by
  obtain ⟨q1, q0⟩ := b2_q (Q := fun z => Q z I R) hQ
  exact ⟨fun e => q1 (Or.inl e), fun e => ⟨fun e2 => q0 (fun w => by unfold isB at w; omega), fun e2 => q1 (Or.inr e2)⟩⟩
theorem c_isDigit {b : Int} {Q : Int → cI → cR → Prop} (hQ : Q (b2 (isD b)) I R) : wX10_isDigit b I R Q := by
  obtain ⟨q1, q0⟩ := b2_q (Q := fun z => Q z I R) hQ
  exact ⟨fun e => q0 (fun w => by unfold isD at w; omega), fun e => ⟨fun e2 => q0 (fun w => by unfold isD at w; omega), fun e2 => q1 ⟨by omega, by omega⟩⟩⟩
theorem c_isLetter {b : Int} {Q : Int → cI → cR → Prop} (hQ : Q (b2 (isL b)) I R) : wX10_isLetter b I R Q := by
  obtain ⟨q1, q0⟩ := b2_q (Q := fun z => Q z I R) hQ
  exact ⟨fun e => q0 (fun w => by unfold isL at w; omega), fun e => ⟨fun e2 => q0 (fun w => by unfold isL at w; omega), fun e2 => q1 ⟨by omega, by omega⟩⟩⟩
theorem c_skip {Q : Int → cI → cR → Prop} (h : cTp I T L) (p1 : p ≤ L) (p0 : 0 ≤ p) (hQ : Q (enD T L isB p) I R) : wX10_skipBlanks p I R Q := by
  have L1 := h.2.2.1
  have K : ∀ (m : Nat) (x : Int), 0 ≤ x → x ≤ L → L - x < m → enD T L isB x = enD T L isB p → wX10_skipBlanks_2 Q p m x I R := by
    intro m
    induction m with
    | zero => intro x x0 x1 x2; omega
    | succ m ih =>
      intro x x0 x1 x2 he
      show wbX10_skipBlanks_2 Q p (wX10_skipBlanks_2 Q p m) x I R
      unfold wbX10_skipBlanks_2
      rw [h.1]
      refine ⟨fun c => ?_, fun c => c_byte h (c_isBlank ⟨fun d => ?_, fun d => ⟨by unfold inR; omega, fun z hz => ?_⟩⟩)⟩
      · rw [enD_e (by rw [by_o (by omega)]; exact nB)] at he
        rw [he]; exact hQ
      · rw [enD_e (b2_n.mp d)] at he
        rw [he]; exact hQ
      · subst hz
        have hp : isB (byT T L x) := b2_y.mp ((b2_or _).resolve_left d)
        rw [enD_s (by omega) hp] at he
        exact ih (x + 1) (by omega) (by omega) (by omega) he
  exact ⟨1601, K 1601 p p0 p1 (by omega) rfl⟩
/-- the class's word of a stretch of letters -/
theorem c_isWord {a e : Int} {i : Nat} {Q : Int → cI → cR → Prop} (h : cTp I T L) (hi : i < 15) (a0 : 0 ≤ a) (a1 : a ≤ e) (a2 : e ≤ L) (hQ : Q (b2 (mtW T L i a e)) I R) : wX10_isWord a e i I R Q := by
  have hb := txN_b i hi
  have L1 := h.2.2.1
  obtain ⟨q1, q0⟩ := b2_q (Q := fun z => Q z I R) hQ
  unfold wX10_isWord
  refine ⟨by unfold inR; omega, fun c => ⟨9, ?_⟩, fun c => q0 (fun w => c w.1)⟩
  have K : ∀ (m : Nat) (x : Int), 0 ≤ x → x ≤ txN i → txN i - x < m → (∀ y, 0 ≤ y → y < x → byT T L (a + y) = txC i y) → wX10_isWord_15 Q a e i m x I R := by
    intro m
    induction m with
    | zero => intro x x0 x1 x2; omega
    | succ m ih =>
      intro x x0 x1 x2 hx
      show wbX10_isWord_15 Q a e i (wX10_isWord_15 Q a e i m) x I R
      unfold wbX10_isWord_15
      refine ⟨fun d => q1 ⟨c, fun y y0 y1 => hx y y0 (by omega)⟩, fun d => ⟨by unfold inR; omega, c_byte h ⟨by omega, fun f => ⟨by unfold inR; omega, fun z hz => ?_⟩, fun f => q0 (fun w => f (w.2 x x0 (by omega)))⟩⟩⟩
      subst hz
      refine ih (x + 1) (by omega) (by omega) (by omega) (fun y y0 y1 => ?_)
      by_cases ey : y = x
      · subst ey; exact f
      · exact hx y y0 (by omega)
  exact K 9 0 (Int.le_refl 0) hb.1 (by omega) (fun y y0 y1 => by omega)
theorem c_wordNo {a e : Int} {Q : Int → cI → cR → Prop} (h : cTp I T L) (a0 : 0 ≤ a) (a1 : a ≤ e) (a2 : e ≤ L) (hQ : Q (wN T L a e) I R) : wX10_wordNumber a e I R Q := by
  have yes : ∀ i : Nat, i < 15 → ¬ b2 (mtW T L i a e) = 0 → Q (i : Int) I R := fun i hi w => by
    rw [wN_y hi (b2_y.mp ((b2_or _).resolve_left w))] at hQ; exact hQ
  have K : ∀ (m : Nat) (x : Int), 0 ≤ x → x ≤ 12 → 12 - x < m → (∀ i : Nat, (i : Int) < x → ¬ mtW T L i a e) → wX10_wordNumber_2 Q a e m x I R := by
    intro m
    induction m with
    | zero => intro x x0 x1 x2; omega
    | succ m ih =>
      intro x x0 x1 x2 hx
      show wbX10_wordNumber_2 Q a e (wX10_wordNumber_2 Q a e m) x I R
      unfold wbX10_wordNumber_2
      refine ⟨fun d => c_isWord h (by decide) a0 a1 a2 ⟨fun d12 => c_isWord h (by decide) a0 a1 a2 ⟨fun d13 => c_isWord h (by decide) a0 a1 a2 ⟨fun d14 => ?_, fun d14 => yes 14 (by decide) d14⟩, fun d13 => yes 13 (by decide) d13⟩, fun d12 => yes 12 (by decide) d12⟩, fun d => ⟨by omega, c_isWord h (by omega) a0 a1 a2 ⟨fun d0 => ⟨by unfold inR; omega, fun z hz => ?_⟩, fun d0 => ⟨by omega, ?_⟩⟩⟩⟩
      · rw [wN_n (fun i hi w => ?_)] at hQ
        · exact hQ
        · by_cases e12 : i = 12
          · subst e12; exact b2_n.mp d12 w
          · by_cases e13 : i = 13
            · subst e13; exact b2_n.mp d13 w
            · by_cases e14 : i = 14
              · subst e14; exact b2_n.mp d14 w
              · exact hx i (by omega) w
      · subst hz
        refine ih (x + 1) (by omega) (by omega) (by omega) (fun i hi w => ?_)
        by_cases ei : (i : Int) = x
        · rw [← ei, Int.toNat_natCast] at d0; exact b2_n.mp d0 w
        · exact hx i (by omega) w
      · exact yes x.toNat (by omega) d0
  exact ⟨13, K 13 0 (Int.le_refl 0) (by decide) (by decide) (fun i hi => by omega)⟩
end CT
