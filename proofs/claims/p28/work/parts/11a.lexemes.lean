/-! ===== texts as lists of lexemes ===== -/
/-- a lexeme: its kind (1 cell, 2 word, 3 number, 4 semicolon), which; whether a blank follows -/
abbrev lxT : Type := (Int × Int) × Bool
def lxB (x : Int × Int) : List Int := if x.1 = 1 then [97 + x.2 % 2, 49 + x.2 / 2] else if x.1 = 2 then (List.range (txL.getD x.2.toNat 0)).map (fun (j : Nat) => txC x.2.toNat (j : Int)) else if x.1 = 3 then [48 + x.2] else [59]
def okL (x : Int × Int) : Prop := (x.1 = 1 ∧ 0 ≤ x.2 ∧ x.2 < 4) ∨ (x.1 = 2 ∧ 0 ≤ x.2 ∧ x.2 < 15) ∨ (x.1 = 3 ∧ 0 ≤ x.2 ∧ x.2 ≤ 9) ∨ x.1 = 4
def bl (b : Bool) : Int := if b = true then 1 else 0
/-- the tape from p on is this text -/
def Tx (T : Int → Int) (L : Int) : Int → List lxT → Prop
  | p, [] => p = L
  | p, x :: S => (∀ j : Nat, j < (lxB x.1).length → T (p + j) = (lxB x.1).getD j 0) ∧ (x.2 = true → T (p + (lxB x.1).length) = 32) ∧ Tx T L (p + (lxB x.1).length + bl x.2) S
def adj : List lxT → Prop
  | [] => True
  | [x] => x.1.1 = 4
  | x :: y :: S => okL x.1 ∧ (x.2 = true ∨ x.1.1 = 4 ∨ y.1.1 = 4) ∧ adj (y :: S)
theorem adj_ok {x : lxT} {S : List lxT} (h : adj (x :: S)) : okL x.1 := by
  cases S with
  | nil => exact Or.inr (Or.inr (Or.inr h))
  | cons y S => exact h.1
theorem adj_t {x : lxT} {S : List lxT} (h : adj (x :: S)) : adj S := by
  cases S with
  | nil => trivial
  | cons y S => exact h.2.2
theorem wd_ch : ∀ i : Nat, i < 15 → 2 ≤ txL.getD i 0 ∧ txL.getD i 0 ≤ 7 ∧ ∀ j : Nat, j < txL.getD i 0 → 97 ≤ txC i (j : Int) ∧ txC i (j : Int) ≤ 122 := by decide +kernel
theorem lx1 {a : Int} : lxB (1, a) = [97 + a % 2, 49 + a / 2] := rfl
theorem lx2 {a : Int} : lxB (2, a) = (List.range (txL.getD a.toNat 0)).map (fun (j : Nat) => txC a.toNat (j : Int)) := rfl
theorem lx3 {a : Int} : lxB (3, a) = [48 + a] := rfl
theorem lx4 {a : Int} : lxB (4, a) = [59] := rfl
theorem lx2_l {a : Int} : (lxB (2, a)).length = txL.getD a.toNat 0 := by rw [lx2, List.length_map, List.length_range]
theorem lx2_g {a : Int} {j : Nat} (h : j < txL.getD a.toNat 0) : (lxB (2, a)).getD j 0 = txC a.toNat (j : Int) := by
  rw [lx2, List.getD_eq_getElem?_getD, List.getElem?_map, List.getElem?_range h]
  rfl
/-- the first byte -/
theorem lx_f {x : Int × Int} (o : okL x) : 1 ≤ (lxB x).length ∧ (lxB x).getD 0 0 ≠ 32 ∧ (lxB x).getD 0 0 ≠ 10 ∧ (x.1 = 4 → (lxB x).getD 0 0 = 59) := by
  obtain ⟨κ, a⟩ := x
  rcases o with ⟨e, a0, a1⟩ | ⟨e, a0, a1⟩ | ⟨e, a0, a1⟩ | e
  · have e' : κ = 1 := e
    subst e'
    rw [lx1]
    exact ⟨by simp, by show 97 + a % 2 ≠ 32; omega, by show 97 + a % 2 ≠ 10; omega, fun q => absurd (show (1 : Int) = 4 from q) (by decide)⟩
  · have e' : κ = 2 := e
    subst e'
    have w := wd_ch a.toNat (by have a1' : a < 15 := a1; omega)
    have c := w.2.2 0 (by omega)
    rw [lx2_l, lx2_g (by omega)]
    exact ⟨by omega, by omega, by omega, fun q => absurd (show (2 : Int) = 4 from q) (by decide)⟩
  · have e' : κ = 3 := e
    subst e'
    have a0' : 0 ≤ a := a0
    have a1' : a ≤ 9 := a1
    rw [lx3]
    exact ⟨by simp, by show 48 + a ≠ 32; omega, by show 48 + a ≠ 10; omega, fun q => absurd (show (3 : Int) = 4 from q) (by decide)⟩
  · have e' : κ = 4 := e
    subst e'
    rw [lx4]
    exact ⟨by simp, by decide, by decide, fun _ => rfl⟩
section LXS
variable {T : Int → Int} {L : Int}
theorem enD_n {P : Int → Prop} : ∀ (m : Nat) (p : Int), p + m ≤ L → (∀ j : Nat, j < m → P (byT T L (p + j))) → ¬ P (byT T L (p + m)) → enD T L P p = p + m := by
  intro m
  induction m with
  | zero => intro p h _ n; rw [show p + ((0 : Nat) : Int) = p by omega] at n ⊢; exact enD_e n
  | succ m ih =>
    intro p h k n
    have k0 := k 0 (by omega)
    rw [show p + ((0 : Nat) : Int) = p by omega] at k0
    rw [enD_s (by omega) k0, ih (p + 1) (by omega) (fun j hj => by have := k (j + 1) (by omega); rw [show p + ((j + 1 : Nat) : Int) = p + 1 + (j : Int) by omega] at this; exact this) (by rw [show p + 1 + (m : Int) = p + ((m + 1 : Nat) : Int) by omega]; exact n)]
    omega
theorem bl_b (b : Bool) : 0 ≤ bl b ∧ bl b ≤ 1 := by cases b <;> decide
theorem Tx_le : ∀ (S : List lxT) (p : Int), Tx T L p S → p ≤ L := by
  intro S
  induction S with
  | nil => intro p h; have h' : p = L := h; omega
  | cons x S ih =>
    intro p h
    have := ih _ h.2.2
    have := bl_b x.2
    omega
/-- what stands behind a lexeme -/
theorem tx_next {x : lxT} {S : List lxT} {p : Int} (h : Tx T L p (x :: S)) (a : adj (x :: S)) (p0 : 0 ≤ p) : (x.1.1 ≠ 4 → byT T L (p + (lxB x.1).length) = 32 ∨ byT T L (p + (lxB x.1).length) = 59) ∧ enD T L isB (p + (lxB x.1).length) = p + (lxB x.1).length + bl x.2 := by
  obtain ⟨h1, h2, h3⟩ := h
  have le := Tx_le S _ h3
  have nb : ¬ isB (byT T L (p + (lxB x.1).length + bl x.2)) ∧ ∀ y S', S = y :: S' → byT T L (p + (lxB x.1).length + bl x.2) = (lxB y.1).getD 0 0 := by
    cases S with
    | nil =>
      have e : p + (lxB x.1).length + bl x.2 = L := h3
      rw [e, by_o (by omega)]
      exact ⟨nB, fun y S' q => by cases q⟩
    | cons y S =>
      have f := lx_f (adj_ok (adj_t a))
      have g := h3.1 0 (by omega)
      have le2 := Tx_le S _ h3.2.2
      have bb := bl_b y.2
      have bx := bl_b x.2
      rw [show p + (lxB x.1).length + bl x.2 + ((0 : Nat) : Int) = p + (lxB x.1).length + bl x.2 by omega] at g
      rw [by_i (by omega) (by omega), g]
      exact ⟨fun q => by unfold isB at q; omega, fun y' S' q => by cases q; rfl⟩
  obtain ⟨⟨κ, v⟩, b⟩ := x
  cases b with
  | true =>
    have e32 := h2 rfl
    have e1 : bl true = 1 := rfl
    dsimp only at *
    rw [e1] at le nb ⊢
    have by32 : byT T L (p + (lxB (κ, v)).length) = 32 := by rw [by_i (by omega) (by omega)]; exact e32
    refine ⟨fun _ => Or.inl by32, ?_⟩
    have := enD_n (T := T) (L := L) (P := isB) 1 (p + (lxB (κ, v)).length) (by omega) (fun j hj => by rw [show j = 0 by omega, show p + (lxB (κ, v)).length + ((0 : Nat) : Int) = p + (lxB (κ, v)).length by omega, by32]; exact Or.inl rfl) nb.1
    exact this
  | false =>
    have e1 : bl false = 0 := rfl
    dsimp only at *
    rw [e1, Int.add_zero] at nb ⊢
    refine ⟨fun k4 => Or.inr ?_, enD_e nb.1⟩
    cases S with
    | nil => exact absurd a k4
    | cons y S =>
      rw [nb.2 y S rfl]
      have q : y.1.1 = 4 := by
        rcases a.2.1 with q | q | q
        · cases q
        · exact absurd q k4
        · exact q
      exact (lx_f (adj_ok (adj_t a))).2.2.2 q
/-- one token -/
theorem tx_step {x : lxT} {S : List lxT} {p : Int} (h : Tx T L p (x :: S)) (a : adj (x :: S)) (p0 : 0 ≤ p) :
    p < L ∧ tkK T L p = x.1.1 ∧ tkE T L p = p + (lxB x.1).length ∧ (x.1.1 = 2 → wN T L p (tkE T L p) = x.1.2) ∧ (x.1.1 = 3 → dv T p (tkE T L p - p).toNat = x.1.2) ∧ (x.1.1 = 1 → byT T L p - 97 = x.1.2 % 2 ∧ byT T L (p + 1) - 49 = x.1.2 / 2) := by
  obtain ⟨n1, -⟩ := tx_next h a p0
  obtain ⟨h1, h2, h3⟩ := h
  have le := Tx_le S _ h3
  have o := adj_ok a
  have f := lx_f o
  obtain ⟨⟨κ, v⟩, b⟩ := x
  have bb := bl_b b
  dsimp only at *
  have at_j : ∀ j : Nat, j < (lxB (κ, v)).length → byT T L (p + j) = (lxB (κ, v)).getD j 0 := fun j hj => by rw [by_i (by omega) (by omega)]; exact h1 j hj
  have at_0 : byT T L p = (lxB (κ, v)).getD 0 0 := by have := at_j 0 (by omega); rw [show p + ((0 : Nat) : Int) = p by omega] at this; exact this
  refine ⟨by omega, ?_⟩
  rcases o with ⟨e, a0, a1⟩ | ⟨e, a0, a1⟩ | ⟨e, a0, a1⟩ | e
  · have e' : κ = 1 := e
    subst e'
    have a0' : 0 ≤ v := a0
    have a1' : v < 4 := a1
    have c0 : byT T L p = 97 + v % 2 := at_0
    have c1 : byT T L (p + 1) = 49 + v / 2 := at_j 1 (Nat.lt_succ_self 1)
    have cc : isL (byT T L p) ∧ isD (byT T L (p + 1)) := ⟨by unfold isL; omega, by unfold isD; omega⟩
    unfold tkK tkE
    rw [if_pos cc, if_pos cc]
    exact ⟨rfl, rfl, fun q => absurd q (by decide), fun q => absurd q (by decide), fun _ => ⟨by omega, by omega⟩⟩
  · have e' : κ = 2 := e
    subst e'
    have a0' : 0 ≤ v := a0
    have a1' : v < 15 := a1
    have w := wd_ch v.toNat (by omega)
    have el : ((lxB (2, v)).length : Int) = txN v.toNat := by rw [lx2_l]; rfl
    have nn := n1 (by decide)
    have let' : ∀ j : Nat, j < txL.getD v.toNat 0 → byT T L (p + j) = txC v.toNat (j : Int) := fun j hj => by rw [at_j j (by rw [lx2_l]; exact hj), lx2_g hj]
    have lt0 : isL (byT T L p) := by have := let' 0 (by omega); rw [show p + ((0 : Nat) : Int) = p by omega] at this; rw [this]; have := w.2.2 0 (by omega); unfold isL; omega
    have lt1 : ¬ isD (byT T L (p + 1)) := by have := let' 1 (by omega); rw [show p + ((1 : Nat) : Int) = p + 1 by omega] at this; rw [this]; have := w.2.2 1 (by omega); unfold isD; omega
    have en : enD T L isL p = p + (lxB (2, v)).length := enD_n (lxB (2, v)).length p (by omega) (fun j hj => by rw [lx2_l] at hj; rw [let' j hj]; exact w.2.2 j hj) (fun q => by unfold isL at q; omega)
    have ek : tkE T L p = p + (lxB (2, v)).length := by unfold tkE; rw [if_neg (fun q => lt1 q.2), if_pos lt0, en]
    refine ⟨?_, ek, fun _ => ?_, fun q => absurd q (by decide), fun q => absurd q (by decide)⟩
    · unfold tkK
      have l7 : ((lxB (2, v)).length : Int) ≤ 7 := by rw [lx2_l]; omega
      rw [if_neg (fun q => lt1 q.2), if_pos lt0, en, if_neg (by omega)]
    · rw [ek]
      have r := wN_y (T := T) (L := L) (a := p) (e := p + (lxB (2, v)).length) (i := v.toNat) (by omega) ⟨by omega, fun x x0 x1 => ?_⟩
      · rw [r]; omega
      · have hx : x.toNat < txL.getD v.toNat 0 := by unfold txN at x1; omega
        have := let' x.toNat hx
        rw [Int.toNat_of_nonneg x0] at this
        exact this
  · have e' : κ = 3 := e
    subst e'
    have a0' : 0 ≤ v := a0
    have a1' : v ≤ 9 := a1
    have c0 : byT T L p = 48 + v := at_0
    have nn := n1 (by decide)
    have l1 : (lxB (3, v)).length = 1 := rfl
    have nl : ¬ isL (byT T L p) := by unfold isL; omega
    have dd : isD (byT T L p) := by unfold isD; omega
    rw [l1] at nn
    have en : enD T L isD p = p + ((1 : Nat) : Int) := enD_n 1 p (by rw [l1] at le; omega) (fun j hj => by rw [show j = 0 by omega, show p + ((0 : Nat) : Int) = p by omega]; exact dd) (fun q => by unfold isD at q; omega)
    have ek : tkE T L p = p + (lxB (3, v)).length := by unfold tkE; rw [if_neg (fun q => nl q.1), if_neg nl, if_pos dd, en, l1]
    refine ⟨?_, ek, fun q => absurd q (by decide), fun _ => ?_, fun q => absurd q (by decide)⟩
    · unfold tkK
      rw [if_neg (fun q => nl q.1), if_neg nl, if_pos dd, en, if_neg (by omega)]
    · rw [ek, l1, show (p + ((1 : Nat) : Int) - p).toNat = 1 by omega]
      show 10 * 0 + T (p + ((0 : Nat) : Int)) - 48 = v
      have := h1 0 (by omega)
      have z : (lxB (3, v)).getD 0 0 = 48 + v := rfl
      rw [z] at this
      rw [this]
      omega
  · have e' : κ = 4 := e
    subst e'
    have c0 : byT T L p = 59 := at_0
    have l1 : (lxB (4, v)).length = 1 := rfl
    have nl : ¬ isL (byT T L p) := by unfold isL; omega
    have nd : ¬ isD (byT T L p) := by unfold isD; omega
    have pl : p < L := by omega
    have ek : tkE T L p = p + (lxB (4, v)).length := by unfold tkE; rw [if_neg (fun q => nl q.1), if_neg nl, if_neg nd, if_pos pl]; rfl
    refine ⟨?_, ek, fun q => absurd q (by decide), fun q => absurd q (by decide), fun q => absurd q (by decide)⟩
    unfold tkK
    rw [if_neg (fun q => nl q.1), if_neg nl, if_neg nd, if_pos pl, if_pos c0]
/-- what the reader makes of a lexeme at a place -/
def lxK (T : Int → Int) (L p : Int) (x : Int × Int) : Prop := p < L ∧ tkK T L p = x.1 ∧ (x.1 = 2 → wN T L p (tkE T L p) = x.2) ∧ (x.1 = 3 → dv T p (tkE T L p - p).toNat = x.2) ∧ (x.1 = 1 → byT T L p - 97 = x.2 % 2 ∧ byT T L (p + 1) - 49 = x.2 / 2)
theorem tx_all : ∀ (S : List lxT) (p : Int) (i : Nat), 0 ≤ p → psT T L i = p → Tx T L p S → adj S → (∀ j : Nat, j < S.length → lxK T L (psT T L (i + j)) (S.getD j ((0, 0), false)).1) ∧ psT T L (i + S.length) = L := by
  intro S
  induction S with
  | nil => intro p i p0 e h _; exact ⟨fun j hj => absurd hj (Nat.not_lt_zero j), by have h' : p = L := h; show psT T L i = L; rw [e, h']⟩
  | cons x S ih =>
    intro p i p0 e h a
    obtain ⟨s1, s2, s3, s4, s5, s6⟩ := tx_step h a p0
    obtain ⟨-, n2⟩ := tx_next h a p0
    have bb := bl_b x.2
    have e2 : psT T L (i + 1) = p + (lxB x.1).length + bl x.2 := by show enD T L isB (tkE T L (psT T L i)) = _; rw [e, s3, n2]
    obtain ⟨r1, r2⟩ := ih _ (i + 1) (by omega) e2 h.2.2 (adj_t a)
    refine ⟨fun j hj => ?_, ?_⟩
    · cases j with
      | zero => show lxK T L (psT T L i) x.1; rw [e]; exact ⟨s1, s2, s4, s5, s6⟩
      | succ j =>
        have := r1 j (by have hj' : j + 1 < S.length + 1 := hj; omega)
        rw [show i + 1 + j = i + (j + 1) by omega] at this
        exact this
    · show psT T L (i + (S.length + 1)) = L
      rw [show i + (S.length + 1) = i + 1 + S.length by omega]
      exact r2
/-- a text's tokens -/
def KL (k : kT) (S : List lxT) : Prop := kZ k = S.length ∧ kK k S.length = 0 ∧ ∀ j : Nat, j < S.length → kK k j = (S.getD j ((0, 0), false)).1.1 ∧ ((S.getD j ((0, 0), false)).1.1 = 2 → kW k j = (S.getD j ((0, 0), false)).1.2) ∧ ((S.getD j ((0, 0), false)).1.1 = 3 → kV' k j = (S.getD j ((0, 0), false)).1.2) ∧ ((S.getD j ((0, 0), false)).1.1 = 1 → kC k j = (S.getD j ((0, 0), false)).1.2 % 2 ∧ kR k j = (S.getD j ((0, 0), false)).1.2 / 2)
theorem KL_of {x : lxT} {S : List lxT} (l0 : 0 ≤ L) (l1 : L ≤ 1600) (h : Tx T L 0 (x :: S)) (a : adj (x :: S)) : KL (kOf T L) (x :: S) := by
  have f := lx_f (adj_ok a)
  have s := tx_step h a (Int.le_refl 0)
  have b0 : ¬ isB (byT T L 0) := by
    have g := h.1 0 (by omega)
    rw [show (0 : Int) + ((0 : Nat) : Int) = 0 by omega] at g
    rw [by_i (Int.le_refl 0) s.1, g]
    intro q; unfold isB at q; omega
  have e0 : psT T L 0 = 0 := enD_e b0
  obtain ⟨r1, r2⟩ := tx_all (x :: S) 0 0 (Int.le_refl 0) e0 h a
  generalize hX : x :: S = X at *
  have n := nT_ok (T := T) l0 l1
  have en : nT T L = X.length := by
    have c1 : ¬ nT T L < X.length := fun q => by
      have := (r1 (nT T L).toNat (by omega)).1
      rw [Nat.zero_add, n.2.2.1] at this
      omega
    have c2 : ¬ (X.length : Int) < nT T L := fun q => by
      have := n.2.2.2 X.length (by omega) q
      rw [show ((X.length : Int)).toNat = X.length by omega, ← Nat.zero_add X.length, r2] at this
      omega
    omega
  refine ⟨en, ?_, fun j hj => ?_⟩
  · show tkK T L (psT T L ((X.length : Int)).toNat) = 0
    rw [show ((X.length : Int)).toNat = 0 + X.length by omega, r2]
    exact (tkE_e (by omega)).2
  · obtain ⟨k1, k2, k3, k4, k5⟩ := r1 j hj
    rw [Nat.zero_add] at k1 k2 k3 k4 k5
    have ej : ((j : Int)).toNat = j := by omega
    refine ⟨?_, fun q => ?_, fun q => ?_, fun q => ⟨?_, ?_⟩⟩
    · show tkK T L (psT T L ((j : Int)).toNat) = _; rw [ej]; exact k2
    · show wN T L (psT T L ((j : Int)).toNat) (tkE T L (psT T L ((j : Int)).toNat)) = _; rw [ej]; exact k3 q
    · show dv T (psT T L ((j : Int)).toNat) (tkE T L (psT T L ((j : Int)).toNat) - psT T L ((j : Int)).toNat).toNat = _; rw [ej]; exact k4 q
    · show byT T L (psT T L ((j : Int)).toNat) - 97 = _; rw [ej]; exact (k5 q).1
    · show byT T L (psT T L ((j : Int)).toNat + 1) - 49 = _; rw [ej]; exact (k5 q).2
end LXS
