/-! ===== numbers alone: sums, counts, rules ===== -/
noncomputable def b2 (p : Prop) : Int := @ite Int p (Classical.propDecidable p) 1 0
theorem b2_t {p : Prop} (h : p) : b2 p = 1 := if_pos h
theorem b2_f {p : Prop} (h : ¬ p) : b2 p = 0 := if_neg h
theorem b2_c {p q : Prop} (h : p ↔ q) : b2 p = b2 q := by rw [propext h]
theorem b2_or (p : Prop) : b2 p = 0 ∨ b2 p = 1 := by
  by_cases h : p
  · exact Or.inr (b2_t h)
  · exact Or.inl (b2_f h)
theorem b2_n {p : Prop} : b2 p = 0 ↔ ¬ p := ⟨fun e h => by rw [b2_t h] at e; exact absurd e (by decide), b2_f⟩
theorem b2_y {p : Prop} : b2 p = 1 ↔ p := ⟨fun e => Classical.byContradiction (fun h => by rw [b2_f h] at e; exact absurd e (by decide)), b2_t⟩
/-- at some place from x on -/
def exF (p : Int → Prop) (x n : Int) : Prop := ∃ i, x ≤ i ∧ i < n ∧ p i
theorem exF_e {p : Int → Prop} {x n : Int} (h : n ≤ x) : b2 (exF p x n) = 0 := b2_f (fun ⟨i, h1, h2, _⟩ => by omega)
theorem exF_h {p : Int → Prop} {x n : Int} (h : x < n) (hp : p x) : b2 (exF p x n) = 1 := b2_t ⟨x, Int.le_refl x, h, hp⟩
theorem exF_s {p : Int → Prop} {x n : Int} (hp : ¬ p x) : exF p x n ↔ exF p (x + 1) n := by
  refine ⟨fun ⟨i, h1, h2, h3⟩ => ⟨i, ?_, h2, h3⟩, fun ⟨i, h1, h2, h3⟩ => ⟨i, by omega, h2, h3⟩⟩
  by_cases e : i = x
  · subst e; exact absurd h3 hp
  · omega
theorem exF_m {p : Int → Prop} {x n : Int} (hp : ¬ p x) : b2 (exF p x n) = b2 (exF p (x + 1) n) := b2_c (exF_s hp)
theorem exF_cg {p q : Int → Prop} {x n : Int} (h : ∀ i, x ≤ i → i < n → (p i ↔ q i)) : exF p x n ↔ exF q x n :=
  ⟨fun ⟨i, h1, h2, h3⟩ => ⟨i, h1, h2, (h i h1 h2).mp h3⟩, fun ⟨i, h1, h2, h3⟩ => ⟨i, h1, h2, (h i h1 h2).mpr h3⟩⟩
/-- the sum from x on -/
def sF (f : Int → Int) (x n : Int) : Int := if x < n then f x + sF f (x + 1) n else 0
termination_by (n - x).toNat
theorem sF_e {f : Int → Int} {x n : Int} (h : n ≤ x) : sF f x n = 0 := by
  rw [sF]; exact if_neg (by omega)
theorem sF_s {f : Int → Int} {x n : Int} (h : x < n) : sF f x n = f x + sF f (x + 1) n := by
  rw [sF]; exact if_pos h
/-- induction from the end -/
theorem up_ind {P : Int → Prop} {n : Int} (h0 : ∀ x, n ≤ x → P x) (h1 : ∀ x, x < n → P (x + 1) → P x) (x : Int) : P x := by
  have L : ∀ (m : Nat) (x : Int), n - x < m → P x := by
    intro m
    induction m with
    | zero => intro x h; exact h0 x (by omega)
    | succ m ih =>
      intro x h
      by_cases c : n ≤ x
      · exact h0 x c
      · exact h1 x (by omega) (ih (x + 1) (by omega))
  exact L ((n - x).toNat + 1) x (by omega)
theorem sF_cg {f g : Int → Int} {n : Int} : ∀ x, (∀ i, x ≤ i → i < n → f i = g i) → sF f x n = sF g x n := by
  refine up_ind (n := n) (fun x h _ => by rw [sF_e h, sF_e h]) (fun x h ih hh => ?_)
  rw [sF_s h, sF_s h, hh x (Int.le_refl x) h, ih (fun i h1 h2 => hh i (by omega) h2)]
/-- how many from x on -/
noncomputable def cF (p : Int → Prop) (x n : Int) : Int := sF (fun i => b2 (p i)) x n
theorem cF_e {p : Int → Prop} {x n : Int} (h : n ≤ x) : cF p x n = 0 := sF_e h
theorem cF_t {p : Int → Prop} {x n : Int} (h : x < n) (hp : p x) : cF p x n = 1 + cF p (x + 1) n := by
  unfold cF; rw [sF_s h, b2_t hp]
theorem cF_f {p : Int → Prop} {x n : Int} (hp : ¬ p x) : cF p x n = cF p (x + 1) n := by
  unfold cF
  by_cases h : x < n
  · rw [sF_s h, b2_f hp]; omega
  · rw [sF_e (by omega), sF_e (by omega)]
theorem cF_cg {p q : Int → Prop} {x n : Int} (h : ∀ i, x ≤ i → i < n → (p i ↔ q i)) : cF p x n = cF q x n := sF_cg x (fun i h1 h2 => b2_c (h i h1 h2))
theorem cF_b {p : Int → Prop} {n : Int} : ∀ x, x ≤ n → 0 ≤ cF p x n ∧ cF p x n ≤ n - x := by
  refine up_ind (n := n) (fun x h h' => by rw [cF_e h]; omega) (fun x h ih h' => ?_)
  have := ih (by omega)
  by_cases hp : p x
  · rw [cF_t h hp]; omega
  · rw [cF_f hp]; omega
theorem cF_0 {p : Int → Prop} {n : Int} : ∀ x, (cF p x n = 0 ↔ ¬ exF p x n) := by
  refine up_ind (n := n) (fun x h => ?_) (fun x h ih => ?_)
  · rw [cF_e h]; exact ⟨fun _ => b2_n.mp (exF_e h), fun _ => rfl⟩
  · by_cases hp : p x
    · rw [cF_t h hp]
      have := (cF_b (p := p) (n := n) (x + 1) (by omega)).1
      exact ⟨fun e => by omega, fun e => (e ⟨x, Int.le_refl x, h, hp⟩).elim⟩
    · rw [cF_f hp, ih, exF_s hp]
/-- the product from x on -/
def pF (f : Int → Int) (x n : Int) : Int := if x < n then f x * pF f (x + 1) n else 1
termination_by (n - x).toNat
theorem pF_e {f : Int → Int} {x n : Int} (h : n ≤ x) : pF f x n = 1 := by
  rw [pF]; exact if_neg (by omega)
theorem pF_s {f : Int → Int} {x n : Int} (h : x < n) : pF f x n = f x * pF f (x + 1) n := by
  rw [pF]; exact if_pos h
theorem pF_cg {f g : Int → Int} {n : Int} : ∀ x, (∀ i, x ≤ i → i < n → f i = g i) → pF f x n = pF g x n := by
  refine up_ind (n := n) (fun x h _ => by rw [pF_e h, pF_e h]) (fun x h ih hh => ?_)
  rw [pF_s h, pF_s h, hh x (Int.le_refl x) h, ih (fun i h1 h2 => hh i (by omega) h2)]
/-- how many are greater than all before them -/
def vF (u : Int → Int) (n x t : Int) : Int := if x < n then (if t < u x then 1 + vF u n (x + 1) (u x) else vF u n (x + 1) t) else 0
termination_by (n - x).toNat
theorem vF_e {u : Int → Int} {n x t : Int} (h : n ≤ x) : vF u n x t = 0 := by
  rw [vF]; exact if_neg (by omega)
theorem vF_t {u : Int → Int} {n x t : Int} (h : x < n) (c : t < u x) : vF u n x t = 1 + vF u n (x + 1) (u x) := by
  rw [vF, if_pos h, if_pos c]
theorem vF_f {u : Int → Int} {n x t : Int} (h : x < n) (c : ¬ t < u x) : vF u n x t = vF u n (x + 1) t := by
  rw [vF, if_pos h, if_neg c]
theorem vF_cg {u v : Int → Int} {n : Int} : ∀ x, (∀ i, x ≤ i → i < n → u i = v i) → ∀ t, vF u n x t = vF v n x t := by
  refine up_ind (n := n) (fun x h _ t => by rw [vF_e h, vF_e h]) (fun x h ih hh t => ?_)
  have e := hh x (Int.le_refl x) h
  have i2 := ih (fun i h1 h2 => hh i (by omega) h2)
  by_cases c : t < u x
  · rw [vF_t h c, vF_t h (by rw [← e]; exact c), e, i2]
  · rw [vF_f h c, vF_f h (by rw [← e]; exact c), i2]
/-- two places, the one ahead of the other -/
def prF (P : Int → Int → Prop) (n : Int) : Prop := ∃ i j, 0 ≤ i ∧ i < j ∧ j < n ∧ P i j
theorem prF_cg {P P' : Int → Int → Prop} {n : Int} (h : ∀ i j, 0 ≤ i → i < j → j < n → (P i j ↔ P' i j)) : prF P n ↔ prF P' n :=
  ⟨fun ⟨i, j, h1, h2, h3, h4⟩ => ⟨i, j, h1, h2, h3, (h i j h1 h2 h3).mp h4⟩, fun ⟨i, j, h1, h2, h3, h4⟩ => ⟨i, j, h1, h2, h3, (h i j h1 h2 h3).mpr h4⟩⟩
theorem prF_1 {P : Int → Int → Prop} {n : Int} : prF P n ↔ exF (fun j => exF (fun i => P i j) 0 j) 1 n :=
  ⟨fun ⟨i, j, h1, h2, h3, h4⟩ => ⟨j, by omega, h3, i, h1, h2, h4⟩, fun ⟨j, _, h3, i, h1, h2, h4⟩ => ⟨i, j, h1, h2, h3, h4⟩⟩
theorem prF_2 {P : Int → Int → Prop} {n : Int} : prF P n ↔ exF (fun i => exF (fun j => P i j) (i + 1) n) 0 n :=
  ⟨fun ⟨i, j, h1, h2, h3, h4⟩ => ⟨i, h1, by omega, j, by omega, h3, h4⟩, fun ⟨i, h1, _, j, h2, h3, h4⟩ => ⟨i, j, h1, by omega, h3, h4⟩⟩
/-- what breaks a rule: its kind, its number, how often, its size, the highest value, what stands at its places -/
def brk (κ N T n h : Int) (u : Int → Int) : Prop :=
  (κ = 0 ∧ prF (fun i j => u i ≠ 0 ∧ u j ≠ 0 ∧ u i = u j) n) ∨
  (κ = 1 ∧ (N < sF u 0 n + cF (fun i => u i = 0) 0 n ∨ sF u 0 n + h * cF (fun i => u i = 0) 0 n < N)) ∨
  (κ = 2 ∧ (N % pF (fun i => imax 1 (u i)) 0 n ≠ 0 ∨ (¬ exF (fun i => u i = 0) 0 n ∧ pF (fun i => imax 1 (u i)) 0 n ≠ N))) ∨
  ((κ = 3 ∨ κ = 4) ∧ prF (fun i j => u i ≠ 0 ∧ u j ≠ 0 ∧ u j - u i < j - i) n) ∨
  (κ = 5 ∧ ¬ exF (fun i => u i = 0) 0 n ∧ vF u n 0 0 ≠ N) ∨
  (κ = 6 ∧ exF (fun i => u i ≠ 0 ∧ u i % 2 = 0) 0 n) ∨
  (κ = 7 ∧ exF (fun i => u i ≠ 0 ∧ u i % 2 = 1) 0 n) ∨
  (κ = 8 ∧ (T < cF (fun i => u i = N) 0 n ∨ cF (fun i => u i = N) 0 n + cF (fun i => u i = 0) 0 n < T)) ∨
  (κ = 9 ∧ exF (fun i => u i ≠ 0 ∧ u i ≠ N) 0 n) ∨
  (κ = 10 ∧ exF (fun i => u i ≠ 0 ∧ u (i + 1) ≠ 0 ∧ iabs (u i - u (i + 1)) < N) 0 (n - 1)) ∨
  (κ = 11 ∧ prF (fun i j => u i ≠ 0 ∧ u j ≠ 0 ∧ u i ≠ u j) n)
theorem brk_cg {κ N T n h : Int} {u v : Int → Int} (e : ∀ i, 0 ≤ i → i < n → u i = v i) : brk κ N T n h u ↔ brk κ N T n h v := by
  unfold brk
  rw [prF_cg (P := fun i j => u i ≠ 0 ∧ u j ≠ 0 ∧ u i = u j) (P' := fun i j => v i ≠ 0 ∧ v j ≠ 0 ∧ v i = v j) (fun i j h1 h2 h3 => by rw [e i h1 (by omega), e j (by omega) h3]),
    prF_cg (P := fun i j => u i ≠ 0 ∧ u j ≠ 0 ∧ u j - u i < j - i) (P' := fun i j => v i ≠ 0 ∧ v j ≠ 0 ∧ v j - v i < j - i) (fun i j h1 h2 h3 => by rw [e i h1 (by omega), e j (by omega) h3]),
    prF_cg (P := fun i j => u i ≠ 0 ∧ u j ≠ 0 ∧ u i ≠ u j) (P' := fun i j => v i ≠ 0 ∧ v j ≠ 0 ∧ v i ≠ v j) (fun i j h1 h2 h3 => by rw [e i h1 (by omega), e j (by omega) h3]),
    sF_cg (f := u) (g := v) 0 e, cF_cg (p := fun i => u i = 0) (q := fun i => v i = 0) (fun i h1 h2 => by rw [e i h1 h2]),
    cF_cg (p := fun i => u i = N) (q := fun i => v i = N) (fun i h1 h2 => by rw [e i h1 h2]),
    pF_cg (f := fun i => imax 1 (u i)) (g := fun i => imax 1 (v i)) 0 (fun i h1 h2 => by rw [e i h1 h2]),
    vF_cg (u := u) (v := v) 0 e 0,
    exF_cg (p := fun i => u i = 0) (q := fun i => v i = 0) (fun i h1 h2 => by rw [e i h1 h2]),
    exF_cg (p := fun i => u i ≠ 0 ∧ u i % 2 = 0) (q := fun i => v i ≠ 0 ∧ v i % 2 = 0) (fun i h1 h2 => by rw [e i h1 h2]),
    exF_cg (p := fun i => u i ≠ 0 ∧ u i % 2 = 1) (q := fun i => v i ≠ 0 ∧ v i % 2 = 1) (fun i h1 h2 => by rw [e i h1 h2]),
    exF_cg (p := fun i => u i ≠ 0 ∧ u i ≠ N) (q := fun i => v i ≠ 0 ∧ v i ≠ N) (fun i h1 h2 => by rw [e i h1 h2]),
    exF_cg (p := fun i => u i ≠ 0 ∧ u (i + 1) ≠ 0 ∧ iabs (u i - u (i + 1)) < N) (q := fun i => v i ≠ 0 ∧ v (i + 1) ≠ 0 ∧ iabs (v i - v (i + 1)) < N) (fun i h1 h2 => by rw [e i h1 (by omega), e (i + 1) (by omega) (by omega)])]
theorem exF_x {p : Int → Prop} {x n : Int} (h : n ≤ x) : ¬ exF p x n := fun ⟨i, h1, h2, _⟩ => by omega
theorem exF_i {p : Int → Prop} {x n : Int} (h : x < n) (hp : p x) : exF p x n := ⟨x, Int.le_refl x, h, hp⟩
theorem b2_q {Q : Int → Prop} {p : Prop} (h : Q (b2 p)) : (p → Q 1) ∧ (¬ p → Q 0) :=
  ⟨fun c => by rw [b2_t c] at h; exact h, fun c => by rw [b2_f c] at h; exact h⟩
theorem mul5 {a z : Int} (h0 : 0 ≤ a) (h1 : a ≤ 5) (h2 : 0 ≤ z) (h3 : z ≤ 5) : 0 ≤ a * z ∧ a * z ≤ 25 := by
  refine ⟨Int.mul_nonneg h0 h2, ?_⟩
  have := Int.mul_le_mul h1 h3 h2 (by decide)
  omega
theorem pF_p {f : Int → Int} {n : Int} (h : ∀ i, 1 ≤ f i) : ∀ x, 1 ≤ pF f x n := by
  refine up_ind (n := n) (fun x c => by rw [pF_e c]; decide) (fun x c ih => ?_)
  rw [pF_s c]
  have := Int.mul_le_mul (h x) ih (by decide) (by have := h x; omega)
  omega
theorem pF_u {f : Int → Int} {n : Int} (h : ∀ i, 1 ≤ f i) : ∀ x, (∀ i, x ≤ i → i < n → f i ≤ 5) → ∀ k : Nat, n - x ≤ k → pF f x n ≤ 5 ^ k := by
  refine up_ind (n := n) (fun x c _ k hk => ?_) (fun x c ih hh k hk => ?_)
  · rw [pF_e c]
    have : (0 : Int) < 5 ^ k := Int.pow_pos (by decide)
    omega
  · rw [pF_s c]
    cases k with
    | zero => omega
    | succ k =>
      have i2 := ih (fun i h1 h2 => hh i (by omega) h2) k (by omega)
      have i3 := Int.mul_le_mul (hh x (Int.le_refl x) c) i2 (by have := pF_p (f := f) (n := n) h (x + 1); omega) (by decide)
      rw [Int.pow_succ, Int.mul_comm]
      rw [Int.mul_comm] at i3
      rw [Int.mul_comm (5 ^ k) 5]
      rw [Int.mul_comm] at i3
      rw [Int.mul_comm]
      exact i3
theorem le_mulr {a b c : Int} (h0 : 0 ≤ a) (h1 : 1 ≤ b) (h : a * b = c) : a ≤ c := by
  have := Int.mul_le_mul_of_nonneg_left h1 h0
  omega
