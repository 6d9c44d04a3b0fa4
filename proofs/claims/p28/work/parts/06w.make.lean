/-! ===== make ===== -/
/-- what is kept of solutions is values -/
def gK (s : sT) : Prop := ∀ i c, 0 ≤ i → i < s.2.2.1 → 0 ≤ c → c < 25 → 0 ≤ s.2.2.2 i c ∧ s.2.2.2 i c ≤ 5
theorem dlp_k {P : sP} (hP : goP P) {c : Int} (h0 : 0 ≤ c) (h1 : c < 25) {rec : sT → Int × sT} (hr : ∀ s, gS P s → oR P (rec s)) (hk : ∀ s, gS P s → gK s → gK (rec s).2) : ∀ (k : Nat) (t : Int) (s : sT), gS P s → gK s → 0 ≤ t → t + k = chs P c → gK (dlp (P.2.2.2.2 c) (vls P c) c rec k t s).2 := by
  intro k
  induction k with
  | zero => intro t s hs hk t0 t1; rw [dlp_0]; exact hk
  | succ k ih =>
    intro t s hs hks t0 t1
    by_cases g : 5000 ≤ s.2.1
    · rw [dlp_g g]; exact hks
    · have hv := vls_b hP h0 h1 t0 (by omega)
      have hs1 := gS_up (c := c) hs (x := vls P c t) ⟨by omega, by have := hP.2.2.2.1; omega⟩ g
      have hk1 : gK (upF s.1 c (vls P c t), s.2.1 + 1, s.2.2) := hks
      by_cases b : P.2.2.2.2 c (upF s.1 c (vls P c t))
      · rw [dlp_b g b]; exact ih _ _ hs1 hk1 (by omega) (by omega)
      · by_cases r : (rec (upF s.1 c (vls P c t), s.2.1 + 1, s.2.2)).1 = 0
        · rw [dlp_c g b r]
          refine ih _ _ ?_ (hk _ hs1 hk1) (by omega) (by omega)
          rcases hr _ hs1 with o | o | o
          · exact o.2
          · omega
          · omega
        · rw [dlp_x g b r]; exact hk _ hs1 hk1
theorem dfs_k {P : sP} (hP : goP P) : ∀ (d : Nat) (c : Int) (s : sT), 0 ≤ c → c + d ≤ 25 → gS P s → gK s → gK (dfs P d c s).2 := by
  intro d
  induction d with
  | zero =>
    intro c s h0 h1 hs hk i y i0 i1 y0 y1
    show 0 ≤ (if i = s.2.2.1 then s.1 else s.2.2.2 i) y ∧ (if i = s.2.2.1 then s.1 else s.2.2.2 i) y ≤ 5
    have i1' : i < s.2.2.1 + 1 := i1
    split
    · exact hs.1 y y0 y1
    · exact hk i y i0 (by omega) y0 y1
  | succ d ih =>
    intro c s h0 h1 hs hk
    have := chs_b hP c
    exact dlp_k hP h0 (by omega) (fun s hs => dfs_ok hP d (c + 1) s (by omega) (by omega) hs) (fun s hs hk => ih (c + 1) s (by omega) (by omega) hs hk) _ _ _ hs hk (by omega) (by omega)
/-! numbers that are drawn -/
def dw (s : Int) : Int := (s * 1103 + 12345) % 65536
def dit (s : Int) : Nat → Int
  | 0 => s
  | n + 1 => dw (dit s n)
theorem dw_b (s : Int) : 0 ≤ dw s ∧ dw s < 65536 := by unfold dw; omega
theorem dit_b {s : Int} (h0 : 0 ≤ s) (h1 : s < 65536) : ∀ n, 0 ≤ dit s n ∧ dit s n < 65536 := by
  intro n
  cases n with
  | zero => exact ⟨h0, h1⟩
  | succ n => exact dw_b _
section DW
variable {I : cI} {R : cR} {J : cI}
theorem c_draw {s : Int} {Q : Int → cI → cR → Prop} (e : I 83 1 = s) (h0 : 0 ≤ s) (h1 : s < 65536) (hQ : ∀ I', (∀ b x, ¬ (b = 83 ∧ x = 1) → I' b x = I b x) → I' 83 1 = dw s → Q (dw s / 16) I' R) : wX2_draw I R Q := by
  have hd := dw_b s
  unfold wX2_draw
  rw [e]
  refine ⟨by unfold inR; omega, by omega, by unfold inR; omega, fun I4 e4 => ?_⟩
  have e41 : I4 83 1 = dw s := by subst e4; exact u2e
  rw [e41]
  exact ⟨hd.1, by unfold inR; omega, hQ I4 (fun b x q => by subst e4; exact u2n q) e41⟩
end DW
/-! the rules that are no givens -/
noncomputable def fl (ρ : Int → Int → Int) : Nat → Int × (Int → Int → Int)
  | 0 => (0, fun _ _ => 0)
  | x + 1 => if ρ (x : Int) 0 = 9 then fl ρ x else ((fl ρ x).1 + 1, fun i => if i = (fl ρ x).1 then ρ (x : Int) else (fl ρ x).2 i)
section FL
variable {ρ : Int → Int → Int}
theorem fl_9 {x : Nat} (h : ρ x 0 = 9) : fl ρ (x + 1) = fl ρ x := if_pos h
theorem fl_n {x : Nat} (h : ¬ ρ x 0 = 9) : fl ρ (x + 1) = ((fl ρ x).1 + 1, fun i => if i = (fl ρ x).1 then ρ (x : Int) else (fl ρ x).2 i) := if_neg h
theorem fl_b : ∀ x : Nat, 0 ≤ (fl ρ x).1 ∧ (fl ρ x).1 ≤ x := by
  intro x
  induction x with
  | zero => exact ⟨Int.le_refl 0, Int.le_refl 0⟩
  | succ x ih =>
    by_cases h : ρ (x : Int) 0 = 9
    · rw [fl_9 h]; omega
    · rw [fl_n h]; show 0 ≤ (fl ρ x).1 + 1 ∧ (fl ρ x).1 + 1 ≤ ((x + 1 : Nat) : Int); omega
theorem fl_st (x : Nat) : ∀ k : Nat, (fl ρ x).1 ≤ (fl ρ (x + k)).1 ∧ ∀ i, i < (fl ρ x).1 → (fl ρ (x + k)).2 i = (fl ρ x).2 i := by
  intro k
  induction k with
  | zero => exact ⟨Int.le_refl _, fun _ _ => rfl⟩
  | succ k ih =>
    have e : x + (k + 1) = x + k + 1 := by omega
    rw [e]
    by_cases h : ρ ((x + k : Nat) : Int) 0 = 9
    · rw [fl_9 h]; exact ih
    · rw [fl_n h]
      refine ⟨by show (fl ρ x).1 ≤ (fl ρ (x + k)).1 + 1; omega, fun i hi => ?_⟩
      show (if i = (fl ρ (x + k)).1 then ρ ((x + k : Nat) : Int) else (fl ρ (x + k)).2 i) = _
      rw [if_neg (by omega)]; exact ih.2 i hi
theorem fl_up (x : Nat) : ∀ k : Nat, (fl ρ (x + k)).1 ≤ (fl ρ x).1 + k := by
  intro k
  induction k with
  | zero => show (fl ρ x).1 ≤ (fl ρ x).1 + ((0 : Nat) : Int); omega
  | succ k ih =>
    have e : x + (k + 1) = x + k + 1 := by omega
    rw [e]
    by_cases h : ρ ((x + k : Nat) : Int) 0 = 9
    · rw [fl_9 h]; omega
    · rw [fl_n h]; show (fl ρ (x + k)).1 + 1 ≤ (fl ρ x).1 + ((k + 1 : Nat) : Int); omega
theorem fl_at {x y : Nat} (h : x < y) (h9 : ¬ ρ x 0 = 9) : (fl ρ y).2 (fl ρ x).1 = ρ x := by
  have e := fl_st (ρ := ρ) (x + 1) (y - (x + 1))
  rw [show x + 1 + (y - (x + 1)) = y by omega] at e
  rw [e.2 _ (by rw [fl_n h9]; show (fl ρ x).1 < (fl ρ x).1 + 1; omega), fl_n h9]
  exact if_pos rfl
theorem fl_gp {m n : Int} (g : gp m n ρ) : ∀ x : Nat, (x : Int) ≤ n → ∀ i, 0 ≤ i → i < (fl ρ x).1 → gr m ((fl ρ x).2 i) ∧ ¬ (fl ρ x).2 i 0 = 9 := by
  intro x
  induction x with
  | zero => intro _ i i0 i1; exact absurd (show i < 0 from i1) (by omega)
  | succ x ih =>
    intro hx i i0 i1
    by_cases h : ρ (x : Int) 0 = 9
    · rw [fl_9 h] at i1 ⊢; exact ih (by omega) i i0 i1
    · rw [fl_n h] at i1 ⊢
      have i2 : i < (fl ρ x).1 + 1 := i1
      show gr m (if i = (fl ρ x).1 then ρ (x : Int) else (fl ρ x).2 i) ∧ ¬ (if i = (fl ρ x).1 then ρ (x : Int) else (fl ρ x).2 i) 0 = 9
      by_cases ei : i = (fl ρ x).1
      · simp only [if_pos ei]; exact ⟨g x (by omega) (by omega), h⟩
      · simp only [if_neg ei]; exact ih (by omega) i i0 (by omega)
theorem fl_c : ∀ x : Nat, (fl ρ x).1 = cF (fun i => ¬ ρ i 0 = 9) 0 x := by
  intro x
  induction x with
  | zero => rw [cF_e (by show ((0 : Nat) : Int) ≤ 0; omega)]; rfl
  | succ x ih =>
    have e : cF (fun i => ¬ ρ i 0 = 9) 0 ((x + 1 : Nat) : Int) = cF (fun i => ¬ ρ i 0 = 9) 0 x + b2 (¬ ρ (x : Int) 0 = 9) := by
      unfold cF
      rw [sF_split (n := ((x + 1 : Nat) : Int)) (r := (x : Int)) (by omega) 0 (by omega), sF_s (x := (x : Int)) (by omega), sF_e (x := (x : Int) + 1) (by omega)]
      dsimp only
      omega
    rw [e, ← ih]
    by_cases h : ρ (x : Int) 0 = 9
    · rw [fl_9 h, b2_f (fun w => w h)]; omega
    · rw [fl_n h, b2_t h]
end FL
theorem pv_cg {I : cI} {R : cR} {p : Nat} {n : Int} {ρ σ : Int → Int → Int} (e : ∀ i, 0 ≤ i → i < n → ρ i = σ i) (h : pv I R p n ρ) : pv I R p n σ := fun i i0 i1 => by rw [← e i i0 i1]; exact h i i0 i1
/-- a given -/
def gvn (c v : Int) : Int → Int := fun t => if t = 0 then 9 else if t = 1 then v else if t = 2 then 0 else if t = 3 then 1 else if t = 4 then c else 0
theorem gvn_gr {c v m : Int} (c0 : 0 ≤ c) (c1 : c < m) (v0 : 0 ≤ v) (v1 : v ≤ 9) : gr m (gvn c v) := by
  have e0 : gvn c v 0 = 9 := rfl
  have e1 : gvn c v 1 = v := rfl
  have e2 : gvn c v 2 = 0 := rfl
  have e3 : gvn c v 3 = 1 := rfl
  unfold gr
  rw [e0, e1, e2, e3]
  refine ⟨by decide, by decide, v0, by omega, by decide, by decide, by decide, by decide, fun w => absurd w (by decide), fun w => absurd w (by decide), fun _ => ⟨rfl, v1⟩, fun i i0 i1 => ?_, fun i j i0 i1 j0 j1 _ => by omega⟩
  have ei : i = 0 := by omega
  subst ei
  exact ⟨c0, c1⟩
def fam (σ : Int → Int → Int) (f : Int) (s : Int → Int) : Int → Int → Int := fun i => if i < f then σ i else gvn (i - f) (s (i - f))
/-! the search for the given of a cell, in numbers -/
noncomputable def fnI (p : Int → Prop) : Nat → Int → Int
  | 0, x => x
  | m + 1, x => @ite _ (p x) (Classical.propDecidable _) x (fnI p m (x + 1))
theorem fnI_ok {p : Int → Prop} : ∀ (m : Nat) (x r : Int), x ≤ r → r < x + m → p r → x ≤ fnI p m x ∧ fnI p m x < x + m ∧ p (fnI p m x) ∧ ∀ i, x ≤ i → i < fnI p m x → ¬ p i := by
  intro m
  induction m with
  | zero => intro x r r0 r1; omega
  | succ m ih =>
    intro x r r0 r1 hr
    by_cases h : p x
    · have e : fnI p (m + 1) x = x := if_pos h
      rw [e]; exact ⟨Int.le_refl x, by omega, h, fun i i0 i1 => by omega⟩
    · have e : fnI p (m + 1) x = fnI p m (x + 1) := if_neg h
      rw [e]
      have hx : r ≠ x := fun w => h (w ▸ hr)
      have k := ih (x + 1) r (by omega) (by omega) hr
      refine ⟨by omega, by omega, k.2.2.1, fun i i0 i1 => ?_⟩
      by_cases ei : i = x
      · subst ei; exact h
      · exact k.2.2.2 i (by omega) i1
abbrev tS : Type := Int × (Int → Int → Int)
noncomputable def thI (f c : Int) (s : tS) : Int := fnI (fun i => s.2 i 4 = c) (s.1 - f).toNat f
noncomputable def thS (M h f c : Int) (s : tS) : tS := @ite _ (jst M s.1 h (thI f c s) s.2) (Classical.propDecidable _) (s.1 - 1, dr (thI f c s) s.2) s
noncomputable def thn (M h f : Int) : Nat → Int → tS → tS
  | 0, _, s => s
  | k + 1, c, s => thn M h f k ((c + 7) % M) (thS M h f c s)
/-- so many cells still have their turn -/
def TI (M f : Int) (k : Nat) (c : Int) (s : tS) : Prop := 0 ≤ f ∧ f ≤ s.1 ∧ s.1 ≤ 65 ∧ gp M s.1 s.2 ∧ (∀ i, 0 ≤ i → i < f → ¬ s.2 i 0 = 9) ∧ (∀ i, f ≤ i → i < s.1 → s.2 i 0 = 9 ∧ s.2 i 3 = 1) ∧ (∀ i j, f ≤ i → i < s.1 → f ≤ j → j < s.1 → s.2 i 4 = s.2 j 4 → i = j) ∧ (∀ i : Int, 0 ≤ i → i < k → ∃ r, f ≤ r ∧ r < s.1 ∧ s.2 r 4 = (c + 7 * i) % M) ∧ 0 ≤ c ∧ c < M ∧ (k : Int) ≤ M
/-- the numbers of cells that a grid can have -/
def okM (M : Int) : Prop := M = 4 ∨ M = 6 ∨ M = 8 ∨ M = 10 ∨ M = 9 ∨ M = 12 ∨ M = 15 ∨ M = 16 ∨ M = 20 ∨ M = 25
theorem okM_b {M : Int} (h : okM M) : 4 ≤ M ∧ M ≤ 25 := by unfold okM at h; omega
theorem okM_w {w h : Int} (w0 : 2 ≤ w) (w1 : w ≤ 5) (h0 : 2 ≤ h) (h1 : h ≤ 5) : okM (w * h) := by
  have ew : w = 2 ∨ w = 3 ∨ w = 4 ∨ w = 5 := by omega
  have eh : h = 2 ∨ h = 3 ∨ h = 4 ∨ h = 5 := by omega
  unfold okM
  rcases ew with rfl | rfl | rfl | rfl <;> rcases eh with rfl | rfl | rfl | rfl <;> decide
theorem visit {M c i : Int} (h : okM M) (c0 : 0 ≤ c) (c1 : c < M) (i0 : 0 ≤ i) (i1 : i + 1 < M) : ((c + 7) % M + 7 * i) % M ≠ c := by
  intro e
  unfold okM at h
  rcases h with rfl | rfl | rfl | rfl | rfl | rfl | rfl | rfl | rfl | rfl <;> omega
theorem visit2 {M c i : Int} (h : okM M) : ((c + 7) % M + 7 * i) % M = (c + 7 * (i + 1)) % M := by
  rw [Int.emod_add_emod]
  congr 1
  omega
theorem TI_r {M f c : Int} {k : Nat} {s : tS} (h : TI M f (k + 1) c s) : f ≤ thI f c s ∧ thI f c s < s.1 ∧ s.2 (thI f c s) 4 = c ∧ ∀ i, f ≤ i → i < s.1 → s.2 i 4 = c → i = thI f c s := by
  obtain ⟨h1, h2, h3, h4, h5, h6, h7, h8, h9, h10, h11⟩ := h
  obtain ⟨r, r0, r1, r2⟩ := h8 0 (Int.le_refl 0) (by omega)
  rw [Int.mul_zero, Int.add_zero, Int.emod_eq_of_lt h9 h10] at r2
  have k := fnI_ok (p := fun i => s.2 i 4 = c) (s.1 - f).toNat f r r0 (by omega) r2
  have e : fnI (fun i => s.2 i 4 = c) (s.1 - f).toNat f = thI f c s := rfl
  rw [e] at k
  exact ⟨k.1, by omega, k.2.2.1, fun i i0 i1 q => h7 i _ i0 i1 k.1 (by omega) (q.trans k.2.2.1.symm)⟩
theorem TI_s {M h f c : Int} {k : Nat} {s : tS} (hM : okM M) (hT : TI M f (k + 1) c s) : TI M f k ((c + 7) % M) (thS M h f c s) := by
  have hb := okM_b hM
  have hr := TI_r hT
  obtain ⟨h1, h2, h3, h4, h5, h6, h7, h8, h9, h10, h11⟩ := hT
  have m0 := Int.emod_nonneg (c + 7) (show M ≠ 0 by omega)
  have m1 := Int.emod_lt_of_pos (c + 7) (show 0 < M by omega)
  generalize hr' : thI f c s = r at hr
  have pre : ∀ i : Int, 0 ≤ i → i < k → ∃ r', f ≤ r' ∧ r' < s.1 ∧ s.2 r' 4 = ((c + 7) % M + 7 * i) % M := fun i i0 i1 => by
    obtain ⟨r', a, b, e⟩ := h8 (i + 1) (by omega) (by omega)
    exact ⟨r', a, b, by rw [e, visit2 hM]⟩
  unfold thS
  rw [hr']
  by_cases b : jst M s.1 h r s.2
  · rw [if_pos b]
    have at0 : ∀ i, i < r → dr r s.2 i = s.2 i := fun i q => if_pos q
    have at1 : ∀ i, r ≤ i → dr r s.2 i = s.2 (i + 1) := fun i q => if_neg (by omega)
    refine ⟨h1, by show f ≤ s.1 - 1; omega, by show s.1 - 1 ≤ 65; omega, dr_gp (by omega) h4, fun i i0 i1 => ?_, fun i i0 i1 => ?_, fun i j i0 i1 j0 j1 q => ?_, fun i i0 i1 => ?_, m0, m1, by omega⟩
    · show ¬ dr r s.2 i 0 = 9; rw [at0 i (by omega)]; exact h5 i i0 i1
    · have i1' : i < s.1 - 1 := i1
      show dr r s.2 i 0 = 9 ∧ dr r s.2 i 3 = 1
      by_cases q : i < r
      · rw [at0 i q]; exact h6 i i0 (by omega)
      · rw [at1 i (by omega)]; exact h6 (i + 1) (by omega) (by omega)
    · have i1' : i < s.1 - 1 := i1
      have j1' : j < s.1 - 1 := j1
      have q' : dr r s.2 i 4 = dr r s.2 j 4 := q
      by_cases qi : i < r
      · by_cases qj : j < r
        · rw [at0 i qi, at0 j qj] at q'; exact h7 i j i0 (by omega) j0 (by omega) q'
        · rw [at0 i qi, at1 j (by omega)] at q'; have := h7 i (j + 1) i0 (by omega) (by omega) (by omega) q'; omega
      · by_cases qj : j < r
        · rw [at1 i (by omega), at0 j qj] at q'; have := h7 (i + 1) j (by omega) (by omega) j0 (by omega) q'; omega
        · rw [at1 i (by omega), at1 j (by omega)] at q'; have := h7 (i + 1) (j + 1) (by omega) (by omega) (by omega) (by omega) q'; omega
    · obtain ⟨r', a, b', e⟩ := pre i i0 i1
      have hv := visit (i := i) hM h9 h10 i0 (by omega)
      have ne : r' ≠ r := fun w => by rw [w, hr.2.2.1] at e; exact hv e.symm
      by_cases q : r' < r
      · exact ⟨r', a, by show r' < s.1 - 1; omega, by show dr r s.2 r' 4 = _; rw [at0 r' q]; exact e⟩
      · exact ⟨r' - 1, by omega, by show r' - 1 < s.1 - 1; omega, by show dr r s.2 (r' - 1) 4 = _; rw [at1 _ (by omega), show r' - 1 + 1 = r' by omega]; exact e⟩
  · rw [if_neg b]
    exact ⟨h1, h2, h3, h4, h5, h6, h7, pre, m0, m1, by omega⟩
theorem TI_n {M h f : Int} (hM : okM M) : ∀ (k : Nat) (c : Int) (s : tS), TI M f k c s → ∃ c', TI M f 0 c' (thn M h f k c s) ∧ (thn M h f k c s).1 ≤ s.1 := by
  intro k
  induction k with
  | zero => intro c s hs; exact ⟨c, hs, Int.le_refl _⟩
  | succ k ih =>
    intro c s hs
    obtain ⟨c', h1, h2⟩ := ih _ _ (TI_s (h := h) hM hs)
    refine ⟨c', h1, Int.le_trans h2 ?_⟩
    unfold thS
    split
    · show s.1 - 1 ≤ s.1; omega
    · exact Int.le_refl _
theorem am_e {m n k c wo : Int} {ρ σ : Int → Int → Int} {v : Int → Int} (g : gp m n ρ) (e : ∀ i, 0 ≤ i → i < n → e9 (ρ i) (σ i)) : am ρ n k c v wo ↔ am σ n k c v wo := by
  unfold am
  refine exF_cg (fun i i0 i1 => ?_)
  have gi := g i i0 i1
  have ei := e i i0 i1
  have n5 := gi.2.2.2.2.2.2.2.1
  have e3 := e9_3 ei
  rw [rl_br gi ei]
  have hh : hc (ρ i) c ↔ hc (σ i) c := by
    unfold hc
    exact ⟨fun ⟨j, j0, j1, q⟩ => ⟨j, j0, by omega, by rw [← ei (4 + j) (by omega) (by omega) (by omega)]; exact q⟩, fun ⟨j, j0, j1, q⟩ => ⟨j, j0, by omega, by rw [ei (4 + j) (by omega) (by omega) (by omega)]; exact q⟩⟩
  rw [hh]
section MK
variable {I : cI} {R : cR} {J : cI}
/-- the class copies what is no given -/
theorem c_copyW {p a : Nat} {w h k n m : Int} {ρ : Int → Int → Int} {Q : cI → cR → Prop} (hp : okp R p) (ha : okp R a) (hne : p ≠ a) (ew : I a 0 = w) (eh : I a 1 = h) (ek : I a 2 = k) (e5 : I a 5 = n) (n0 : 0 ≤ n) (n1 : n ≤ 65) (hm : m ≤ 25) (hv : pv I R a n ρ) (hg : gp m n ρ)
    (hQ : ∀ I' R', okp R' p → okp R' a → R' 0 = R 0 → (∀ b x, b < 85 ∨ b = a ∨ b = a + 1 → I' b x = I b x) → I' p 0 = w → I' p 1 = h → I' p 2 = k → I' p 5 = (fl ρ n.toNat).1 → pv I' R' p (fl ρ n.toNat).1 (fl ρ n.toNat).2 → pv I' R' a n ρ → (∀ c, 0 ≤ c → c < 25 → I' (p + 1) c = 0) → Q I' R') : wX4_becomeCopyWithoutGivens p a I R Q := by
  have hp' : p = 85 ∨ p = 89 := hp.1
  have ha' : a = 85 ∨ a = 89 := ha.1
  unfold wX4_becomeCopyWithoutGivens
  rw [ew, eh, ek]
  intro I1 e1 I2 e2 I3 e3 I5 e5'
  refine c_empty (fun I4 z1 z2 => ⟨66, ?_⟩)
  have L : ∀ (m' : Nat) (x : Nat) (I' : cI) (R' : cR), (x : Int) ≤ n → n - x < m' → okp R' p → okp R' a → R' 0 = R 0 → (∀ b y, b < 85 ∨ b = a ∨ b = a + 1 → I' b y = I b y) → I' p 0 = w → I' p 1 = h → I' p 2 = k → I' p 5 = (fl ρ x).1 → pv I' R' p (fl ρ x).1 (fl ρ x).2 → pv I' R' a n ρ → (∀ c, 0 ≤ c → c < 25 → I' (p + 1) c = 0) → wX4_becomeCopyWithoutGivens_18 Q p a m' x I' R' := by
    intro m'
    induction m' with
    | zero => intro x I' R' x0 x1; omega
    | succ m' ih =>
      intro x I' R' x0 x1 op oa r0 f1 q0 q1 q2 q5 vp va qz
      show wbX4_becomeCopyWithoutGivens_18 Q p a (wX4_becomeCopyWithoutGivens_18 Q p a m') x I' R'
      unfold wbX4_becomeCopyWithoutGivens_18
      rw [f1 a 5 (Or.inr (Or.inl rfl)), e5]
      refine ⟨fun c => ?_, fun c => ⟨by omega, fun g9 => ⟨by unfold inR; omega, fun z hz => ?_⟩, fun g9 => ?_⟩⟩
      · have ex : x = n.toNat := by omega
        subst ex
        exact hQ I' R' op oa r0 f1 q0 q1 q2 q5 vp va qz
      · have h9 : ρ (x : Int) 0 = 9 := by
          have := (va x (by omega) (by omega)).1
          rw [g9] at this; exact this.symm
        have ez : z = ((x + 1 : Nat) : Int) := by omega
        rw [ez]
        exact ih (x + 1) I' R' (by omega) (by omega) op oa r0 f1 q0 q1 q2 (by rw [fl_9 h9]; exact q5) (by rw [fl_9 h9]; exact vp) va qz
      · have vx := va x (by omega) (by omega)
        have h9 : ¬ ρ (x : Int) 0 = 9 := fun w => g9 (by
          have := vx.1
          rw [w] at this
          have t : ((R' (R' (a + 2) x) 0 : Nat) : Int) = 9 := this
          omega)
        have gx := hg x (by omega) (by omega)
        have fb := fl_b (ρ := ρ) x
        have ra := rg_R (oa.2.1 x (by omega) (by omega))
        have rp := rg_R (op.2.1 (fl ρ x).1 fb.1 (by omega))
        have a1 := op.2.1 (fl ρ x).1 fb.1 (by omega)
        have a2 := oa.2.1 x (by omega) (by omega)
        have nr : R' (p + 2) (fl ρ x).1 ≠ R' (a + 2) x := by unfold rg at a1 a2; omega
        have ra' : 93 ≤ R' (a + 2) x ∧ R' (a + 2) x < 223 := ra
        have rp' : 93 ≤ R' (p + 2) (fl ρ x).1 ∧ R' (p + 2) (fl ρ x).1 < 223 := rp
        refine c_addRule op q5 fb.1 (by omega) (fun I3 R4 g1 g2 g3 g4 g5 g6 g7 g8 => ?_)
        have ea : R4 (a + 2) x = R' (a + 2) x := g2 _ _ (by omega)
        have v4 : rv I3 R4 (R' (a + 2) x) (ρ x) := rv_fr2 ra rp (Ne.symm nr) (fun b y z1 z2 z3 => g1 b y z2 (by omega)) g2 vx
        refine c_takeParts gx hm rp ra nr (by rw [g3]; exact vx.1) g7 g8 v4 (fun I9 f9 v9 => ⟨by unfold inR; omega, fun z hz => ?_⟩)
        have ez : z = ((x + 1 : Nat) : Int) := by omega
        rw [ez]
        have F : ∀ b y, b ≠ R' (p + 2) (fl ρ x).1 → b ≠ R' (p + 2) (fl ρ x).1 + 130 → ¬ (b = p ∧ y = 5) → I9 b y = I' b y := fun b y z1 z2 z3 => by rw [f9 b y z1 z2]; exact g1 b y z1 z3
        refine ih (x + 1) I9 R4 (by omega) (by omega) (okp_fr op (fun j => g2 _ _ (by omega))) (okp_fr oa (fun j => g2 _ _ (by omega))) ?_ (fun b y z => by rw [F b y (by omega) (by omega) (by omega)]; exact f1 b y z) ?_ ?_ ?_ ?_ ?_ ?_ (fun c c0 c1 => by rw [F _ _ (by omega) (by omega) (by omega)]; exact qz c c0 c1)
        · rw [← r0]; funext y; exact g2 _ _ (by omega)
        · rw [F _ _ (by omega) (by omega) (by omega)]; exact q0
        · rw [F _ _ (by omega) (by omega) (by omega)]; exact q1
        · rw [F _ _ (by omega) (by omega) (by omega)]; exact q2
        · rw [f9 _ _ (by omega) (by omega), fl_n h9]; exact g4
        · rw [fl_n h9]
          refine pv_add op fb.1 (by omega) (fun b y z1 z2 z3 => F b y z2 z3 (by omega)) g2 (pv_cg (fun i i0 i1 => ?_) vp) ?_
          · show (fl ρ x).2 i = if i = (fl ρ x).1 then ρ (x : Int) else (fl ρ x).2 i
            rw [if_neg (by omega)]
          · show rv I9 R4 (R' (p + 2) (fl ρ x).1) (if (fl ρ x).1 = (fl ρ x).1 then ρ (x : Int) else (fl ρ x).2 (fl ρ x).1)
            rw [if_pos rfl]; exact v9
        · exact pv_other op oa hne fb.1 (by omega) n1 (fun b y z1 z2 z3 => F b y z2 z3 (by omega)) g2 va
  have F4 : ∀ b y, b ≠ p → b ≠ p + 1 → I4 b y = I b y := fun b y y1 y2 => by
    rw [z1 _ _ (by omega)]; subst e5'; rw [u2a y1]; subst e3; rw [u2a y1]; subst e2; rw [u2a y1]; subst e1; exact u2a y1
  refine L 66 0 I4 R (by omega) (by omega) hp ha rfl (fun b y z => F4 b y (by omega) (by omega)) ?_ ?_ ?_ ?_ (fun i i0 i1 => absurd (show i < 0 from i1) (by omega)) (pv_fr ha n1 (fun b y z => F4 b y (by omega) (by omega)) hv) z2
  · rw [z1 _ _ (by omega)]; subst e5'; rw [u2x (by decide)]; subst e3; rw [u2x (by decide)]; subst e2; rw [u2x (by decide)]; subst e1; exact u2e
  · rw [z1 _ _ (by omega)]; subst e5'; rw [u2x (by decide)]; subst e3; rw [u2x (by decide)]; subst e2; exact u2e
  · rw [z1 _ _ (by omega)]; subst e5'; rw [u2x (by decide)]; subst e3; exact u2e
  · rw [z1 _ _ (by omega)]; subst e5'; exact u2e
end MK
