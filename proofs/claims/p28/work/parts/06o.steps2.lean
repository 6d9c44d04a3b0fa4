/-! ===== rules that move, what both sides do to their puzzles ===== -/
/-- alike as a rule is told -/
def e9 (ρ σ : Int → Int) : Prop := ∀ t, 0 ≤ t → t < 9 → (t < 4 ∨ t < 4 + ρ 3) → ρ t = σ t
theorem e9_3 {ρ σ : Int → Int} (h : e9 ρ σ) : ρ 3 = σ 3 := h 3 (by decide) (by decide) (Or.inl (by decide))
theorem e9_s {ρ σ : Int → Int} (h : e9 ρ σ) : e9 σ ρ := fun t t0 t1 t2 => (h t t0 t1 (by rw [e9_3 h]; exact t2)).symm
theorem e9_t {ρ σ τ : Int → Int} (h : e9 ρ σ) (g : e9 σ τ) : e9 ρ τ := fun t t0 t1 t2 => (h t t0 t1 t2).trans (g t t0 t1 (by rw [← e9_3 h]; exact t2))
theorem e9_r {ρ : Int → Int} : e9 ρ ρ := fun _ _ _ _ => rfl
theorem gr_e {m : Int} {ρ σ : Int → Int} (e : e9 ρ σ) (h : gr m ρ) : gr m σ := by
  obtain ⟨h0, h1, h2, h3, h4, h5, h6, h7, h8, h9, h10, h11, h12⟩ := h
  have k0 := e 0 (by decide) (by decide) (Or.inl (by decide))
  have k1 := e 1 (by decide) (by decide) (Or.inl (by decide))
  have k2 := e 2 (by decide) (by decide) (Or.inl (by decide))
  have k3 := e 3 (by decide) (by decide) (Or.inl (by decide))
  rw [k0] at h0 h1 h8 h9 h10
  rw [k1] at h2 h3 h8 h10
  rw [k2] at h4 h5
  rw [k3] at h6 h7 h9 h10 h11 h12
  refine ⟨h0, h1, h2, h3, h4, h5, h6, h7, h8, h9, h10, fun i i0 i1 => ?_, fun i j i0 i1 j0 j1 q => ?_⟩
  · rw [← e (4 + i) (by omega) (by omega) (by omega)]; exact h11 i i0 i1
  · rw [← e (4 + i) (by omega) (by omega) (by omega), ← e (4 + j) (by omega) (by omega) (by omega)] at q
    exact h12 i j i0 i1 j0 j1 q
theorem rv_e {m : Int} {I : cI} {R : cR} {r : Nat} {ρ σ : Int → Int} (g : gr m ρ) (e : e9 ρ σ) (h : rv I R r ρ) : rv I R r σ := by
  obtain ⟨h0, h1, h2, h3, h4, h5⟩ := h
  have k3 := e 3 (by decide) (by decide) (Or.inl (by decide))
  have n5 := g.2.2.2.2.2.2.2.1
  refine ⟨h0.trans (e 0 (by decide) (by decide) (Or.inl (by decide))), h1.trans (e 1 (by decide) (by decide) (Or.inl (by decide))), h2.trans (e 2 (by decide) (by decide) (Or.inl (by decide))), h3.trans k3, fun i i0 i1 => ?_, fun c c0 c1 => ?_⟩
  · rw [← e (4 + i) (by omega) (by omega) (by omega)]; exact h4 i i0 (by omega)
  · rw [h5 c c0 c1]
    exact ⟨fun ⟨i, i0, i1, q⟩ => ⟨i, i0, by omega, by rw [← e (4 + i) (by omega) (by omega) (by omega)]; exact q⟩, fun ⟨i, i0, i1, q⟩ => ⟨i, i0, by omega, by rw [e (4 + i) (by omega) (by omega) (by omega)]; exact q⟩⟩
theorem rl_br {m h : Int} {ρ σ : Int → Int} {v : Int → Int} (g : gr m ρ) (e : e9 ρ σ) : br ρ h v ↔ br σ h v := by
  have n5 := g.2.2.2.2.2.2.2.1
  unfold br
  rw [← e 0 (by decide) (by decide) (Or.inl (by decide)), ← e 1 (by decide) (by decide) (Or.inl (by decide)), ← e 2 (by decide) (by decide) (Or.inl (by decide)), ← e 3 (by decide) (by decide) (Or.inl (by decide))]
  exact brk_cg (fun i i0 i1 => by rw [e (4 + i) (by omega) (by omega) (by omega)])
/-- one rule less -/
def dr (r : Int) (ρ : Int → Int → Int) : Int → Int → Int := fun i => if i < r then ρ i else ρ (i + 1)
theorem dr_gp {m n r : Int} {ρ : Int → Int → Int} (r0 : 0 ≤ r) (h : gp m n ρ) : gp m (n - 1) (dr r ρ) := fun i i0 i1 => by
  unfold dr
  split
  · exact h i i0 (by omega)
  · exact h (i + 1) (by omega) (by omega)
theorem gp_e {m n : Int} {ρ σ : Int → Int → Int} (e : ∀ i, 0 ≤ i → i < n → e9 (ρ i) (σ i)) (h : gp m n ρ) : gp m n σ := fun i i0 i1 => gr_e (e i i0 i1) (h i i0 i1)
theorem pv_e {m n : Int} {I : cI} {R : cR} {p : Nat} {ρ σ : Int → Int → Int} (g : gp m n ρ) (e : ∀ i, 0 ≤ i → i < n → e9 (ρ i) (σ i)) (h : pv I R p n ρ) : pv I R p n σ := fun i i0 i1 => rv_e (g i i0 i1) (e i i0 i1) (h i i0 i1)
theorem sF_split {f : Int → Int} {n r : Int} (hr : r ≤ n) : ∀ x, x ≤ r → sF f x n = sF f x r + sF f r n := by
  refine up_ind (n := r) (fun x h h' => ?_) (fun x h ih h' => ?_)
  · rw [show x = r by omega, sF_e (Int.le_refl r)]; omega
  · rw [sF_s (n := n) (by omega), sF_s (n := r) h, ih (by omega)]; omega
theorem sF_shift {f : Int → Int} {n : Int} : ∀ x, sF f (x + 1) (n + 1) = sF (fun i => f (i + 1)) x n := by
  refine up_ind (n := n) (fun x h => ?_) (fun x h ih => ?_)
  · rw [sF_e (by omega), sF_e (by omega)]
  · rw [sF_s (n := n + 1) (by omega), sF_s h, ih]
theorem cF_dr {p : (Int → Int) → Prop} {ρ : Int → Int → Int} {n r : Int} (r0 : 0 ≤ r) (r1 : r < n) : cF (fun i => p (ρ i)) 0 n = cF (fun i => p (dr r ρ i)) 0 (n - 1) + b2 (p (ρ r)) := by
  unfold cF
  rw [sF_split (n := n) (r := r) (by omega) 0 r0, sF_split (n := n - 1) (r := r) (by omega) 0 r0, sF_s (n := n) r1]
  have e1 : sF (fun i => b2 (p (ρ i))) 0 r = sF (fun i => b2 (p (dr r ρ i))) 0 r := sF_cg 0 (fun i i0 i1 => by unfold dr; rw [if_pos i1])
  have e2 : sF (fun i => b2 (p (ρ i))) (r + 1) n = sF (fun i => b2 (p (dr r ρ i))) r (n - 1) := by
    have := sF_shift (f := fun i => b2 (p (ρ i))) (n := n - 1) r
    rw [show n - 1 + 1 = n by omega] at this
    rw [this]
    exact sF_cg r (fun i i0 i1 => by unfold dr; rw [if_neg (by omega)])
  rw [e1, e2]; dsimp only; omega
section CR
variable {I : cI} {R : cR} {p : Nat} {n r : Int} {ρ : Int → Int → Int}
/-- where the row of rules has come to while one is taken out -/
def rmR (R0 : cR) (p : Nat) (r x : Int) : cR := fun a j => if a = p + 2 ∧ r ≤ j ∧ j < x then R0 a (j + 1) else R0 a j
theorem c_remove {Q : cI → cR → Prop} (hp : okp R p) (r0 : 0 ≤ r) (r1 : r < n) (hn : n ≤ 65) (e5 : I p 5 = n) (hv : pv I R p n ρ)
    (hQ : ∀ I' R', okp R' p → (∀ a x, a ≠ p + 2 → R' a x = R a x) → (∀ a x, ¬ (a = p ∧ x = 5) → I' a x = I a x) → I' p 5 = n - 1 → pv I' R' p (n - 1) (dr r ρ) → Q I' R') : wX4_removeRule p r I R Q := by
  have hp' : p = 85 ∨ p = 89 := hp.1
  unfold wX4_removeRule
  refine ⟨by omega, by rw [e5]; unfold inR; omega, fun I3 e3 => ⟨66, ?_⟩⟩
  rw [e5] at e3
  have e35 : I3 p 5 = n - 1 := by subst e3; exact u2e
  have L : ∀ (m : Nat) (x : Int), r ≤ x → x ≤ n - 1 → n - 1 - x < m → wX4_removeRule_19 Q p r m (R (p + 2) r) x I3 (rmR R p r x) := by
    intro m
    induction m with
    | zero => intro x x0 x1 x2; omega
    | succ m ih =>
      intro x x0 x1 x2
      show wbX4_removeRule_19 Q p r (wX4_removeRule_19 Q p r m) (R (p + 2) r) x I3 (rmR R p r x)
      unfold wbX4_removeRule_19
      rw [e35]
      refine ⟨fun c => ⟨by omega, fun R2 f2 => ?_⟩, fun c => ⟨by omega, by omega, fun R7 f7 => ⟨by unfold inR; omega, fun z hz => ?_⟩⟩⟩
      · have ex : x = n - 1 := by omega
        have at2 : ∀ j, R2 (p + 2) j = if r ≤ j ∧ j < n - 1 then R (p + 2) (j + 1) else if j = n - 1 then R (p + 2) r else R (p + 2) j := by
          intro j
          subst f2
          by_cases c1 : j = n - 1
          · subst c1
            rw [u2e, if_neg (by omega), if_pos rfl]
          · rw [u2x c1]
            unfold rmR
            by_cases c2 : r ≤ j ∧ j < n - 1
            · rw [if_pos ⟨rfl, c2.1, by omega⟩, if_pos c2]
            · rw [if_neg (by omega), if_neg c2, if_neg c1]
        refine hQ I3 R2 ⟨hp.1, fun j j0 j1 => ?_, fun i j i0 i1 j0 j1 q => ?_⟩ (fun a y q => ?_) (fun a y q => ?_) e35 (fun i i0 i1 => ?_)
        · rw [at2]
          split
          · exact hp.2.1 _ (by omega) (by omega)
          · split
            · exact hp.2.1 _ (by omega) (by omega)
            · exact hp.2.1 _ (by omega) (by omega)
        · have sg : ∀ j, ∃ k, R2 (p + 2) j = R (p + 2) k ∧ ((r ≤ j ∧ j < n - 1 ∧ k = j + 1) ∨ (j = n - 1 ∧ k = r) ∨ (¬ (r ≤ j ∧ j < n) ∧ k = j)) := fun j => by
            by_cases c1 : r ≤ j ∧ j < n - 1
            · exact ⟨j + 1, by rw [at2, if_pos c1], Or.inl ⟨c1.1, c1.2, rfl⟩⟩
            · by_cases c2 : j = n - 1
              · exact ⟨r, by rw [at2, if_neg c1, if_pos c2], Or.inr (Or.inl ⟨c2, rfl⟩)⟩
              · exact ⟨j, by rw [at2, if_neg c1, if_neg c2], Or.inr (Or.inr ⟨by omega, rfl⟩)⟩
          obtain ⟨k1, w1, v1⟩ := sg i
          obtain ⟨k2, w2, v2⟩ := sg j
          rw [w1, w2] at q
          have := hp.2.2 k1 k2 (by omega) (by omega) (by omega) (by omega) q
          omega
        · subst f2
          rw [u2a q]; unfold rmR; rw [if_neg (fun w => q w.1)]
        · subst e3; exact u2n q
        · have key : ∀ j, 0 ≤ j → j < n → R2 (p + 2) i = R (p + 2) j → rv I3 R2 (R2 (p + 2) i) (ρ j) := by
            intro j j0 j1 q
            rw [q]
            have h0 := hv j j0 j1
            have hg := rg_R (hp.2.1 j j0 (by omega))
            have h93 : 93 ≤ R (p + 2) j := hg.1
            have eR : R2 (R (p + 2) j) 0 = R (R (p + 2) j) 0 := by
              subst f2
              rw [u2a (by omega)]; unfold rmR; rw [if_neg (by omega)]
            unfold rv at h0 ⊢
            rw [eR]
            have eI : ∀ a y, 93 ≤ a → I3 a y = I a y := fun a y q => by subst e3; exact u2a (by omega)
            simp only [eI (R (p + 2) j) _ h93, eI (R (p + 2) j + 130) _ (by omega)]
            exact h0
          have ei := at2 i
          unfold dr
          by_cases c1 : i < r
          · rw [if_pos c1]
            rw [if_neg (by omega), if_neg (by omega)] at ei
            exact key i i0 (by omega) ei
          · rw [if_neg c1]
            rw [if_pos (by omega)] at ei
            exact key (i + 1) (by omega) (by omega) ei
      · subst hz
        have e7 : R7 = rmR R p r (x + 1) := by
          subst f7
          funext a j
          by_cases c1 : a = p + 2 ∧ j = x
          · obtain ⟨rfl, rfl⟩ := c1
            rw [u2e]; unfold rmR; rw [if_neg (by omega), if_pos ⟨rfl, x0, by omega⟩]
          · rw [u2n c1]; unfold rmR
            by_cases c2 : a = p + 2 ∧ r ≤ j ∧ j < x
            · rw [if_pos c2, if_pos ⟨c2.1, c2.2.1, by omega⟩]
            · rw [if_neg c2, if_neg (by omega)]
        rw [e7]
        exact ih (x + 1) (by omega) (by omega) (by omega)
  have h0 := L 66 r (Int.le_refl r) (by omega) (by omega)
  have eR : rmR R p r r = R := by
    funext a j; unfold rmR; rw [if_neg (by omega)]
  rw [eR] at h0
  exact h0
end CR
section MR
variable {J : cI} {b : Nat} {f t n r : Int}
end MR
