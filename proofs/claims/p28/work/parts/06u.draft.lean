/-! ===== the draft of the class: rules that are added ===== -/
def pt (ρ : Int → Int) (x : Int) : Int → Int := fun t => if t = 3 then x else ρ t
theorem pt_n {ρ : Int → Int} {x t : Int} (h : t ≠ 3) : pt ρ x t = ρ t := if_neg h
theorem pt_3 {ρ : Int → Int} {x : Int} : pt ρ x 3 = x := if_pos rfl
theorem pt_e {ρ : Int → Int} : pt ρ (ρ 3) = ρ := by
  funext t
  unfold pt
  split
  · rename_i h; rw [h]
  · rfl
/-- a rule alone is changed -/
def fU (r : Nat) (I0 I : cI) : Prop := ∀ a x, a ≠ r → a ≠ r + 130 → I a x = I0 a x
theorem fU_r {r : Nat} {I : cI} : fU r I I := fun _ _ _ _ => rfl
theorem fU_t {r : Nat} {I J K : cI} (h : fU r I J) (g : fU r J K) : fU r I K := fun a x q1 q2 => (g a x q1 q2).trans (h a x q1 q2)
section DF
variable {I I0 : cI} {R : cR} {r : Nat} {ρ : Int → Int}
theorem c_addRule {p a : Nat} {n : Int} {Q : Nat → cI → cR → Prop} (hp : okp R p) (e5 : I p 5 = n) (n0 : 0 ≤ n) (n1 : n < 65)
    (hQ : ∀ I' R', (∀ b x, b ≠ R (p + 2) n → ¬ (b = p ∧ x = 5) → I' b x = I b x) → (∀ b x, ¬ (b = R (p + 2) n ∧ x = 0) → R' b x = R b x) → R' (R (p + 2) n) 0 = a → I' p 5 = n + 1 → I' (R (p + 2) n) 1 = 0 → I' (R (p + 2) n) 2 = 0 → I' (R (p + 2) n) 3 = 0 → I' (R (p + 2) n) 5 = 0 → Q (R (p + 2) n) I' R') : wX4_addRule p a I R Q := by
  have hp' : p = 85 ∨ p = 89 := hp.1
  have hr : 93 ≤ R (p + 2) n := (rg_R (hp.2.1 n n0 n1)).1
  unfold wX4_addRule
  rw [e5]
  refine ⟨fun c => by omega, fun c => ⟨by unfold inR; omega, fun I2 e2 => ⟨⟨n0, n1⟩, ?_⟩⟩⟩
  intro R1 f1 I4 e4 I7 e7 I10 e10 I13 e13
  refine ⟨⟨n0, n1⟩, ?_⟩
  have er : R1 (p + 2) n = R (p + 2) n := by subst f1; exact u2n (by omega)
  rw [er]
  refine hQ I13 R1 (fun b x q1 q2 => ?_) (fun b x q => by subst f1; exact u2n q) (by subst f1; exact u2e) ?_ ?_ ?_ ?_ ?_
  · subst e13; rw [u2a q1]; subst e10; rw [u2a q1]; subst e7; rw [u2a q1]; subst e4; rw [u2a q1]; subst e2; exact u2n q2
  · subst e13; rw [u2a (by omega)]; subst e10; rw [u2a (by omega)]; subst e7; rw [u2a (by omega)]; subst e4; rw [u2a (by omega)]; subst e2; exact u2e
  · subst e13; rw [u2x (by decide)]; subst e10; rw [u2x (by decide)]; subst e7; rw [u2x (by decide)]; subst e4; exact u2e
  · subst e13; rw [u2x (by decide)]; subst e10; rw [u2x (by decide)]; subst e7; exact u2e
  · subst e13; rw [u2x (by decide)]; subst e10; exact u2e
  · subst e13; exact u2e
theorem rv_0 (e0 : kN (R r 0) = ρ 0) (e1 : I r 1 = ρ 1) (e2 : I r 2 = ρ 2) (e3 : I r 3 = 0) (e5 : I r 5 = 0) : rv I R r (pt ρ 0) := by
  refine ⟨by rw [pt_n (by decide)]; exact e0, by rw [pt_n (by decide)]; exact e1, by rw [pt_n (by decide)]; exact e2, by rw [pt_3]; exact e3, fun i i0 i1 => by rw [pt_3] at i1; omega, fun c c0 c1 => ?_⟩
  rw [e5]
  exact ⟨fun t => absurd t (tb_0 c0 (by omega)), fun ⟨i, i0, i1, _⟩ => by rw [pt_3] at i1; omega⟩
theorem c_addCell {c s : Int} {Q : cI → cR → Prop} (hv : rv I R r (pt ρ s)) (s0 : 0 ≤ s) (s1 : s < 5) (ec : ρ (4 + s) = c) (c0 : 0 ≤ c) (c1 : c < 25)
    (hQ : ∀ I', fU r I I' → rv I' R r (pt ρ (s + 1)) → Q I' R) : wX7_addCell r c I R Q := by
  obtain ⟨v0, v1, v2, v3, v4, v5⟩ := hv
  rw [pt_3] at v3 v4 v5
  rw [pt_n (by decide)] at v0 v1 v2
  unfold wX7_addCell
  rw [v3]
  refine ⟨fun w => absurd w (by omega), fun w => ⟨⟨s0, s1⟩, fun I2 e2 => ?_⟩⟩
  have e23 : I2 r 3 = s := by subst e2; rw [u2a (by omega)]; exact v3
  rw [e23]
  refine ⟨by unfold inR; omega, fun I6 e6 I9 e9 => hQ I9 (fun a x q1 q2 => ?_) ⟨?_, ?_, ?_, ?_, fun i i0 i1 => ?_, fun d d0 d1 => ?_⟩⟩
  · subst e9; rw [u2a q1]; subst e6; rw [u2a q1]; subst e2; exact u2a q2
  · rw [pt_n (by decide)]; exact v0
  · rw [pt_n (by decide)]; subst e9; rw [u2x (by decide)]; subst e6; rw [u2x (by decide)]; subst e2; rw [u2a (by omega)]; exact v1
  · rw [pt_n (by decide)]; subst e9; rw [u2x (by decide)]; subst e6; rw [u2x (by decide)]; subst e2; rw [u2a (by omega)]; exact v2
  · rw [pt_3]; subst e9; rw [u2x (by decide)]; subst e6; exact u2e
  · rw [pt_3] at i1
    rw [pt_n (by omega)]
    subst e9; rw [u2a (by omega)]; subst e6; rw [u2a (by omega)]; subst e2
    by_cases ei : i = s
    · subst ei; rw [u2e]; exact ec.symm
    · rw [u2x ei]; have := v4 i i0 (by omega); rw [pt_n (by omega)] at this; exact this
  · have e65 : I6 r 5 = I r 5 := by subst e6; rw [u2x (by decide)]; subst e2; exact u2a (by omega)
    have e95 : I9 r 5 = iOr (I r 5) (iShl 1 c) := by subst e9; rw [u2e, e65]
    rw [e95, tb_or c0 c1 d0 d1, v5 d d0 d1, pt_3]
    refine ⟨fun q => ?_, fun ⟨i, i0, i1, q⟩ => ?_⟩
    · rcases q with ⟨i, i0, i1, q⟩ | q
      · exact ⟨i, i0, by omega, by rw [pt_n (by omega)] at q ⊢; exact q⟩
      · exact ⟨s, s0, by omega, by rw [pt_n (by omega), ec, q]⟩
    · by_cases ei : i = s
      · subst ei
        rw [pt_n (by omega), ec] at q
        exact Or.inr q.symm
      · exact Or.inl ⟨i, i0, by omega, by rw [pt_n (by omega)] at q ⊢; exact q⟩
theorem c_takeParts {r' : Nat} {m : Int} {Q : cI → cR → Prop} (g : gr m ρ) (hm : m ≤ 25) (hr : isR r) (hr' : isR r') (hne : r ≠ r') (e0 : kN (R r 0) = ρ 0) (e3 : I r 3 = 0) (e5 : I r 5 = 0) (hv : rv I R r' ρ)
    (hQ : ∀ I', fU r I I' → rv I' R r ρ → Q I' R) : wX7_takeParts r r' I R Q := by
  unfold isR at hr hr'
  have n0 := g.2.2.2.2.2.2.1
  have n5 := g.2.2.2.2.2.2.2.1
  unfold wX7_takeParts
  intro I1 e1 I4 e4
  have f4 : fU r I I4 := fun a x q1 q2 => by subst e4; rw [u2a q1]; subst e1; exact u2a q1
  have e12 : I1 r' 2 = ρ 2 := by subst e1; rw [u2a (by omega)]; exact hv.2.2.1
  rw [hv.2.1] at e1
  rw [e12] at e4
  have v4 : rv I4 R r (pt ρ 0) := rv_0 e0 (by subst e4; rw [u2x (by decide)]; subst e1; exact u2e) (by subst e4; exact u2e) (by subst e4; rw [u2x (by decide)]; subst e1; rw [u2x (by decide)]; exact e3) (by subst e4; rw [u2x (by decide)]; subst e1; rw [u2x (by decide)]; exact e5)
  have L : ∀ (k : Nat) (x : Int) (I' : cI), 0 ≤ x → x ≤ ρ 3 → ρ 3 - x < k → fU r I I' → rv I' R r (pt ρ x) → wX7_takeParts_18 Q r r' k x I' R := by
    intro k
    induction k with
    | zero => intro x I' x0 x1 x2; omega
    | succ k ih =>
      intro x I' x0 x1 x2 hf hx
      show wbX7_takeParts_18 Q r r' (wX7_takeParts_18 Q r r' k) x I' R
      unfold wbX7_takeParts_18
      rw [hf r' 3 (by omega) (by omega), hv.2.2.2.1]
      refine ⟨fun c => ?_, fun c => ⟨by omega, ?_⟩⟩
      · have ex : x = ρ 3 := by omega
        subst ex
        rw [pt_e] at hx
        exact hQ I' hf hx
      · rw [hf (r' + 130) x (by omega) (by omega), hv.2.2.2.2.1 x x0 (by omega)]
        have hc := g.2.2.2.2.2.2.2.2.2.2.2.1 x x0 (by omega)
        refine c_addCell hx x0 (by omega) rfl hc.1 (by omega) (fun I3 f3 v3 => ⟨by unfold inR; omega, fun z hz => ?_⟩)
        subst hz
        exact ih (x + 1) I3 (by omega) (by omega) (by omega) (fU_t hf f3) v3
  exact ⟨6, L 6 0 I4 (Int.le_refl 0) n0 (by omega) f4 v4⟩
/-- a rule whose cells are elsewhere -/
def mv (t : Int → Int) (ρ : Int → Int) : Int → Int := fun k => if k < 4 then ρ k else if k - 4 < ρ 3 then t (ρ k) else ρ k
theorem mv_l {t ρ : Int → Int} {k : Int} (h : k < 4) : mv t ρ k = ρ k := if_pos h
theorem mv_c {t ρ : Int → Int} {i : Int} (i0 : 0 ≤ i) (h : i < ρ 3) : mv t ρ (4 + i) = t (ρ (4 + i)) := by
  unfold mv
  rw [if_neg (by omega), if_pos (by omega)]
theorem mv_gr {t ρ : Int → Int} {m m' : Int} (g : gr m ρ) (tb : ∀ c, 0 ≤ c → c < m → 0 ≤ t c ∧ t c < m') (ti : ∀ c d, 0 ≤ c → c < m → 0 ≤ d → d < m → t c = t d → c = d) : gr m' (mv t ρ) := by
  obtain ⟨h0, h1, h2, h3, h4, h5, h6, h7, h8, h9, h10, h11, h12⟩ := g
  have k0 := mv_l (t := t) (ρ := ρ) (k := 0) (by decide)
  have k1 := mv_l (t := t) (ρ := ρ) (k := 1) (by decide)
  have k2 := mv_l (t := t) (ρ := ρ) (k := 2) (by decide)
  have k3 := mv_l (t := t) (ρ := ρ) (k := 3) (by decide)
  unfold gr
  rw [k0, k1, k2, k3]
  refine ⟨h0, h1, h2, h3, h4, h5, h6, h7, h8, h9, h10, fun i i0 i1 => ?_, fun i j i0 i1 j0 j1 q => ?_⟩
  · rw [mv_c i0 i1]; have := h11 i i0 i1; exact tb _ this.1 this.2
  · rw [mv_c i0 i1, mv_c j0 j1] at q
    have a := h11 i i0 i1
    have b := h11 j j0 j1
    exact h12 i j i0 i1 j0 j1 (ti _ _ a.1 a.2 b.1 b.2 q)
theorem c_moveCells {t : Int → Int} {a : Nat} {m : Int} {Q : cI → cR → Prop} (g : gr m ρ) (hm : m ≤ 25) (ha : a < 93) (hr : isR r) (hv : rv I R r ρ) (ht : ∀ c, 0 ≤ c → c < m → I a c = t c) (tB : ∀ c, 0 ≤ c → c < m → 0 ≤ t c ∧ t c < 25)
    (hQ : ∀ I', fU r I I' → rv I' R r (mv t ρ) → Q I' R) : wX7_moveCells r a I R Q := by
  unfold isR at hr
  have n0 := g.2.2.2.2.2.2.1
  have n5 := g.2.2.2.2.2.2.2.1
  obtain ⟨v0, v1, v2, v3, v4, v5⟩ := hv
  unfold wX7_moveCells
  intro I1 e1
  have f1 : fU r I I1 := fun a x q1 q2 => by subst e1; exact u2a q1
  have L : ∀ (k : Nat) (x : Int) (I' : cI), 0 ≤ x → x ≤ ρ 3 → ρ 3 - x < k → fU r I I' → (∀ y, y ≠ 5 → I' r y = I r y) → (∀ i, 0 ≤ i → i < x → I' (r + 130) i = t (ρ (4 + i))) → (∀ i, x ≤ i → I' (r + 130) i = I (r + 130) i) → (∀ c, 0 ≤ c → c < 25 → (tb (I' r 5) c ↔ ∃ i, 0 ≤ i ∧ i < x ∧ t (ρ (4 + i)) = c)) → wX7_moveCells_7 Q r a k x I' R := by
    intro k
    induction k with
    | zero => intro x I' x0 x1 x2; omega
    | succ k ih =>
      intro x I' x0 x1 x2 hf h1 h2 h3 h4
      show wbX7_moveCells_7 Q r a (wX7_moveCells_7 Q r a k) x I' R
      unfold wbX7_moveCells_7
      rw [h1 3 (by decide), v3]
      refine ⟨fun c => hQ I' hf ?_, fun c => ?_⟩
      · have ex : x = ρ 3 := by omega
        subst ex
        refine ⟨by rw [mv_l (by decide)]; exact v0, by rw [mv_l (by decide), h1 1 (by decide)]; exact v1, by rw [mv_l (by decide), h1 2 (by decide)]; exact v2, by rw [mv_l (by decide), h1 3 (by decide)]; exact v3, fun i i0 i1 => ?_, fun c c0 c1 => ?_⟩
        · rw [mv_l (by decide)] at i1
          rw [mv_c i0 i1]; exact h2 i i0 i1
        · rw [h4 c c0 c1, mv_l (by decide)]
          exact ⟨fun ⟨i, i0, i1, q⟩ => ⟨i, i0, i1, by rw [mv_c i0 i1]; exact q⟩, fun ⟨i, i0, i1, q⟩ => ⟨i, i0, i1, by rw [mv_c i0 i1] at q; exact q⟩⟩
      · have hc := g.2.2.2.2.2.2.2.2.2.2.2.1 x x0 (by omega)
        have ex : I' (r + 130) x = ρ (4 + x) := by rw [h3 x (Int.le_refl x)]; exact v4 x x0 (by omega)
        have ea : I' a (ρ (4 + x)) = t (ρ (4 + x)) := by rw [hf a _ (by omega) (by omega)]; exact ht _ hc.1 hc.2
        have hb := tB _ hc.1 hc.2
        rw [ex, ea]
        refine ⟨by omega, by omega, by omega, fun I4 e4 => ⟨by omega, fun I8 e8 => ⟨by unfold inR; omega, fun z hz => ?_⟩⟩⟩
        have e45 : I4 r 5 = I' r 5 := by subst e4; exact u2a (by omega)
        have e4x : I4 (r + 130) x = t (ρ (4 + x)) := by subst e4; exact u2e
        rw [e45, e4x] at e8
        subst hz
        refine ih (x + 1) I8 (by omega) (by omega) (by omega) (fun b y q1 q2 => ?_) (fun y q => ?_) (fun i i0 i1 => ?_) (fun i i0 => ?_) (fun d d0 d1 => ?_)
        · subst e8; rw [u2a q1]; subst e4; rw [u2a q2]; exact hf b y q1 q2
        · subst e8; rw [u2x q]; subst e4; rw [u2a (by omega)]; exact h1 y q
        · subst e8; rw [u2a (by omega)]
          by_cases ei : i = x
          · subst ei; exact e4x
          · subst e4; rw [u2x ei]; exact h2 i i0 (by omega)
        · subst e8; rw [u2a (by omega)]; subst e4; rw [u2x (by omega)]; exact h3 i (by omega)
        · subst e8
          rw [u2e, tb_or hb.1 hb.2 d0 d1, h4 d d0 d1]
          refine ⟨fun q => ?_, fun ⟨i, i0, i1, q⟩ => ?_⟩
          · rcases q with ⟨i, i0, i1, q⟩ | q
            · exact ⟨i, i0, by omega, q⟩
            · exact ⟨x, x0, by omega, q.symm⟩
          · by_cases ei : i = x
            · subst ei; exact Or.inr q.symm
            · exact Or.inl ⟨i, i0, by omega, q⟩
  refine ⟨6, L 6 0 I1 (Int.le_refl 0) n0 (by omega) f1 (fun y q => by subst e1; exact u2x q) (fun i i0 i1 => by omega) (fun i i0 => by subst e1; exact u2a (by omega)) (fun c c0 c1 => ?_)⟩
  have e15 : I1 r 5 = 0 := by subst e1; exact u2e
  rw [e15]
  exact ⟨fun t => absurd t (tb_0 c0 (by omega)), fun ⟨i, i0, i1, _⟩ => by omega⟩
/-- the rules ahead of a new one stay, and those of the other puzzle -/
theorem rv_fr2 {I' : cI} {R' : cR} {q : Nat} (hq : isR q) (hr : isR r) (hne : q ≠ r) (f1 : ∀ b x, 93 ≤ b → b ≠ r → b ≠ r + 130 → I' b x = I b x) (f2 : ∀ b x, ¬ (b = r ∧ x = 0) → R' b x = R b x) (h : rv I R q ρ) : rv I' R' q ρ := by
  unfold isR at hq hr
  unfold rv at h ⊢
  simp only [f1 q _ hq.1 hne (by omega), f1 (q + 130) _ (by omega) (by omega) (by omega), f2 q 0 (fun w => hne w.1)]
  exact h
theorem pv_add {I' : cI} {R' : cR} {p : Nat} {n : Int} {σ : Int → Int → Int} (hp : okp R p) (n0 : 0 ≤ n) (n1 : n < 65) (f1 : ∀ b x, 93 ≤ b → b ≠ R (p + 2) n → b ≠ R (p + 2) n + 130 → I' b x = I b x) (f2 : ∀ b x, ¬ (b = R (p + 2) n ∧ x = 0) → R' b x = R b x) (h : pv I R p n σ) (hn : rv I' R' (R (p + 2) n) (σ n)) : pv I' R' p (n + 1) σ := fun i i0 i1 => by
  have hp' : p = 85 ∨ p = 89 := hp.1
  have hr := rg_R (hp.2.1 n n0 n1)
  have hr' : 93 ≤ R (p + 2) n := hr.1
  rw [f2 (p + 2) i (by omega)]
  by_cases ei : i = n
  · subst ei; exact hn
  · exact rv_fr2 (rg_R (hp.2.1 i i0 (by omega))) hr (fun w => ei (hp.2.2 i n i0 (by omega) n0 n1 w)) f1 f2 (h i i0 (by omega))
theorem pv_other {I' : cI} {R' : cR} {p p' : Nat} {n n' : Int} {σ : Int → Int → Int} (hp : okp R p) (hp' : okp R p') (hne : p ≠ p') (n0 : 0 ≤ n) (n1 : n < 65) (n2 : n' ≤ 65) (f1 : ∀ b x, 93 ≤ b → b ≠ R (p + 2) n → b ≠ R (p + 2) n + 130 → I' b x = I b x) (f2 : ∀ b x, ¬ (b = R (p + 2) n ∧ x = 0) → R' b x = R b x) (h : pv I R p' n' σ) : pv I' R' p' n' σ := fun i i0 i1 => by
  have q1 : p = 85 ∨ p = 89 := hp.1
  have q2 : p' = 85 ∨ p' = 89 := hp'.1
  have hr := rg_R (hp.2.1 n n0 n1)
  have hr' : 93 ≤ R (p + 2) n := hr.1
  rw [f2 (p' + 2) i (by omega)]
  have a1 := hp.2.1 n n0 n1
  have a2 := hp'.2.1 i i0 (by omega)
  unfold rg at a1 a2
  exact rv_fr2 (rg_R (hp'.2.1 i i0 (by omega))) hr (by omega) f1 f2 (h i i0 i1)
theorem okp_fr {R' : cR} {p : Nat} (hp : okp R p) (f : ∀ j, R' (p + 2) j = R (p + 2) j) : okp R' p := ⟨hp.1, fun j j0 j1 => by rw [f]; exact hp.2.1 j j0 j1, fun i j i0 i1 j0 j1 q => by rw [f, f] at q; exact hp.2.2 i j i0 i1 j0 j1 q⟩
end DF
/-! the draft becomes the puzzle -/
def sw (R : cR) : cR := up2 (up2 R 0 7 (R 0 8)) 0 8 (R 0 7)
section TD
variable {I I' : cI} {R : cR} {J J' : cI}
theorem sw_7 : sw R 0 7 = R 0 8 := by unfold sw; rw [u2x (by decide)]; exact u2e
theorem sw_8 : sw R 0 8 = R 0 7 := u2e
theorem sw_n {a : Nat} {x : Int} (h : a ≠ 0) : sw R a x = R a x := by unfold sw; rw [u2a h, u2a h]
theorem c_take {M k : Int} {Q : cI → cR → Prop} (hp : isP (R 0 8)) (eM : I (R 0 8) 0 * I (R 0 8) 1 = M) (M0 : 0 ≤ M) (M1 : M ≤ 25) (ek : I (R 0 8) 2 = k) (k0 : 0 ≤ k) (k1 : k ≤ 5) (hg : ∀ c, 0 ≤ c → c < M → 0 ≤ I (R 0 8 + 1) c ∧ I (R 0 8 + 1) c ≤ k)
    (hQ : ∀ I', (∀ a x, a ≠ 81 → ¬ (a = 80 ∧ (x = 1 ∨ x = 2)) → ¬ (a = 10 ∧ x = 1) → I' a x = I a x) → I' 80 1 = 0 → I' 80 2 = 0 → I' 10 1 = 0 → (∀ c, I' 81 c = lkS (I 81) M k (I (R 0 8 + 1)) c) → Q I' (sw R)) : wX11_takeDraft I R Q := by
  have hp' : R 0 8 = 85 ∨ R 0 8 = 89 := hp
  unfold wX11_takeDraft
  intro R1 e1 R4 e4 I7 e7
  have eR : R4 = sw R := by rw [e4, e1]; rfl
  rw [eR, sw_7]
  refine c_beginR (M := M) (k := k) hp (by subst e7; rw [u2a (by omega), u2a (by omega)]; exact eM) M0 M1 (by subst e7; rw [u2a (by omega)]; exact ek) k0 k1 (fun c c0 c1 => by subst e7; rw [u2a (by omega)]; exact hg c c0 c1) (fun I' f1 f2 f3 f4 => hQ I' (fun a x q1 q2 q3 => by rw [f1 a x q1 q2]; subst e7; exact u2n q3) f2 f3 (by rw [f1 _ _ (by decide) (by omega)]; subst e7; exact u2e) (fun c => ?_))
  rw [f4]
  unfold lkS
  subst e7
  rw [u2a (show R 0 8 + 1 ≠ 10 by omega), u2a (show (81 : Nat) ≠ 10 by decide)]
theorem pv_sw {p : Nat} {n : Int} {ρ : Int → Int → Int} (hp : okp R p) (n1 : n ≤ 65) (h : pv I R p n ρ) : pv I (sw R) p n ρ := fun i i0 i1 => by
  have hr : 93 ≤ R (p + 2) i := (rg_R (hp.2.1 i i0 (by omega))).1
  have h0 := h i i0 i1
  rw [sw_n (by omega)]
  unfold rv at h0 ⊢
  rw [sw_n (by omega)]
  exact h0
theorem okp_sw {p : Nat} (hp : okp R p) : okp (sw R) p := okp_fr hp (fun j => sw_n (by omega))
/-- behind takeDraft and lookAnew -/
theorem take_inv {J2 : cI} (h : iP I (sw R) J) (hv : vP J) (hs : iS I J) (ht : iT I J) (hw : iW I J) (h27 : I 10 2 = J 1000 27) (he : iE I J)
    (f1 : ∀ a x, a ≠ 81 → ¬ (a = 80 ∧ (x = 1 ∨ x = 2)) → ¬ (a = 10 ∧ x = 1) → I' a x = I a x) (f2 : I' 80 1 = 0) (f3 : I' 80 2 = 0) (f4 : I' 10 1 = 0) (f5 : ∀ c, I' 81 c = lkS (I 81) (vM J) (J 1000 13) (I (R 0 8 + 1)) c)
    (e2 : J2 = up2 J 1000 28 0) (k1 : ∀ a x, a ≠ 1030 → ¬ (a = 1000 ∧ (x = 31 ∨ x = 32)) → J' a x = J2 a x) (k2 : J' 1000 31 = 0) (k3 : J' 1000 32 = 0) (k4 : ∀ c, J' 1030 c = lkS (J2 1030) (vM J2) (J2 1000 13) (J2 1020) c) : INV I' (sw R) J' := by
  have hb := vM_b hv
  have hk : 0 ≤ J 1000 13 ∧ J 1000 13 ≤ 5 := by have := hv.1; omega
  have g1 : ∀ a x, a ≠ 1030 → ¬ (a = 1000 ∧ (x = 31 ∨ x = 32)) → ¬ (a = 1000 ∧ x = 28) → J' a x = J a x := fun a x q1 q2 q3 => by rw [k1 a x q1 q2]; subst e2; exact u2n q3
  have k4' : ∀ c, J' 1030 c = lkS (J 1030) (vM J) (J 1000 13) (J 1020) c := fun c => by
    rw [k4 c]
    subst e2
    unfold lkS vM
    rw [u2x (by decide), u2x (by decide), u2x (by decide), u2a (by decide), u2a (by decide)]
  have j : smP J J' := ⟨fun b y q1 q2 => g1 _ _ (by omega) (by omega) (by omega), g1 _ _ (by decide) (by omega) (by omega), g1 _ _ (by decide) (by omega) (by omega), g1 _ _ (by decide) (by omega) (by omega), g1 _ _ (by decide) (by omega) (by omega)⟩
  have h9 := h.2.2.2.2.2.2.2.2
  rw [sw_7] at h9
  refine ⟨iP_fr h hv (fun b y q => f1 _ _ (by omega) (by omega) (by omega)) j, vP_fr hv j,
    iS_lk (g := I (R 0 8 + 1)) (g' := J 1020) hs hk.1 hk.2 hb.2.1 (fun c c0 c1 => h9 c c0 (by omega)) f5 k4' (fun c => f1 _ _ (by omega) (by omega) (by omega)) f2 f3 k2 k3,
    iT_fr ht (fun y => f1 _ _ (by omega) (by omega) (by omega)) (f1 _ _ (by omega) (by omega) (by omega)) (fun y => g1 _ _ (by omega) (by omega) (by omega)) (g1 _ _ (by omega) (by omega) (by omega)),
    iW_fr hw (fun y => f1 _ _ (by omega) (by omega) (by omega)) (f1 _ _ (by omega) (by omega) (by omega)) (fun y => g1 _ _ (by omega) (by omega) (by omega)) (g1 _ _ (by omega) (by omega) (by omega)), ?_,
    iE_fr he (f1 _ _ (by omega) (by omega) (by omega)) (g1 _ _ (by omega) (by omega) (by omega))⟩
  have j28 : J' 1000 28 = 0 := by rw [k1 _ _ (by decide) (by omega)]; subst e2; exact u2e
  refine ⟨by rw [f4, j28], by rw [j28]; decide, by rw [j28]; decide, by rw [f1 _ _ (by decide) (by omega) (by omega), g1 _ _ (by decide) (by omega) (by omega)]; exact h27, fun i c i0 i1 => by rw [j28] at i1; omega⟩
end TD
