/-! ===== the meaning of a text: the class ===== -/
/-- the draft as far as it has been read -/
def dV (I : cI) (R : cR) (p : Nat) (w h kk n : Int) (ρ : Int → Int → Int) : Prop := okp R p ∧ I p 0 = w ∧ I p 1 = h ∧ I p 2 = kk ∧ I p 5 = n ∧ pv I R p n ρ ∧ ∀ c, 0 ≤ c → c < 25 → I (p + 1) c = 0
/-- all but the draft and the reader stay -/
def oF (a : Nat) (I0 : cI) (R0 : cR) (na : Int) (ρa : Int → Int → Int) (I : cI) (R : cR) : Prop := okp R a ∧ R 0 = R0 0 ∧ pv I R a na ρa ∧ ∀ b x, (b < 85 ∧ b ≠ 3) ∨ b = a ∨ b = a + 1 → I b x = I0 b x
section RD
variable {k : kT} {I0 I : cI} {R0 R : cR} {p a : Nat} {w h kk na : Int} {ρa : Int → Int → Int}
theorem oF_p {I' : cI} (g : oF a I0 R0 na ρa I R) (n1 : na ≤ 65) (ha : a < 93) (f : ∀ b x, b ≠ 3 → I' b x = I b x) : oF a I0 R0 na ρa I' R := ⟨g.1, g.2.1, pv_fr g.1 n1 (fun b x q => f b x (by omega)) g.2.2.1, fun b x q => by rw [f b x (by have := g.1.1; unfold isP at this; omega)]; exact g.2.2.2 b x q⟩
/-- one rule of the draft is changed -/
theorem oF_r {I' : cI} {R' : cR} {j : Int} (g : oF a I0 R0 na ρa I R) (hp : okp R p) (hne : p ≠ a) (n1 : na ≤ 65) (j0 : 0 ≤ j) (j1 : j < 65) (f1 : ∀ b x, b ≠ R (p + 2) j → b ≠ R (p + 2) j + 130 → b ≠ p → b ≠ p + 1 → b ≠ 3 → I' b x = I b x) (f2 : ∀ b x, ¬ (b = R (p + 2) j ∧ x = 0) → R' b x = R b x) : oF a I0 R0 na ρa I' R' := by
  have hp' : p = 85 ∨ p = 89 := hp.1
  have ha' : a = 85 ∨ a = 89 := g.1.1
  have hr : 93 ≤ R (p + 2) j := (rg_R (hp.2.1 j j0 j1)).1
  refine ⟨okp_fr g.1 (fun i => f2 _ _ (by omega)), ?_, pv_other hp g.1 hne j0 j1 n1 (fun b x q1 q2 q3 => f1 b x q2 q3 (by omega) (by omega) (by omega)) f2 g.2.2.1, fun b x q => ?_⟩
  · rw [← g.2.1]; funext x; exact f2 0 x (by omega)
  · rw [f1 b x (by omega) (by omega) (by omega) (by omega) (by omega)]; exact g.2.2.2 b x q
theorem dV_p {I' : cI} {n : Int} {ρ : Int → Int → Int} (d : dV I R p w h kk n ρ) (n1 : n ≤ 65) (f : ∀ b x, b ≠ 3 → I' b x = I b x) : dV I' R p w h kk n ρ := by
  have hp' : p = 85 ∨ p = 89 := d.1.1
  obtain ⟨d1, d2, d3, d4, d5, d6, d7⟩ := d
  exact ⟨d1, by rw [f _ _ (by omega)]; exact d2, by rw [f _ _ (by omega)]; exact d3, by rw [f _ _ (by omega)]; exact d4, by rw [f _ _ (by omega)]; exact d5, pv_fr d1 n1 (fun b x q => f b x (by omega)) d6, fun c c0 c1 => by rw [f _ _ (by omega)]; exact d7 c c0 c1⟩
theorem c_fail {e i : Int} {Q : Int → cI → cR → Prop} (o : okK k) (h' : cKV I k) (e3 : I 3 3 = i) (i0 : 0 ≤ i) (i1 : i ≤ kZ k) (hQ : ∀ I', (∀ b x, ¬ (b = 3 ∧ (x = 0 ∨ x = 1)) → I' b x = I b x) → I' 3 0 = e → I' 3 1 = kS k i → Q 0 I' R) : wX5_fail e I R Q := by
  unfold wX5_fail
  intro I1 e1
  have p1 : I1 3 3 = i := by subst e1; rw [u2x (by decide)]; exact e3
  rw [p1]
  refine c_startAt o (cKV_fr h' (fun b x b0 b1 => by subst e1; exact u2n (by omega))) i0 i1 (fun I9 e9 => hQ I9 (fun b x q => ?_) ?_ ?_)
  · subst e9; rw [u2n (by omega)]; subst e1; exact u2n (by omega)
  · subst e9; rw [u2x (by decide)]; subst e1; exact u2e
  · subst e9; exact u2e
/-- a cell more -/
theorem c_addC {r : Nat} {c : Int} {ρ : Int → Int} {Q : cI → cR → Prop} (hv : rv I R r ρ) (s0 : 0 ≤ ρ 3) (s1 : ρ 3 < 5) (c0 : 0 ≤ c) (c1 : c < 25) (hQ : ∀ I', fU r I I' → rv I' R r (adc ρ c) → Q I' R) : wX7_addCell r c I R Q := by
  have hv' : rv I R r (pt (adc ρ c) (ρ 3)) := by
    obtain ⟨v0, v1, v2, v3, v4, v5⟩ := hv
    refine ⟨by rw [pt_n (by decide), adc_n (by decide) (by omega)]; exact v0, by rw [pt_n (by decide), adc_n (by decide) (by omega)]; exact v1, by rw [pt_n (by decide), adc_n (by decide) (by omega)]; exact v2, by rw [pt_3]; exact v3, fun i i0 i1 => ?_, fun d d0 d1 => ?_⟩
    · rw [pt_3] at i1
      rw [pt_n (by omega), adc_n (by omega) (by omega)]; exact v4 i i0 i1
    · rw [v5 d d0 d1, pt_3]
      exact ⟨fun ⟨i, i0, i1, q⟩ => ⟨i, i0, i1, by rw [pt_n (by omega), adc_n (by omega) (by omega)]; exact q⟩, fun ⟨i, i0, i1, q⟩ => ⟨i, i0, i1, by rw [pt_n (by omega), adc_n (by omega) (by omega)] at q; exact q⟩⟩
  refine c_addCell hv' s0 s1 (adc_c s0) c0 c1 (fun I' f v => hQ I' f ?_)
  have e : pt (adc ρ c) (ρ 3 + 1) = adc ρ c := by
    have := pt_e (ρ := adc ρ c)
    rw [adc_3] at this; exact this
  rw [e] at v; exact v
/-- the reader's rows stay but for its place and what a failure tells; one rule grows -/
def fC (r : Nat) (I0 I : cI) : Prop := ∀ b x, b ≠ 3 → b ≠ r → b ≠ r + 130 → I b x = I0 b x
theorem c_readCells {r : Nat} {Q : Int → cI → cR → Prop} (o : okK k) (hp : p = 85 ∨ p = 89) (hr : isR r) (w2 : 2 ≤ w) (w5 : w ≤ 5) (h2 : 2 ≤ h) (h5 : h ≤ 5) (m : Nat) (i : Int) (ρ : Int → Int) (hk : cKV I k) (e3 : I 3 3 = i) (i0 : 0 ≤ i) (i1 : i ≤ kZ k) (im : kZ k - i < m) (ew : I p 0 = w) (eh : I p 1 = h) (hv : rv I R r ρ) (hg : pgr (w * h) ρ) (hm : (m : Int) = kZ k + 1)
    (q1 : (cl k w h m i ρ).1 = 0 → ∀ I', fC r I I' → I' 3 0 = I 3 0 → I' 3 1 = I 3 1 → I' 3 3 = (cl k w h m i ρ).2.1 → rv I' R r (cl k w h m i ρ).2.2 → Q 1 I' R)
    (q0 : ¬ (cl k w h m i ρ).1 = 0 → ∀ I', fC r I I' → I' 3 0 = (cl k w h m i ρ).1 → I' 3 1 = kS k (cl k w h m i ρ).2.1 → Q 0 I' R) : wX5_readCells p r I R Q := by
  unfold isR at hr
  have N1 := o.2.1
  have L : ∀ (m : Nat) (x i : Int) (ρ : Int → Int) (I' : cI), 0 ≤ x → x + m = kZ k + 1 → fC r I I' → I' 3 0 = I 3 0 → I' 3 1 = I 3 1 → I' 3 3 = i → 0 ≤ i → i ≤ kZ k → kZ k - i < m → rv I' R r ρ → pgr (w * h) ρ →
      ((cl k w h m i ρ).1 = 0 → ∀ I', fC r I I' → I' 3 0 = I 3 0 → I' 3 1 = I 3 1 → I' 3 3 = (cl k w h m i ρ).2.1 → rv I' R r (cl k w h m i ρ).2.2 → Q 1 I' R) →
      (¬ (cl k w h m i ρ).1 = 0 → ∀ I', fC r I I' → I' 3 0 = (cl k w h m i ρ).1 → I' 3 1 = kS k (cl k w h m i ρ).2.1 → Q 0 I' R) → wX5_readCells_2 Q p r m x I' R := by
    intro m
    induction m with
    | zero => intro x i ρ I' x0 x1 _ _ _ _ i0 i1 i2; omega
    | succ m ih =>
      intro x i ρ I' x0 x1 f t0 t1 e3 i0 i1 i2 hv hg q1 q0
      show wbX5_readCells_2 Q p r (wX5_readCells_2 Q p r m) x I' R
      unfold wbX5_readCells_2
      have h' : cKV I' k := cKV_fr hk (fun b y b0 b1 => f b y (by omega) (by omega) (by omega))
      have ew' : I' p 0 = w := by rw [f _ _ (by omega) (by omega) (by omega)]; exact ew
      have eh' : I' p 1 = h := by rw [f _ _ (by omega) (by omega) (by omega)]; exact eh
      have fl' : ∀ e, ¬ (e : Int) = 0 → (¬ e = 0 → ∀ I', fC r I I' → I' 3 0 = e → I' 3 1 = kS k i → Q 0 I' R) → wX5_fail e I' R (fun r1 I2 R3 => (r1 = 0 ∨ r1 = 1) ∧ Q r1 I2 R3) := fun e ne q => c_fail o h' e3 i0 i1 (fun I2 f2 g0 g1 => ⟨Or.inl rfl, q ne I2 (fun b y b3 br b130 => by rw [f2 b y (by omega)]; exact f b y b3 br b130) g0 g1⟩)
      rw [h'.1, e3]
      refine ⟨fun c => by omega, fun c => c_typeAt o h' i0 i1 ⟨fun d => ?_, fun d => ?_⟩⟩
      · have k1 : ¬ kK k i = 1 := fun q => d (cTy_3.mpr q)
        rw [cl_1 k1] at q1
        exact q1 rfl I' f t0 t1 e3 hv
      · have k1 := cTy_3.mp d
        have b := (o.2.2 i i0 i1).2.2.2.2 k1
        have il := K_lt o i0 i1 (by rw [k1]; decide)
        have e7 := (h'.2 i i0 i1).2.2.2.2 k1
        rw [e3]
        refine c_numAt o h' i0 i1 ?_
        rw [e7]
        refine ⟨by omega, by unfold inR; omega, fun z13 h13 => ?_⟩
        have ez : z13 = kC k i := by omega
        rw [ez, e3]
        refine c_numAt o h' i0 i1 ?_
        rw [e7]
        refine ⟨by omega, by unfold inR; omega, fun z22 h22 => ?_⟩
        have ez2 : z22 = kR k i := by omega
        rw [ez2, ew', eh']
        have bad : ¬ (kC k i < w ∧ 0 ≤ kR k i ∧ kR k i < h) → wX5_readCells_85 Q p r I' R := fun nd => by
          rw [cl_2 k1 nd] at q0
          exact fl' 2 (by decide) q0
        refine ⟨fun c1 => bad (by omega), fun c1 => ⟨fun c2 => bad (by omega), fun c2 => ⟨fun c3 => ?_, fun c3 => bad (by omega)⟩⟩⟩
        have d' : kC k i < w ∧ 0 ≤ kR k i ∧ kR k i < h := ⟨by omega, by omega, c3⟩
        have cb := cell_b b.1 d'.1 d'.2.1 d'.2.2 w5 h5
        refine ⟨by unfold inR; omega, fun z25 h25 => ?_⟩
        rw [h25]
        refine c_has hv ⟨cb.1, by omega⟩ ⟨fun nh => ⟨fun c5 => ?_, fun c5 => ?_⟩, fun yh => ?_⟩
        · have nh' := b2_n.mp nh
          rw [hv.2.2.2.1] at c5
          rw [cl_5 k1 d' nh' (by omega)] at q1 q0
          refine c_addC hv hg.1 c5 cb.1 (by omega) (fun I33 f33 v33 => ?_)
          have p33 : I33 3 3 = i := by rw [f33 _ _ (by omega) (by omega)]; exact e3
          rw [p33]
          refine ⟨by unfold inR; omega, fun I38 e38 => ⟨by unfold inR; omega, fun z hz => ?_⟩⟩
          subst hz
          have G : ∀ b y, ¬ (b = 3 ∧ y = 3) → I38 b y = I33 b y := fun b y q => by subst e38; exact u2n q
          refine ih (x + 1) (i + 1) _ I38 (by omega) (by omega) (fun b y b3 br b130 => by rw [G b y (by omega), f33 b y br b130]; exact f b y b3 br b130) (by rw [G _ _ (by omega), f33 _ _ (by omega) (by omega)]; exact t0) (by rw [G _ _ (by omega), f33 _ _ (by omega) (by omega)]; exact t1) (by subst e38; exact u2e) (by omega) (by omega) (by omega) (rv_fr (fun y => G _ _ (by omega)) (fun y => G _ _ (by omega)) v33) (pgr_a hg cb.1 cb.2.1 nh' (by omega)) q1 q0
        · have nh' := b2_n.mp nh
          rw [hv.2.2.2.1] at c5
          have s5 := hg.2.1
          rw [cl_4 k1 d' nh' (by omega)] at q0
          exact fl' 4 (by decide) q0
        · have yh' := b2_y.mp ((b2_or _).resolve_left yh)
          rw [cl_3 k1 d' yh'] at q0
          exact fl' 3 (by decide) q0
  exact ⟨m, L m 0 i ρ I (Int.le_refl 0) (by omega) (fun _ _ _ _ _ => rfl) rfl rfl e3 i0 i1 im hv hg q1 q0⟩
theorem sw_k : ∀ κ : Nat, κ < 12 → swT (κ : Int) = if (κ : Int) = 11 then 0 else (κ : Int) + 1 := by unfold swT; decide +kernel
theorem c_isAllowed {κ : Nat} {v k2 : Int} {Q : Int → cI → cR → Prop} (hκ : κ < 12) (q1 : (κ = 5 → 1 ≤ v ∧ v ≤ 5) → (κ = 8 ∨ κ = 9 → 1 ≤ v ∧ v ≤ k2) → (κ = 10 → 1 ≤ v ∧ v ≤ 4) → Q 1 I R) (q0 : ¬ ((κ = 5 → 1 ≤ v ∧ v ≤ 5) ∧ (κ = 8 ∨ κ = 9 → 1 ≤ v ∧ v ≤ k2) ∧ (κ = 10 → 1 ≤ v ∧ v ≤ 4)) → Q 0 I R) : wX5_isAllowed κ v k2 I R Q := by
  have hs := sw_k κ hκ
  have ek : kN κ = (κ : Int) := rfl
  unfold wX5_isAllowed
  rw [ek, hs]
  refine ⟨by omega, fun c => ⟨fun d => q0 (by split at c <;> omega), fun d => ⟨fun e => q0 (by split at c <;> omega), fun e => q1 (by omega) (by split at c <;> omega) (by split at c <;> omega)⟩⟩, fun c => q1 (by split at c <;> omega) (by split at c <;> omega) (by split at c <;> omega), fun c => q1 (by split at c <;> omega) (by split at c <;> omega) (by split at c <;> omega), fun c => ⟨fun d => q0 (by split at c <;> omega), fun d => ⟨fun e => q0 (by split at c <;> omega), fun e => q1 (by split at c <;> omega) (by omega) (by split at c <;> omega)⟩⟩, fun c => ⟨fun d => q0 (by split at c <;> omega), fun d => ⟨fun e => q0 (by split at c <;> omega), fun e => q1 (by split at c <;> omega) (by omega) (by split at c <;> omega)⟩⟩, fun c => ⟨fun d => q0 (by split at c <;> omega), fun d => ⟨fun e => q0 (by split at c <;> omega), fun e => q1 (by split at c <;> omega) (by split at c <;> omega) (by omega)⟩⟩, fun c1 c2 c3 c4 c5 c6 => q1 (fun q => ?_) (fun q => ?_) (fun q => ?_)⟩
  · subst q; exact absurd (by decide) c1
  · rcases q with q | q
    · subst q; exact absurd (by decide) c4
    · subst q; exact absurd (by decide) c5
  · subst q; exact absurd (by decide) c6
theorem c_readNumber {r : Nat} {i : Int} {Q : Int → cI → cR → Prop} (o : okK k) (hp : p = 85 ∨ p = 89) (hr : isR r) (hk : cKV I k) (e3 : I 3 3 = i) (i0 : 0 ≤ i) (i1 : i ≤ kZ k) (k3 : kK k i = 3) (ek : I p 2 = kk) (hκ : R r 0 < 12)
    (q1 : (R r 0 = 5 → 1 ≤ kV' k i ∧ kV' k i ≤ 5) → (R r 0 = 8 ∨ R r 0 = 9 → 1 ≤ kV' k i ∧ kV' k i ≤ kk) → (R r 0 = 10 → 1 ≤ kV' k i ∧ kV' k i ≤ 4) → ∀ I', (∀ b x, ¬ (b = r ∧ x = 1) → ¬ (b = 3 ∧ x = 3) → I' b x = I b x) → I' r 1 = kV' k i → I' 3 3 = i + 1 → Q 1 I' R)
    (q0 : ¬ ((R r 0 = 5 → 1 ≤ kV' k i ∧ kV' k i ≤ 5) ∧ (R r 0 = 8 ∨ R r 0 = 9 → 1 ≤ kV' k i ∧ kV' k i ≤ kk) ∧ (R r 0 = 10 → 1 ≤ kV' k i ∧ kV' k i ≤ 4)) → ∀ I', fC r I I' → I' 3 0 = 2 → I' 3 1 = kS k i → Q 0 I' R) : wX5_readNumber p r I R Q := by
  unfold isR at hr
  have N1 := o.2.1
  have e7 := (hk.2 i i0 i1).2.2.2.1 k3
  have il := K_lt o i0 i1 (by rw [k3]; decide)
  unfold wX5_readNumber
  rw [e3]
  refine c_numAt o hk i0 i1 (fun I6 e6 => ?_)
  rw [e7] at e6
  have G : ∀ b x, ¬ (b = r ∧ x = 1) → I6 b x = I b x := fun b x q => by subst e6; exact u2n q
  have g1 : I6 r 1 = kV' k i := by subst e6; exact u2e
  have g2 : I6 p 2 = kk := by rw [G _ _ (by omega)]; exact ek
  have g3 : I6 3 3 = i := by rw [G _ _ (by omega)]; exact e3
  rw [g1, g2]
  refine c_isAllowed hκ (fun a1 a2 a3 => ⟨fun _ => ?_, fun n => absurd n (by decide)⟩) (fun n => ⟨fun z => absurd rfl z, fun _ => ?_⟩)
  · rw [g3]
    exact ⟨by unfold inR; omega, fun I15 e15 => q1 a1 a2 a3 I15 (fun b x w1 w2 => by subst e15; rw [u2n w2]; exact G b x w1) (by subst e15; rw [u2n (by omega)]; exact g1) (by subst e15; exact u2e)⟩
  · exact c_fail o (cKV_fr hk (fun b x b0 b1 => G b x (by omega))) g3 i0 i1 (fun I2 f2 w0 w1 => ⟨Or.inl rfl, q0 n I2 (fun b x b3 br b130 => by rw [f2 b x (by omega)]; exact G b x (by omega)) w0 w1⟩)
end RD
