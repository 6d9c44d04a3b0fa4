/-! ===== the meaning of a text: the class's rules ===== -/
section RE
variable {k : kT} {I0 I : cI} {R0 R : cR} {p a : Nat} {w h kk na n : Int} {ρ ρa : Int → Int → Int}
theorem dV_rng (d : dV I R p w h kk n ρ) : p = 85 ∨ p = 89 := d.1.1
/-- one rule more in the draft -/
theorem dV_a {I' : cI} {R' : cR} {σ : Int → Int} (d : dV I R p w h kk n ρ) (n0 : 0 ≤ n) (n1 : n < 65) (f1 : ∀ b x, b ≠ R (p + 2) n → b ≠ R (p + 2) n + 130 → b ≠ 3 → ¬ (b = p ∧ x = 5) → I' b x = I b x) (f2 : ∀ b x, ¬ (b = R (p + 2) n ∧ x = 0) → R' b x = R b x) (e5 : I' p 5 = n + 1) (hv : rv I' R' (R (p + 2) n) σ) : dV I' R' p w h kk (n + 1) (fun j => if j < n then ρ j else σ) := by
  have hp := dV_rng d
  obtain ⟨d1, d2, d3, d4, d5, d6, d7⟩ := d
  have hr : 93 ≤ R (p + 2) n := (rg_R (d1.2.1 n n0 n1)).1
  refine ⟨okp_fr d1 (fun j => f2 _ _ (by omega)), ?_, ?_, ?_, e5, ?_, fun c c0 c1 => ?_⟩
  · rw [f1 _ _ (by omega) (by omega) (by omega) (by omega)]; exact d2
  · rw [f1 _ _ (by omega) (by omega) (by omega) (by omega)]; exact d3
  · rw [f1 _ _ (by omega) (by omega) (by omega) (by omega)]; exact d4
  · refine pv_add d1 n0 n1 (fun b x q1 q2 q3 => f1 b x q2 q3 (by omega) (by omega)) f2 (pv_cg (fun i i0 i1 => by rw [if_pos i1]) d6) ?_
    rw [if_neg (by omega)]; exact hv
  · rw [f1 _ _ (by omega) (by omega) (by omega) (by omega)]; exact d7 c c0 c1
theorem dV_e {ρ' : Int → Int → Int} (d : dV I R p w h kk n ρ) (e : ∀ j, 0 ≤ j → j < n → ρ j = ρ' j) : dV I R p w h kk n ρ' := ⟨d.1, d.2.1, d.2.2.1, d.2.2.2.1, d.2.2.2.2.1, pv_cg e d.2.2.2.2.2.1, d.2.2.2.2.2.2⟩
theorem c_rows {Q : cI → cR → Prop} (d : dV I R p w h kk n ρ) (g : oF a I0 R0 na ρa I R) (hne : p ≠ a) (na1 : na ≤ 65) (w2 : 2 ≤ w) (w5 : w ≤ 5) (h2 : 2 ≤ h) (h5 : h ≤ 5) (n0 : 0 ≤ n) (n1 : n + h ≤ 40)
    (hQ : ∀ I' R', dV I' R' p w h kk (n + h) (addF ρ n (rowR w)) → oF a I0 R0 na ρa I' R' → (∀ x, I' 3 x = I 3 x) → Q I' R') : wX4_addRowRules p I R Q := by
  have hp := dV_rng d
  have rw4 : ∀ i j : Int, 0 ≤ j → rowR w i (4 + j) = j + w * i := fun i j j0 => by unfold rowR; rw [if_neg (by omega), if_neg (by omega)]; omega
  have L2 : ∀ (K : Int → cI → cR → Prop) (i : Int) (r : Nat) (I1 : cI) (R1 : cR), 0 ≤ i → i < h → isR r → I1 p 0 = w → (∀ I', fU r I1 I' → rv I' R1 r (rowR w i) → K (i + 1) I' R1) →
      ∀ (m : Nat) (x : Int) (I' : cI), 0 ≤ x → x ≤ w → w - x < m → fU r I1 I' → rv I' R1 r (pt (rowR w i) x) → wX4_addRowRules_20 Q p K m i r x I' R1 := by
    intro K i r I1 R1 i0 i1 hr ep hK m
    unfold isR at hr
    induction m with
    | zero => intro x I' x0 x1 x2; omega
    | succ m ih =>
      intro x I' x0 x1 x2 f v
      show wbX4_addRowRules_20 Q p K (wX4_addRowRules_20 Q p K m) i r x I' R1
      unfold wbX4_addRowRules_20
      rw [f p 0 (by omega) (by omega), ep]
      refine ⟨fun c => ⟨by unfold inR; omega, fun z hz => ?_⟩, fun c => ?_⟩
      · subst hz
        have ex : x = w := by omega
        subst ex
        have e : pt (rowR x i) x = rowR x i := pt_e (ρ := rowR x i)
        rw [e] at v; exact hK I' f v
      · have cb := cell_b (C := x) (R := i) (w := w) (h := h) x0 (by omega) i0 i1 w5 h5
        refine ⟨by unfold inR; omega, c_addCell v x0 (by omega) (rw4 i x x0) cb.1 (by omega) (fun I2 f2 v2 => ⟨by unfold inR; omega, fun z hz => ?_⟩)⟩
        subst hz
        exact ih (x + 1) I2 (by omega) (by omega) (by omega) (fU_t f f2) v2
  have L1 : ∀ (m : Nat) (i : Int) (I' : cI) (R' : cR), 0 ≤ i → i ≤ h → h - i < m → dV I' R' p w h kk (n + i) (addF ρ n (rowR w)) → oF a I0 R0 na ρa I' R' → (∀ x, I' 3 x = I 3 x) → wX4_addRowRules_2 Q p m i I' R' := by
    intro m
    induction m with
    | zero => intro i I' R' i0 i1 i2; omega
    | succ m ih =>
      intro i I' R' i0 i1 i2 d' g' t
      show wbX4_addRowRules_2 Q p (wX4_addRowRules_2 Q p m) i I' R'
      unfold wbX4_addRowRules_2
      rw [d'.2.2.1]
      refine ⟨fun c => ?_, fun c => ?_⟩
      · have ei : i = h := by omega
        subst ei
        exact hQ I' R' d' g' t
      · have hr := rg_R (d'.1.2.1 (n + i) (by omega) (by omega))
        have hr' : 93 ≤ R' (p + 2) (n + i) ∧ R' (p + 2) (n + i) < 223 := hr
        refine c_addRule d'.1 d'.2.2.2.2.1 (by omega) (by omega) (fun I3 R4 g1 g2 g3 g4 g5 g6 g7 g8 => ⟨6, ?_⟩)
        refine L2 _ i (R' (p + 2) (n + i)) I3 R4 i0 (by omega) hr (by rw [g1 _ _ (by omega) (by omega)]; exact d'.2.1) (fun I4 f4 v4 => ?_) 6 0 I3 (Int.le_refl 0) (by omega) (by omega) fU_r (rv_0 (by rw [g3]; rfl) g5 g6 g7 g8)
        have F : ∀ b x, b ≠ R' (p + 2) (n + i) → b ≠ R' (p + 2) (n + i) + 130 → ¬ (b = p ∧ x = 5) → I4 b x = I' b x := fun b x z1 z2 z3 => by rw [f4 b x z1 z2]; exact g1 b x z1 z3
        refine ih (i + 1) I4 R4 (by omega) (by omega) (by omega) ?_ (oF_r g' d'.1 hne na1 (show 0 ≤ n + i by omega) (by omega) (fun b x z1 z2 z3 z4 z5 => F b x z1 z2 (by omega)) g2) (fun x => by rw [F _ _ (by omega) (by omega) (by omega)]; exact t x)
        have da := dV_a (σ := rowR w i) d' (by omega) (by omega) (fun b x z1 z2 z3 z4 => F b x z1 z2 z4) g2 (by rw [f4 _ _ (by omega) (by omega)]; exact g4) v4
        rw [show n + (i + 1) = n + i + 1 by omega]
        refine dV_e da (fun j j0 j1 => ?_)
        by_cases c : j < n + i
        · rw [if_pos c]
        · rw [if_neg c]; unfold addF; rw [if_neg (by omega), show j - n = i by omega]
  have d0 : dV I R p w h kk (n + 0) (addF ρ n (rowR w)) := by
    rw [Int.add_zero]
    exact dV_e d (fun j j0 j1 => by unfold addF; rw [if_pos j1])
  exact ⟨6, L1 6 0 I R (Int.le_refl 0) (by omega) (by omega) d0 g (fun _ => rfl)⟩
theorem c_cols {Q : cI → cR → Prop} (d : dV I R p w h kk n ρ) (g : oF a I0 R0 na ρa I R) (hne : p ≠ a) (na1 : na ≤ 65) (w2 : 2 ≤ w) (w5 : w ≤ 5) (h2 : 2 ≤ h) (h5 : h ≤ 5) (n0 : 0 ≤ n) (n1 : n + w ≤ 40)
    (hQ : ∀ I' R', dV I' R' p w h kk (n + w) (addF ρ n (colR w h)) → oF a I0 R0 na ρa I' R' → (∀ x, I' 3 x = I 3 x) → Q I' R') : wX4_addColumnRules p I R Q := by
  have hp := dV_rng d
  have rw4 : ∀ i j : Int, 0 ≤ j → colR w h i (4 + j) = i + w * j := fun i j j0 => by unfold colR; rw [if_neg (by omega), if_neg (by omega), show 4 + j - 4 = j by omega]
  have L2 : ∀ (K : Int → cI → cR → Prop) (i : Int) (r : Nat) (I1 : cI) (R1 : cR), 0 ≤ i → i < w → isR r → I1 p 0 = w → I1 p 1 = h → (∀ I', fU r I1 I' → rv I' R1 r (colR w h i) → K (i + 1) I' R1) →
      ∀ (m : Nat) (x : Int) (I' : cI), 0 ≤ x → x ≤ h → h - x < m → fU r I1 I' → rv I' R1 r (pt (colR w h i) x) → wX4_addColumnRules_20 Q p K m i r x I' R1 := by
    intro K i r I1 R1 i0 i1 hr ep eh hK m
    unfold isR at hr
    induction m with
    | zero => intro x I' x0 x1 x2; omega
    | succ m ih =>
      intro x I' x0 x1 x2 f v
      show wbX4_addColumnRules_20 Q p K (wX4_addColumnRules_20 Q p K m) i r x I' R1
      unfold wbX4_addColumnRules_20
      rw [f p 0 (by omega) (by omega), ep, f p 1 (by omega) (by omega), eh]
      refine ⟨fun c => ⟨by unfold inR; omega, fun z hz => ?_⟩, fun c => ?_⟩
      · subst hz
        have ex : x = h := by omega
        subst ex
        have e : pt (colR w x i) x = colR w x i := pt_e (ρ := colR w x i)
        rw [e] at v; exact hK I' f v
      · have cb := cell_b (C := i) (R := x) (w := w) (h := h) i0 i1 x0 (by omega) w5 h5
        refine ⟨by unfold inR; omega, c_addCell v x0 (by omega) (rw4 i x x0) cb.1 (by omega) (fun I2 f2 v2 => ⟨by unfold inR; omega, fun z hz => ?_⟩)⟩
        subst hz
        exact ih (x + 1) I2 (by omega) (by omega) (by omega) (fU_t f f2) v2
  have L1 : ∀ (m : Nat) (i : Int) (I' : cI) (R' : cR), 0 ≤ i → i ≤ w → w - i < m → dV I' R' p w h kk (n + i) (addF ρ n (colR w h)) → oF a I0 R0 na ρa I' R' → (∀ x, I' 3 x = I 3 x) → wX4_addColumnRules_2 Q p m i I' R' := by
    intro m
    induction m with
    | zero => intro i I' R' i0 i1 i2; omega
    | succ m ih =>
      intro i I' R' i0 i1 i2 d' g' t
      show wbX4_addColumnRules_2 Q p (wX4_addColumnRules_2 Q p m) i I' R'
      unfold wbX4_addColumnRules_2
      rw [d'.2.1]
      refine ⟨fun c => ?_, fun c => ?_⟩
      · have ei : i = w := by omega
        subst ei
        exact hQ I' R' d' g' t
      · have hr := rg_R (d'.1.2.1 (n + i) (by omega) (by omega))
        have hr' : 93 ≤ R' (p + 2) (n + i) ∧ R' (p + 2) (n + i) < 223 := hr
        refine c_addRule d'.1 d'.2.2.2.2.1 (by omega) (by omega) (fun I3 R4 g1 g2 g3 g4 g5 g6 g7 g8 => ⟨6, ?_⟩)
        refine L2 _ i (R' (p + 2) (n + i)) I3 R4 i0 (by omega) hr (by rw [g1 _ _ (by omega) (by omega)]; exact d'.2.1) (by rw [g1 _ _ (by omega) (by omega)]; exact d'.2.2.1) (fun I4 f4 v4 => ?_) 6 0 I3 (Int.le_refl 0) (by omega) (by omega) fU_r (rv_0 (by rw [g3]; rfl) g5 g6 g7 g8)
        have F : ∀ b x, b ≠ R' (p + 2) (n + i) → b ≠ R' (p + 2) (n + i) + 130 → ¬ (b = p ∧ x = 5) → I4 b x = I' b x := fun b x z1 z2 z3 => by rw [f4 b x z1 z2]; exact g1 b x z1 z3
        refine ih (i + 1) I4 R4 (by omega) (by omega) (by omega) ?_ (oF_r g' d'.1 hne na1 (show 0 ≤ n + i by omega) (by omega) (fun b x z1 z2 z3 z4 z5 => F b x z1 z2 (by omega)) g2) (fun x => by rw [F _ _ (by omega) (by omega) (by omega)]; exact t x)
        have da := dV_a (σ := colR w h i) d' (by omega) (by omega) (fun b x z1 z2 z3 z4 => F b x z1 z2 z4) g2 (by rw [f4 _ _ (by omega) (by omega)]; exact g4) v4
        rw [show n + (i + 1) = n + i + 1 by omega]
        refine dV_e da (fun j j0 j1 => ?_)
        by_cases c : j < n + i
        · rw [if_pos c]
        · rw [if_neg c]; unfold addF; rw [if_neg (by omega), show j - n = i by omega]
  have d0 : dV I R p w h kk (n + 0) (addF ρ n (colR w h)) := by
    rw [Int.add_zero]
    exact dV_e d (fun j j0 j1 => by unfold addF; rw [if_pos j1])
  exact ⟨6, L1 6 0 I R (Int.le_refl 0) (by omega) (by omega) d0 g (fun _ => rfl)⟩
theorem c_readC {r : Nat} {i : Int} {C : Int × Int × (Int → Int)} {Q : Int → cI → cR → Prop} (hC : rulC k w h i = C) (o : okK k) (hp : p = 85 ∨ p = 89) (hr : isR r) (w2 : 2 ≤ w) (w5 : w ≤ 5) (h2 : 2 ≤ h) (h5 : h ≤ 5) (hk : cKV I k) (e3 : I 3 3 = i + 1 + nuT (kW k i)) (i0 : 0 ≤ i + 1 + nuT (kW k i)) (i1 : i + 1 + nuT (kW k i) ≤ kZ k) (ew : I p 0 = w) (eh : I p 1 = h) (hv : rv I R r (rl0 k i))
    (q1 : C.1 = 0 → ∀ I', fC r I I' → I' 3 0 = I 3 0 → I' 3 1 = I 3 1 → I' 3 3 = C.2.1 → rv I' R r C.2.2 → Q 1 I' R)
    (q0 : ¬ C.1 = 0 → ∀ I', fC r I I' → I' 3 0 = C.1 → I' 3 1 = kS k C.2.1 → Q 0 I' R) : wX5_readCells p r I R Q := by
  subst hC
  have hm : (((kZ k + 1).toNat : Nat) : Int) = kZ k + 1 := by have := o.1; omega
  have hl : kZ k - (i + 1 + nuT (kW k i)) < ((kZ k + 1).toNat : Nat) := by omega
  exact c_readCells o hp hr w2 w5 h2 h5 (kZ k + 1).toNat (i + 1 + nuT (kW k i)) (rl0 k i) hk e3 i0 i1 hl ew eh hv rl0_g hm q1 q0
theorem c_okC {i : Int} {C : Int × Int × (Int → Int)} (hC : rulC k w h i = C) (o : okK k) (w5 : w ≤ 5) (h5 : h ≤ 5) (i0 : 0 ≤ i + 1 + nuT (kW k i)) (i1 : i + 1 + nuT (kW k i) ≤ kZ k) : i + 1 + nuT (kW k i) ≤ C.2.1 ∧ C.2.1 ≤ kZ k ∧ (C.1 = 0 → C.2.1 = enC k (i + 1 + nuT (kW k i))) := by
  subst hC
  have hl : kZ k - (i + 1 + nuT (kW k i)) < ((kZ k + 1).toNat : Nat) := by have := o.1; omega
  have cc := cl_ok (w := w) (h := h) o w5 h5 (kZ k + 1).toNat (i + 1 + nuT (kW k i)) (rl0 k i) i0 i1 hl rl0_g
  exact ⟨cc.1, cc.2.1, fun q => (cc.2.2.2 q).1⟩
theorem rul_1 {i : Int} {C : Int × Int × (Int → Int)} (hC : rulC k w h i = C) (ok1 : 1 ≤ nuT (kW k i) → nok kk (kW k i) 0 (kV' k (i + 1))) (ok2 : 2 ≤ nuT (kW k i) → nok kk (kW k i) 1 (kV' k (i + 2))) : rul k w h kk i = if C.1 = 0 ∧ kW k i = 9 then rulI k kk C else C := by
  subst hC
  unfold rul
  rw [if_neg (fun q => q.2 (ok1 q.1)), if_neg (fun q => q.2 (ok2 q.1))]
theorem rul_2 {i : Int} (ok1 : 1 ≤ nuT (kW k i) → nok kk (kW k i) 0 (kV' k (i + 1))) (c2 : 2 ≤ nuT (kW k i)) (n2 : ¬ nok kk (kW k i) 1 (kV' k (i + 2))) : rul k w h kk i = (2, i + 2, rl0 k i) := by
  unfold rul
  rw [if_neg (fun q => q.2 (ok1 q.1)), if_pos ⟨c2, n2⟩]
theorem rul_3 {i : Int} (c1 : 1 ≤ nuT (kW k i)) (n1 : ¬ nok kk (kW k i) 0 (kV' k (i + 1))) : rul k w h kk i = (2, i + 1, rl0 k i) := by
  unfold rul
  rw [if_pos ⟨c1, n1⟩]
/-- a rule with its numbers and cells -/
theorem c_one1 {r : Nat} {i : Int} {Q : Int → cI → cR → Prop} (o : okK k) (hp : p = 85 ∨ p = 89) (hr : isR r) (w2 : 2 ≤ w) (w5 : w ≤ 5) (h2 : 2 ≤ h) (h5 : h ≤ 5) (k5 : kk ≤ 5) (i0 : 0 ≤ i) (i1 : i ≤ kZ k) (gd0 : gdR k i) (c12 : kW k i < 12) (hk : cKV I k) (e3 : I 3 3 = i + 1) (ew : I p 0 = w) (eh : I p 1 = h) (ek : I p 2 = kk) (eκ : kN (R r 0) = kW k i) (z1 : I r 1 = 0) (z2 : I r 2 = 0) (z3 : I r 3 = 0) (z5 : I r 5 = 0)
    (q1 : (rul k w h kk i).1 = 0 → ∀ I', fC r I I' → I' 3 0 = I 3 0 → I' 3 1 = I 3 1 → I' 3 3 = (rul k w h kk i).2.1 → rv I' R r (rul k w h kk i).2.2 → Q 1 I' R)
    (q0 : ¬ (rul k w h kk i).1 = 0 → ∀ I', fC r I I' → I' 3 0 = (rul k w h kk i).1 → I' 3 1 = kS k (rul k w h kk i).2.1 → Q 0 I' R) :
    ((kA (R r 0)) < 1 → wX5_readRule_135 Q p r I R) ∧ (¬ (kA (R r 0)) < 1 → wX5_readNumber p r I R (fun r22 I23 R24 => (r22 = 0 → Q 0 I23 R24) ∧ (¬ r22 = 0 → wX5_readRule_135 Q p r I23 R24))) := by
  have hr' : 93 ≤ r ∧ r < 223 := hr
  have N1 := o.2.1
  have hp3 : p ≠ 3 ∧ p ≠ r ∧ p ≠ r + 130 := by omega
  have fF := fun (_ : Unit) => rfm_ok o i0 i1 gd0.1 gd0.2
  have k2 : kK k i = 2 := (fF ()).1
  have w0 : 0 ≤ kW k i := (fF ()).2.1
  have f12F := fun (_ : Unit) => (fF ()).2.2.2.2.2 c12
  have e00 := (f12F ()).1
  have e01 := (f12F ()).2.1
  have nuF := fun (_ : Unit) => nu_i (w := kW k i) w0 (by omega)
  have nu0 := (nuF ()).1
  have nu1 := (nuF ()).2.1
  have il := K_lt o i0 i1 (by rw [k2]; decide)
  have eκ' : ((R r 0 : Nat) : Int) = kW k i := eκ
  have eA : kA (R r 0) = nuT (kW k i) := by rw [← (nuF ()).2.2.1 c12]; congr 1; omega
  have k31 : 1 ≤ nuT (kW k i) → kK k (i + 1) = 3 := fun q => by
    have := (fF ()).2.2.2.1 0 (Int.le_refl 0) (by omega)
    rw [Int.add_zero] at this; exact this
  have k32 : 2 ≤ nuT (kW k i) → kK k (i + 2) = 3 := fun q => by
    have := (fF ()).2.2.2.1 1 (by decide) (by omega)
    rw [show i + 1 + 1 = i + 2 by omega] at this; exact this
  obtain ⟨C, hC⟩ : ∃ C, rulC k w h i = C := ⟨_, rfl⟩
  have ccF := fun (_ : Unit) => c_okC (w := w) (h := h) hC o w5 h5 (by omega) (by omega)
  have cc1 := (ccF ()).1
  have cc2 := (ccF ()).2.1
  -- behind the numbers
  have s154 : (1 ≤ nuT (kW k i) → nok kk (kW k i) 0 (kV' k (i + 1))) → (2 ≤ nuT (kW k i) → nok kk (kW k i) 1 (kV' k (i + 2))) → ∀ I1, fC r I I1 → I1 3 0 = I 3 0 → I1 3 1 = I 3 1 → I1 3 3 = i + 1 + nuT (kW k i) → rv I1 R r (rl0 k i) → wX5_readRule_154 Q p r I1 R := fun ok1 ok2 I1 f1 t0 t1 e1 v1 => by
    have er := rul_1 (w := w) (h := h) (kk := kk) hC ok1 ok2
    rw [er] at q1 q0
    have h1 : cKV I1 k := cKV_fr hk (fun b y b0 b1 => f1 b y (by omega) (by omega) (by omega))
    refine c_readC (w := w) (h := h) hC o hp hr w2 w5 h2 h5 h1 e1 (by omega) (by omega) ((f1 _ _ hp3.1 hp3.2.1 hp3.2.2).trans ew) ((f1 _ _ hp3.1 hp3.2.1 hp3.2.2).trans eh) v1 (fun c0 I2 f2 u0 u1 e2 v2 => ?_) (fun c0 I2 f2 u0 u1 => ⟨fun _ => ?_, fun n => absurd rfl n⟩)
    · skip
      have f2' : fC r I I2 := fun b y b3 br b130 => (f2 b y b3 br b130).trans (f1 b y b3 br b130)
      have c4 := (ccF ()).2.2 c0
      refine ⟨fun n => absurd n (by decide), fun _ => ⟨fun n9 => ?_, fun y9 => ?_⟩⟩
      · rw [if_neg (fun q => n9 (by omega))] at q1
        exact q1 c0 I2 f2' (by rw [u0, t0]) (by rw [u1, t1]) e2 v2
      · have w9 : kW k i = 9 := by omega
        rw [if_pos ⟨c0, w9⟩] at q1 q0
        have f9 := (f12F ()).2.2.1 w9
        have k3 : kK k C.2.1 = 3 := by rw [c4]; exact f9.1
        have h2' : cKV I2 k := cKV_fr h1 (fun b y b0 b1 => f2 b y (by omega) (by omega) (by omega))
        refine c_readNumber (kk := kk) o hp hr h2' e2 (by omega) cc2 k3 ((f2' _ _ hp3.1 hp3.2.1 hp3.2.2).trans ek) (by omega) (fun b1 b2 b3 I3 f3 g1 g3 => ⟨fun n => absurd n (by decide), fun _ => ?_⟩) (fun nb I3 f3 g0 g1 => ⟨fun _ => ?_, fun n => absurd rfl n⟩)
        · have e9 : rulI k kk C = (0, C.2.1 + 1, set1 C.2.2 (kV' k C.2.1)) := if_pos (b2 (Or.inr y9))
          rw [e9] at q1
          have v3 : rv I3 R r (set1 C.2.2 (kV' k C.2.1)) := by
            obtain ⟨v20, v21, v22, v23, v24, v25⟩ := v2
            refine ⟨v20, g1, ?_, ?_, fun j j0 j1 => ?_, fun c c0 c1 => ?_⟩
            · rw [f3 _ _ (by omega) (by omega)]; exact v22
            · rw [f3 _ _ (by omega) (by omega)]; exact v23
            · rw [f3 _ _ (by omega) (by omega)]; unfold set1; rw [if_neg (by omega)]; exact v24 j j0 j1
            · rw [f3 _ _ (by omega) (by omega), v25 c c0 c1]
              exact ⟨fun ⟨j, j0, j1, q⟩ => ⟨j, j0, j1, by unfold set1; rw [if_neg (by omega)]; exact q⟩, fun ⟨j, j0, j1, q⟩ => ⟨j, j0, j1, by unfold set1 at q; rw [if_neg (by omega)] at q; exact q⟩⟩
          exact q1 rfl I3 (fun b y b3 br b130 => (f3 b y (by omega) (by omega)).trans (f2' b y b3 br b130)) (by rw [f3 _ _ (by omega) (by omega), u0, t0]) (by rw [f3 _ _ (by omega) (by omega), u1, t1]) g3 v3
        · have e9 : rulI k kk C = (2, C.2.1, C.2.2) := if_neg (fun q => nb ⟨fun z => by omega, fun _ => q, fun z => by omega⟩)
          rw [e9] at q0
          exact q0 (by show ¬ (2 : Int) = 0; decide) I3 (fun b y b3 br b130 => (f3 b y b3 br b130).trans (f2' b y b3 br b130)) g0 g1
    · skip
      rw [if_neg (fun q => c0 q.1)] at q0
      exact q0 c0 I2 (fun b y b3 br b130 => (f2 b y b3 br b130).trans (f1 b y b3 br b130)) u0 u1
  -- behind the first number
  have s135 : (1 ≤ nuT (kW k i) → nok kk (kW k i) 0 (kV' k (i + 1))) → ∀ I1, fC r I I1 → I1 3 0 = I 3 0 → I1 3 1 = I 3 1 → I1 3 3 = (if 1 ≤ nuT (kW k i) then i + 2 else i + 1) → I1 r 1 = rl0 k i 1 → I1 r 2 = 0 → I1 r 3 = 0 → I1 r 5 = 0 → wX5_readRule_135 Q p r I1 R := fun ok1 I1 f1 t0 t1 e1 v1 v2 v3 v5 => by
    have h1 : cKV I1 k := cKV_fr hk (fun b y b0 b1 => f1 b y (by omega) (by omega) (by omega))
    have r2 : rl0 k i 2 = if 2 ≤ nuT (kW k i) then kV' k (i + 2) else 0 := rfl
    have mk : ∀ (I2 : cI), I2 r 1 = rl0 k i 1 → I2 r 2 = rl0 k i 2 → I2 r 3 = 0 → I2 r 5 = 0 → rv I2 R r (rl0 k i) := fun I2 a1 a2 a3 a5 => by
      have := rv_0 (I := I2) (R := R) (r := r) (ρ := rl0 k i) eκ a1 a2 a3 a5
      have e : pt (rl0 k i) 0 = rl0 k i := pt_e (ρ := rl0 k i)
      rw [e] at this; exact this
    unfold wX5_readRule_135
    rw [eA]
    refine ⟨fun c => ?_, fun c => ?_⟩
    · refine s154 ok1 (fun q => by omega) I1 f1 t0 t1 ?_ (mk I1 v1 (by rw [r2, if_neg (by omega)]; exact v2) v3 v5)
      rw [e1]; split <;> omega
    · have c2 : 2 ≤ nuT (kW k i) := by omega
      have e8 := (nuF ()).2.2.2.2.1 (by omega)
      rw [if_pos (by omega)] at e1
      have k3 := k32 c2
      have e7 := (h1.2 (i + 2) (by omega) (by omega)).2.2.2.1 k3
      unfold wX5_readTimes
      rw [e1]
      refine c_numAt o h1 (by omega) (by omega) (fun I6 e6 => ?_)
      rw [e7] at e6
      have G : ∀ b x, ¬ (b = r ∧ x = 2) → I6 b x = I1 b x := fun b x q => by subst e6; exact u2n q
      have g2 : I6 r 2 = kV' k (i + 2) := by subst e6; exact u2e
      have g3 : I6 3 3 = i + 2 := by rw [G _ _ (by omega)]; exact e1
      rw [g2, g3]
      refine ⟨fun c5 => ⟨by unfold inR; omega, fun I10 e10 => ⟨fun n => absurd n (by decide), fun _ => ?_⟩⟩, fun c5 => ?_⟩
      · have G2 : ∀ b x, ¬ (b = 3 ∧ x = 3) → I10 b x = I6 b x := fun b x q => by subst e10; exact u2n q
        refine s154 ok1 (fun _ => ⟨fun _ => ⟨fun z => absurd z (by decide), fun _ => c5⟩, fun z => by omega, fun z => by omega⟩) I10 (fun b y b3 br b130 => by rw [G2 b y (by omega), G b y (by omega)]; exact f1 b y b3 br b130) (by rw [G2 _ _ (by omega), G _ _ (by omega)]; exact t0) (by rw [G2 _ _ (by omega), G _ _ (by omega)]; exact t1) (by subst e10; rw [u2e]; omega) (mk I10 (by rw [G2 _ _ (by omega), G _ _ (by omega)]; exact v1) (by rw [G2 _ _ (by omega), g2, r2, if_pos c2]) (by rw [G2 _ _ (by omega), G _ _ (by omega)]; exact v3) (by rw [G2 _ _ (by omega), G _ _ (by omega)]; exact v5))
      · have er : rul k w h kk i = (2, i + 2, rl0 k i) := rul_2 ok1 c2 (fun q => c5 ((q.1 e8).2 (by decide)))
        rw [er] at q0
        exact c_fail o (cKV_fr h1 (fun b x b0 b1 => G b x (by omega))) g3 (by omega) (by omega) (fun I2 f2 w0 w1 => ⟨Or.inl rfl, fun _ => q0 (by show ¬ (2 : Int) = 0; decide) I2 (fun b y b3 br b130 => by rw [f2 b y (by omega), G b y (by omega)]; exact f1 b y b3 br b130) w0 w1, fun n => absurd rfl n⟩)
  rw [eA]
  have r1 : rl0 k i 1 = if 1 ≤ nuT (kW k i) then kV' k (i + 1) else 0 := rfl
  refine ⟨fun c => s135 (fun q => by omega) I (fun _ _ _ _ _ => rfl) rfl rfl (by rw [e3, if_neg (by omega)]) (by rw [z1, r1, if_neg (by omega)]) z2 z3 z5, fun c => ?_⟩
  have c1 : 1 ≤ nuT (kW k i) := by omega
  refine c_readNumber (kk := kk) o hp hr hk e3 (by omega) (by omega) (k31 c1) ek (by omega) (fun b1 b2 b3 I3 f3 g1 g3 => ⟨fun n => absurd n (by decide), fun _ => ?_⟩) (fun nb I3 f3 g0 g1 => ⟨fun _ => ?_, fun n => absurd rfl n⟩)
  · refine s135 (fun _ => ⟨fun z => ⟨fun _ => b2 (Or.inl (by omega)), fun q => absurd rfl q⟩, fun z => b1 (by omega), fun z => b3 (by omega)⟩) I3 (fun b y b3' br b130 => f3 b y (by omega) (by omega)) (f3 _ _ (by omega) (by omega)) (f3 _ _ (by omega) (by omega)) (by rw [g3, if_pos c1]; omega) (by rw [g1, r1, if_pos c1]) (by rw [f3 _ _ (by omega) (by omega)]; exact z2) (by rw [f3 _ _ (by omega) (by omega)]; exact z3) (by rw [f3 _ _ (by omega) (by omega)]; exact z5)
  · have w9 : kW k i ≠ 9 := fun z => by have := (nuF ()).2.2.2.2.2.1 z; omega
    have er : rul k w h kk i = (2, i + 1, rl0 k i) := rul_3 c1 (fun q => nb ⟨fun z => q.2.1 (by omega), fun z => (q.1 (by omega)).1 rfl, fun z => q.2.2 (by omega)⟩)
    rw [er] at q0
    exact q0 (by show ¬ (2 : Int) = 0; decide) I3 f3 g0 g1
end RE
