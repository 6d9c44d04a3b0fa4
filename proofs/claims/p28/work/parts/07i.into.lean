/-! ===== the meaning of a text: the class, all of it ===== -/
noncomputable def szs (k : kT) : Int × Int := if ¬ (2 ≤ kV' k 1 ∧ kV' k 1 ≤ 5) then (2, 1) else if ¬ (2 ≤ kV' k 2 ∧ kV' k 2 ≤ 5) then (2, 2) else if ¬ (2 ≤ kV' k 3 ∧ kV' k 3 ≤ 5) then (2, 3) else (0, 4)
section RI
variable {k : kT} {I0 I : cI} {R0 R : cR} {p a : Nat} {w h kk na : Int} {ρa : Int → Int → Int}
theorem fml_s (o : okK k) {m : Nat} {i : Int} (c0 : ¬ kK k i = 0) (hf : (fml k (m + 1) i).1 = 1) : gdR k i ∧ (fml k m ((rfm k i).2 + 1)).1 = 1 := by
  by_cases c1 : (rfm k i).1 = 0
  · have e : fml k (m + 1) i = rfm k i := (if_neg c0).trans (if_pos c1)
    rw [e, c1] at hf; exact absurd hf (by decide)
  · by_cases c4 : kK k (rfm k i).2 = 4
    · have e : fml k (m + 1) i = fml k m ((rfm k i).2 + 1) := (if_neg c0).trans ((if_neg c1).trans (if_pos c4))
      rw [e] at hf; exact ⟨⟨c1, c4⟩, hf⟩
    · have e : fml k (m + 1) i = (0, (rfm k i).2) := (if_neg c0).trans ((if_neg c1).trans (if_neg c4))
      rw [e] at hf; exact absurd hf (by show ¬ (0 : Int) = 1; decide)
section MRL
variable {m : Nat} {i n : Int} {ρ : Int → Int → Int}
theorem mrl_0 (c0 : kK k i = 0) : mrl k w h kk (m + 1) i n ρ = (0, i, n, ρ) := if_pos c0
theorem mrl_4 (c0 : ¬ kK k i = 0) (c : 40 < n + mor w h (kW k i)) : mrl k w h kk (m + 1) i n ρ = (4, i, n, ρ) := (if_neg c0).trans (if_pos c)
theorem mrl_12 (c0 : ¬ kK k i = 0) (c : ¬ 40 < n + mor w h (kW k i)) (c12 : kW k i = 12) : mrl k w h kk (m + 1) i n ρ = mrl k w h kk m (i + 2) (n + h) (addF ρ n (rowR w)) := (if_neg c0).trans ((if_neg c).trans (if_pos c12))
theorem mrl_13 (c0 : ¬ kK k i = 0) (c : ¬ 40 < n + mor w h (kW k i)) (c12 : ¬ kW k i = 12) (c13 : kW k i = 13) : mrl k w h kk (m + 1) i n ρ = mrl k w h kk m (i + 2) (n + w) (addF ρ n (colR w h)) := (if_neg c0).trans ((if_neg c).trans ((if_neg c12).trans (if_pos c13)))
theorem mrl_r (c0 : ¬ kK k i = 0) (c : ¬ 40 < n + mor w h (kW k i)) (c12 : ¬ kW k i = 12) (c13 : ¬ kW k i = 13) (cr : (rul k w h kk i).1 = 0) : mrl k w h kk (m + 1) i n ρ = mrl k w h kk m ((rul k w h kk i).2.1 + 1) (n + 1) (addF ρ n (fun _ => (rul k w h kk i).2.2)) := (if_neg c0).trans ((if_neg c).trans ((if_neg c12).trans ((if_neg c13).trans (if_pos cr))))
theorem mrl_e (c0 : ¬ kK k i = 0) (c : ¬ 40 < n + mor w h (kW k i)) (c12 : ¬ kW k i = 12) (c13 : ¬ kW k i = 13) (cr : ¬ (rul k w h kk i).1 = 0) : mrl k w h kk (m + 1) i n ρ = ((rul k w h kk i).1, (rul k w h kk i).2.1, n, ρ) := (if_neg c0).trans ((if_neg c).trans ((if_neg c12).trans ((if_neg c13).trans (if_neg cr))))
end MRL
theorem oF_k {I' : cI} (h' : cKV I' k) {I2 : cI} (f : ∀ b x, 4 ≤ b → b ≤ 7 → I2 b x = I' b x) : cKV I2 k := cKV_fr h' f
theorem c_readRulesL {Q : Int → cI → cR → Prop} (o : okK k) (hp : p = 85 ∨ p = 89) (ha : a = 85 ∨ a = 89) (hne : p ≠ a) (na1 : na ≤ 65) (w2 : 2 ≤ w) (w5 : w ≤ 5) (h2 : 2 ≤ h) (h5 : h ≤ 5) (k5 : kk ≤ 5) (h0 : cKV I0 k) (e00 e01 : Int) : ∀ (m : Nat) (x i n : Int) (ρ : Int → Int → Int) (I' : cI) (R' : cR), 0 ≤ x → x ≤ i → 0 ≤ i → i ≤ kZ k → kZ k - i < m → (fml k m i).1 = 1 → 0 ≤ n → n ≤ 40 → dV I' R' p w h kk n ρ → oF a I0 R0 na ρa I' R' → I' 3 3 = i → I' 3 0 = e00 → I' 3 1 = e01 →
    ((mrl k w h kk m i n ρ).1 = 0 → ∀ I2 R2, dV I2 R2 p w h kk (mrl k w h kk m i n ρ).2.2.1 (mrl k w h kk m i n ρ).2.2.2 → oF a I0 R0 na ρa I2 R2 → I2 3 0 = e00 → I2 3 1 = e01 → Q 1 I2 R2) →
    (¬ (mrl k w h kk m i n ρ).1 = 0 → ∀ I2 R2, okp R2 p → oF a I0 R0 na ρa I2 R2 → I2 3 0 = (mrl k w h kk m i n ρ).1 → I2 3 1 = kS k (mrl k w h kk m i n ρ).2.1 → Q 0 I2 R2) → wX5_readRules_7 Q p m x I' R' := by
  intro m
  induction m with
  | zero => intro x i n ρ I' R' x0 x1 i0 i1 i2; omega
  | succ m ih =>
    intro x i n ρ I' R' x0 x1 i0 i1 i2 hf n0 n1 d g e3 t0 t1 q1 q0
    show wbX5_readRules_7 Q p (wX5_readRules_7 Q p m) x I' R'
    unfold wbX5_readRules_7
    have kv : ∀ {I2 : cI} {R2 : cR}, oF a I0 R0 na ρa I2 R2 → cKV I2 k := fun g2 => cKV_fr h0 (fun b y b0 b1 => g2.2.2.2 b y (by omega))
    have hk := kv g
    have N1 := o.2.1
    rw [hk.1, e3]
    refine ⟨fun c => by omega, fun c => c_typeAt o hk i0 i1 ⟨fun dd => ?_, fun dd => ?_⟩⟩
    · by_cases c0 : kK k i = 0
      · rw [mrl_0 c0] at q1
        exact q1 rfl I' R' d g t0 t1
      · have s := fml_s o c0 hf
        have f := rfm_ok o i0 i1 s.1.1 s.1.2
        exact absurd (cTy_1.mpr ⟨f.1, by have := f.2.1; intro z; omega⟩) dd
    · have k2 := (cTy_1.mp dd).1
      have c0 : ¬ kK k i = 0 := by rw [k2]; decide
      have il := K_lt o i0 i1 c0
      have s := fml_s o c0 hf
      have fF := fun (_ : Unit) => rfm_ok o i0 i1 s.1.1 s.1.2
      have w0 := (fF ()).2.1
      have w13 := (fF ()).2.2.1
      have r := rfm_b o i0 i1
      have r1 := r.2.1
      have r2 := r.2.2 s.1.1
      clear r
      have rl := K_lt o (by omega) r1 (show ¬ kK k (rfm k i).2 = 0 by rw [s.1.2]; decide)
      have e7 := (hk.2 i i0 i1).2.2.1 k2
      have ep1 : I' p 1 = h := d.2.2.1
      have ep0 : I' p 0 = w := d.2.1
      have ep5 : I' p 5 = n := d.2.2.2.2.1
      -- behind a rule
      have nx : ∀ (j n' : Int) (ρ' : Int → Int → Int) (I2 : cI) (R2 : cR), i < j → j < kZ k → (fml k m (j + 1)).1 = 1 → 0 ≤ n' → n' ≤ 40 → dV I2 R2 p w h kk n' ρ' → oF a I0 R0 na ρa I2 R2 → I2 3 3 = j → I2 3 0 = e00 → I2 3 1 = e01 → mrl k w h kk (m + 1) i n ρ = mrl k w h kk m (j + 1) n' ρ' → inR ((I2 3 3) + 1) ∧ ∀ I12 : cI, I12 = up2 I2 3 3 ((I2 3 3) + 1) → inR (x + 1) ∧ ∀ z15 : Int, z15 = x + 1 → wX5_readRules_7 Q p m z15 I12 R2 := fun j n' ρ' I2 R2 j0 j1 hf' n0' n1' d' g' p3 u0 u1 em => by
        rw [p3]
        refine ⟨by unfold inR; omega, fun I12 e12 => ⟨by unfold inR; omega, fun z hz => ?_⟩⟩
        rw [em] at q1 q0
        have F : ∀ b y, b ≠ 3 → I12 b y = I2 b y := fun b y q => by subst e12; exact u2a q
        exact ih z (j + 1) n' ρ' I12 R2 (by omega) (by omega) (by omega) (by omega) (by omega) hf' n0' n1' (dV_p d' (by omega) F) (oF_p g' na1 (by omega) F) (by subst e12; exact u2e) (by subst e12; rw [u2x (by decide)]; exact u0) (by subst e12; rw [u2x (by decide)]; exact u1) q1 q0
      unfold wX5_readRule
      rw [e3]
      refine c_numAt o hk i0 i1 ?_
      rw [e7]
      have more : ∀ X : Int → cI → cR → Prop, X (mor w h (kW k i)) I' R' → wX5_rulesOf (kW k i) p I' R' X := fun X hX => by
        unfold wX5_rulesOf mor at *
        rw [ep1, ep0]
        refine ⟨fun c12 => ⟨fun c13 => ?_, fun c13 => ?_⟩, fun c12 => ?_⟩
        · rw [if_neg c12, if_neg c13] at hX; exact hX
        · rw [if_neg c12, if_pos c13] at hX; exact hX
        · rw [if_pos c12] at hX; exact hX
      refine more _ ?_
      have mb : 1 ≤ mor w h (kW k i) ∧ mor w h (kW k i) ≤ 5 := by
        unfold mor
        split
        · omega
        · split <;> omega
      rw [ep5, e3]
      refine ⟨by unfold inR; omega, fun c40 => ?_, fun c40 => ?_⟩
      · have c40' : ¬ 40 < n + mor w h (kW k i) := by omega
        refine ⟨fun c12 => ⟨fun c13 => ⟨fun cn => by omega, fun _ => ⟨fun cl' => ?_, fun cg => by omega⟩⟩, fun c13 => ?_⟩, fun c12 => ?_⟩
        · -- a rule of its own
          refine ⟨by unfold inR; omega, fun I13 e13 => ⟨by omega, ?_⟩⟩
          have F : ∀ b y, b ≠ 3 → I13 b y = I' b y := fun b y q => by subst e13; exact u2a q
          have d13 := dV_p d (by omega) F
          have g13 := oF_p g na1 (by omega) F
          have hr := rg_R (d.1.2.1 n n0 (by omega))
          have hr' : 93 ≤ R' (p + 2) n ∧ R' (p + 2) n < 223 := hr
          refine c_addRule d13.1 d13.2.2.2.2.1 n0 (by omega) (fun I3 R4 g1 g2 g3 g4 g5 g6 g7 g8 => ?_)
          have mr1 : mor w h (kW k i) = 1 := (if_neg c12).trans (if_neg c13)
          have hp3 : p ≠ R' (p + 2) n ∧ p ≠ R' (p + 2) n + 130 := by omega
          have G : ∀ b y, b ≠ R' (p + 2) n → ¬ (b = p ∧ y = 5) → b ≠ 3 → I3 b y = I' b y := fun b y z1 z2 z3 => (g1 b y z1 z2).trans (F b y z3)
          have p33 : I3 3 3 = i + 1 := by rw [g1 _ _ (by omega) (by omega)]; subst e13; exact u2e
          have u30 : I3 3 0 = e00 := by rw [g1 _ _ (by omega) (by omega)]; subst e13; rw [u2x (by decide)]; exact t0
          have u31 : I3 3 1 = e01 := by rw [g1 _ _ (by omega) (by omega)]; subst e13; rw [u2x (by decide)]; exact t1
          have hk3 : cKV I3 k := cKV_fr hk (fun b y b0 b1 => G b y (by omega) (by omega) (by omega))
          have op3 : okp R4 p := okp_fr d.1 (fun j => g2 _ _ (by omega))
          have o3 : ∀ I4, fC (R' (p + 2) n) I3 I4 → oF a I0 R0 na ρa I4 R4 := fun I4 f4 => oF_r g d.1 hne na1 n0 (by omega) (fun b y z1 z2 z3 z4 z5 => (f4 b y z5 z1 z2).trans (G b y z1 (by omega) z5)) g2
          have eκ : kN (R4 (R' (p + 2) n) 0) = kW k i := by rw [g3]; show ((kW k i).toNat : Int) = kW k i; omega
          have rk := rul_ok (kk := kk) o w2 w5 h2 h5 k5 i0 i1 s.1 cl'
          have ru2 := rk.2.2.2
          clear rk
          refine c_one1 (w := w) (h := h) (kk := kk) o hp hr w2 w5 h2 h5 k5 i0 i1 s.1 cl' hk3 p33 ((G _ _ hp3.1 (by omega) (by omega)).trans ep0) ((G _ _ hp3.1 (by omega) (by omega)).trans ep1) ((G _ _ hp3.1 (by omega) (by omega)).trans d.2.2.2.1) eκ g5 g6 g7 g8 (fun c0r I4 f4 u0 u1 e4 v4 => ⟨fun _ => ?_, fun z => absurd z (by decide)⟩) (fun c0r I4 f4 u0 u1 => ⟨fun z => absurd rfl z, fun _ => ?_⟩)
          · have rr := ru2 c0r
            have em := mrl_r (m := m) (ρ := ρ) c0 c40' c12 c13 c0r
            have dd4 := dV_a (σ := (rul k w h kk i).2.2) d n0 (by omega) (fun b y z1 z2 z3 z4 => (f4 b y z3 z1 z2).trans (G b y z1 z4 z3)) g2 ((f4 _ _ (by omega) hp3.1 hp3.2).trans g4) v4
            exact nx (rul k w h kk i).2.1 (n + 1) _ I4 R4 (by rw [rr.1]; exact r2) (by rw [rr.1]; exact rl) (by rw [rr.1]; exact s.2) (by omega) (by omega) (dV_e dd4 (fun j j0 j1 => by unfold addF; rfl)) (o3 I4 f4) e4 (by rw [u0, u30]) (by rw [u1, u31]) em
          · rw [mrl_e c0 c40' c12 c13 c0r] at q0
            exact q0 c0r I4 R4 op3 (o3 I4 f4) u0 u1
        · have m13 : mor w h (kW k i) = w := (if_neg c12).trans (if_pos c13)
          refine c_cols d g hne na1 w2 w5 h2 h5 n0 (by omega) (fun I28 R29 d28 g28 t28 => ?_)
          have p28 : I28 3 3 = i := by rw [t28]; exact e3
          have e2 := (fF ()).2.2.2.2.1 (by omega)
          rw [p28]
          refine ⟨by unfold inR; omega, fun I33 e33 => ⟨fun _ => ?_, fun z => absurd z (by decide)⟩⟩
          have F : ∀ b y, b ≠ 3 → I33 b y = I28 b y := fun b y q => by subst e33; exact u2a q
          have em := mrl_13 (m := m) (ρ := ρ) (kk := kk) c0 c40' c12 c13
          refine nx (i + 1) (n + w) _ I33 R29 (by omega) (by omega) (by rw [← e2]; exact s.2) (by omega) (by omega) (dV_p d28 (by omega) F) (oF_p g28 na1 (by omega) F) (by subst e33; exact u2e) (by subst e33; rw [u2x (by decide), t28]; exact t0) (by subst e33; rw [u2x (by decide), t28]; exact t1) ?_
          rw [em, show i + 1 + 1 = i + 2 by omega]
        · have m12 : mor w h (kW k i) = h := if_pos c12
          refine c_rows d g hne na1 w2 w5 h2 h5 n0 (by omega) (fun I28 R29 d28 g28 t28 => ?_)
          have p28 : I28 3 3 = i := by rw [t28]; exact e3
          have e2 := (fF ()).2.2.2.2.1 (by omega)
          rw [p28]
          refine ⟨by unfold inR; omega, fun I33 e33 => ⟨fun _ => ?_, fun z => absurd z (by decide)⟩⟩
          have F : ∀ b y, b ≠ 3 → I33 b y = I28 b y := fun b y q => by subst e33; exact u2a q
          have em := mrl_12 (m := m) (ρ := ρ) (kk := kk) c0 c40' c12
          refine nx (i + 1) (n + h) _ I33 R29 (by omega) (by omega) (by rw [← e2]; exact s.2) (by omega) (by omega) (dV_p d28 (by omega) F) (oF_p g28 na1 (by omega) F) (by subst e33; exact u2e) (by subst e33; rw [u2x (by decide), t28]; exact t0) (by subst e33; rw [u2x (by decide), t28]; exact t1) ?_
          rw [em, show i + 1 + 1 = i + 2 by omega]
      · have c40' : 40 < n + mor w h (kW k i) := by omega
        rw [mrl_4 c0 c40'] at q0
        refine c_fail o hk e3 i0 i1 (fun I2 f2 w0 w1 => ⟨Or.inl rfl, fun z => absurd rfl z, fun _ => ?_⟩)
        have F : ∀ b y, b ≠ 3 → I2 b y = I' b y := fun b y q => f2 b y (by omega)
        exact q0 (by show ¬ (4 : Int) = 0; decide) I2 R' d.1 (oF_p g na1 (by omega) F) w0 w1
theorem c_readSizes {Q : Int → cI → cR → Prop} (o : okK k) (hp : okp R p) (k1 : kK k 1 = 3) (k2 : kK k 2 = 3) (k3 : kK k 3 = 3) (z3 : 3 ≤ kZ k) (hk : cKV I k)
    (q1 : (szs k).1 = 0 → ∀ I', (∀ b x, b ≠ p → b ≠ p + 1 → ¬ (b = 3 ∧ x = 3) → I' b x = I b x) → dV I' R p (kV' k 1) (kV' k 2) (kV' k 3) 0 (fun _ _ => 0) → Q 1 I' R)
    (q0 : ¬ (szs k).1 = 0 → ∀ I', (∀ b x, b ≠ 3 → I' b x = I b x) → I' 3 0 = (szs k).1 → I' 3 1 = kS k (szs k).2 → Q 0 I' R) : wX5_readSizes p I R Q := by
  have hp' : p = 85 ∨ p = 89 := hp.1
  have v : ∀ j : Int, (j = 1 ∨ j = 2 ∨ j = 3) → kK k j = 3 := fun j hj => by rcases hj with rfl | rfl | rfl <;> assumption
  have G : ∀ (I' : cI), (∀ b x, ¬ (b = 3 ∧ x = 3) → I' b x = I b x) → cKV I' k := fun I' f => cKV_fr hk (fun b x b0 b1 => f b x (by omega))
  have bad : ∀ (j : Int) (I' : cI), (j = 1 ∨ j = 2 ∨ j = 3) → szs k = (2, j) → (∀ b x, ¬ (b = 3 ∧ x = 3) → I' b x = I b x) → I' 3 3 = j → wX5_readSizes_35 Q p I' R := fun j I' hj e f e3 => by
    rw [e] at q0
    exact c_fail o (G I' f) e3 (by omega) (by omega) (fun I2 f2 g0 g1 => ⟨Or.inl rfl, q0 (by show ¬ (2 : Int) = 0; decide) I2 (fun b x b3 => by rw [f2 b x (by omega)]; exact f b x (by omega)) g0 g1⟩)
  unfold wX5_readSizes
  intro I1 e1
  have f1 : ∀ b x, ¬ (b = 3 ∧ x = 3) → I1 b x = I b x := fun b x q => by subst e1; exact u2n q
  have p1 : I1 3 3 = 1 := by subst e1; exact u2e
  refine ⟨4, ?_⟩
  have L : ∀ (m : Nat) (j : Int) (I' : cI), 1 ≤ j → j ≤ 4 → 4 - j < m → (∀ b x, ¬ (b = 3 ∧ x = 3) → I' b x = I b x) → I' 3 3 = j → (∀ i, 1 ≤ i → i < j → 2 ≤ kV' k i ∧ kV' k i ≤ 5) → wX5_readSizes_5 Q p m I' R := by
    intro m
    induction m with
    | zero => intro j I' j0 j1 j2; omega
    | succ m ih =>
      intro j I' j0 j1 j2 f e3 hv
      show wbX5_readSizes_5 Q p (wX5_readSizes_5 Q p m) I' R
      unfold wbX5_readSizes_5
      rw [e3]
      refine ⟨fun c => ?_, fun c => ?_⟩
      · have b1 := hv 1 (by omega) (by omega)
        have b2 := hv 2 (by omega) (by omega)
        have b3 := hv 3 (by omega) (by omega)
        have es : szs k = (0, 4) := by unfold szs; rw [if_neg (fun q => q b1), if_neg (fun q => q b2), if_neg (fun q => q b3)]
        rw [es] at q1
        have hk' := G I' f
        refine c_numAt o hk' (by decide) (by omega) (c_numAt o hk' (by decide) (by omega) (c_numAt o hk' (by decide) (by omega) ?_))
        rw [(hk'.2 1 (by decide) (by omega)).2.2.2.1 k1, (hk'.2 2 (by decide) (by omega)).2.2.2.1 k2, (hk'.2 3 (by decide) z3).2.2.2.1 k3]
        intro J1 g1 J2 g2 J3 g3 J5 g5
        refine c_empty (fun I4 y1 y2 => q1 rfl I4 (fun b x w1 w2 w3 => ?_) ⟨hp, ?_, ?_, ?_, ?_, fun i i0 i1 => by omega, y2⟩)
        · rw [y1 _ _ (by omega)]; subst g5; rw [u2a w1]; subst g3; rw [u2a w1]; subst g2; rw [u2a w1]; subst g1; rw [u2a w1]; exact f b x w3
        · rw [y1 _ _ (by omega)]; subst g5; rw [u2x (by decide)]; subst g3; rw [u2x (by decide)]; subst g2; rw [u2x (by decide)]; subst g1; exact u2e
        · rw [y1 _ _ (by omega)]; subst g5; rw [u2x (by decide)]; subst g3; rw [u2x (by decide)]; subst g2; exact u2e
        · rw [y1 _ _ (by omega)]; subst g5; rw [u2x (by decide)]; subst g3; exact u2e
        · rw [y1 _ _ (by omega)]; subst g5; exact u2e
      · have hk' := G I' f
        have kj := v j (by omega)
        refine c_numAt o hk' (by omega) (by omega) ?_
        rw [(hk'.2 j (by omega) (by omega)).2.2.2.1 kj, e3]
        have es : ¬ (2 ≤ kV' k j ∧ kV' k j ≤ 5) → szs k = (2, j) := fun nb => by
          have : j = 1 ∨ j = 2 ∨ j = 3 := by omega
          unfold szs
          rcases this with rfl | rfl | rfl
          · rw [if_pos nb]
          · rw [if_neg (fun q => q (hv 1 (by decide) (by decide))), if_pos nb]
          · rw [if_neg (fun q => q (hv 1 (by decide) (by decide))), if_neg (fun q => q (hv 2 (by decide) (by decide))), if_pos nb]
        refine ⟨fun c2 => bad j I' (by omega) (es (by omega)) f e3, fun c2 => ⟨fun c5 => ⟨by unfold inR; omega, fun I27 e27 => ?_⟩, fun c5 => bad j I' (by omega) (es (by omega)) f e3⟩⟩
        refine ih (j + 1) I27 (by omega) (by omega) (by omega) (fun b x q => by subst e27; rw [u2n q]; exact f b x q) (by subst e27; exact u2e) (fun i i0 i1 => ?_)
        by_cases ei : i = j
        · subst ei; omega
        · exact hv i i0 (by omega)
  exact L 4 1 I1 (by decide) (by decide) (by decide) f1 p1 (fun i i0 i1 => by omega)
/-- what a compile finds: the error, its token; else the rules -/
noncomputable def cmp (k : kT) : Int × Int × Int × (Int → Int → Int) := if (fm k).1 = 0 then (1, (fm k).2, 0, fun _ _ => 0) else if (szs k).1 = 0 then mrl k (kV' k 1) (kV' k 2) (kV' k 3) (kZ k + 1).toNat 5 0 (fun _ _ => 0) else ((szs k).1, (szs k).2, 0, fun _ _ => 0)
theorem fm_ok (o : okK k) (h1 : ¬ (fm k).1 = 0) : kK k 1 = 3 ∧ kK k 2 = 3 ∧ kK k 3 = 3 ∧ 5 ≤ kZ k ∧ (fml k (kZ k + 1).toNat 5).1 = 1 := by
  have N0 := o.1
  unfold fm at h1
  by_cases c : ¬ (kK k 0 = 2 ∧ kW k 0 = 14)
  · rw [if_pos c] at h1; exact absurd rfl h1
  · rw [if_neg c] at h1
    have w : kK k 0 = 2 ∧ kW k 0 = 14 := Classical.byContradiction c
    have z1 := K_lt o (Int.le_refl 0) N0 (show ¬ kK k 0 = 0 by rw [w.1]; decide)
    have t := tkN_b o (κ := 3) (by decide) 3 1 (by decide) (by omega)
    rcases t.2.2 with a | ⟨a, b, d⟩
    · rw [if_pos a] at h1; exact absurd a h1
    · rw [if_neg (by omega)] at h1
      have b' : (tkN k 3 3 1).2 = 4 := by rw [b]; decide
      rw [b'] at h1
      by_cases c4 : kK k 4 = 4
      · rw [if_neg (fun q => q c4)] at h1
        have z4 := K_lt o (by decide) (by omega : (4 : Int) ≤ kZ k) (show ¬ kK k 4 = 0 by rw [c4]; decide)
        have d0 := d 0 (by decide) (by decide)
        have d1 := d 1 (by decide) (by decide)
        have d2 := d 2 (by decide) (by decide)
        refine ⟨d0, d1, d2, by omega, ?_⟩
        have one : ∀ (m : Nat) (i : Int), 0 ≤ i → i ≤ kZ k → (fml k m i).1 = 0 ∨ (fml k m i).1 = 1 := by
          intro m
          induction m with
          | zero => intro i _ _; exact Or.inr rfl
          | succ m ih =>
            intro i i0 i1
            by_cases x0 : kK k i = 0
            · have e : fml k (m + 1) i = (1, i) := if_pos x0
              rw [e]; exact Or.inr rfl
            · by_cases x1 : (rfm k i).1 = 0
              · have e : fml k (m + 1) i = rfm k i := (if_neg x0).trans (if_pos x1)
                rw [e]; exact Or.inl x1
              · by_cases x4 : kK k (rfm k i).2 = 4
                · have e : fml k (m + 1) i = fml k m ((rfm k i).2 + 1) := (if_neg x0).trans ((if_neg x1).trans (if_pos x4))
                  have r := rfm_b o i0 i1
                  have l := K_lt o (by omega) r.2.1 (show ¬ kK k (rfm k i).2 = 0 by rw [x4]; decide)
                  rw [e]; exact ih _ (by omega) (by omega)
                · have e : fml k (m + 1) i = (0, (rfm k i).2) := (if_neg x0).trans ((if_neg x1).trans (if_neg x4))
                  rw [e]; exact Or.inl rfl
        have := one (kZ k + 1).toNat (4 + 1) (by decide) (by omega)
        rcases this with q | q
        · exact absurd q h1
        · exact q
      · rw [if_pos c4] at h1; exact absurd rfl h1
theorem szs_ok (h : (szs k).1 = 0) : (2 ≤ kV' k 1 ∧ kV' k 1 ≤ 5) ∧ (2 ≤ kV' k 2 ∧ kV' k 2 ≤ 5) ∧ (2 ≤ kV' k 3 ∧ kV' k 3 ≤ 5) := by
  unfold szs at h
  split at h
  · exact absurd h (by show ¬ (2 : Int) = 0; decide)
  · split at h
    · exact absurd h (by show ¬ (2 : Int) = 0; decide)
    · split at h
      · exact absurd h (by show ¬ (2 : Int) = 0; decide)
      · omega
theorem fm_b (o : okK k) : 0 ≤ (fm k).2 ∧ (fm k).2 ≤ kZ k := by
  have N0 := o.1
  unfold fm
  split
  · exact ⟨Int.le_refl 0, N0⟩
  · rename_i c
    have w : kK k 0 = 2 ∧ kW k 0 = 14 := Classical.byContradiction c
    have z1 := K_lt o (Int.le_refl 0) N0 (show ¬ kK k 0 = 0 by rw [w.1]; decide)
    have t := tkN_b o (κ := 3) (by decide) 3 1 (by decide) (by omega)
    split
    · omega
    · split
      · show 0 ≤ (tkN k 3 3 1).2 ∧ (tkN k 3 3 1).2 ≤ kZ k
        omega
      · rename_i c4
        have k4 : kK k (tkN k 3 3 1).2 = 4 := Classical.byContradiction c4
        have l := K_lt o (by omega) t.2.1 (show ¬ kK k (tkN k 3 3 1).2 = 0 by rw [k4]; decide)
        have := fml_b o (kZ k + 1).toNat ((tkN k 3 3 1).2 + 1) (by omega) (by omega)
        omega
theorem c_readInto {T : Int → Int} {L : Int} {Q : Int → cI → cR → Prop} (ht : cTp I T L) (hk : ∀ I', I' 4 0 = nT T L + 1 → cRw I' T L (nT T L + 1) → cKV I' k) (o : okK k) (hp : okp R p) (ha : okp R a) (hne : p ≠ a) (na1 : na ≤ 65) (hv : pv I R a na ρa)
    (q1 : (cmp k).1 = 0 → ∀ I' R', dV I' R' p (kV' k 1) (kV' k 2) (kV' k 3) (cmp k).2.2.1 (cmp k).2.2.2 → okp R' a → R' 0 = R 0 → pv I' R' a na ρa → (∀ b x, (b < 85 ∧ ¬ (3 ≤ b ∧ b ≤ 7)) ∨ b = a ∨ b = a + 1 → I' b x = I b x) → I' 3 0 = 0 → I' 3 1 = -1 → Q 1 I' R')
    (q0 : ¬ (cmp k).1 = 0 → ∀ I' R', okp R' p → okp R' a → R' 0 = R 0 → pv I' R' a na ρa → (∀ b x, (b < 85 ∧ ¬ (3 ≤ b ∧ b ≤ 7)) ∨ b = a ∨ b = a + 1 → I' b x = I b x) → I' 3 0 = (cmp k).1 → I' 3 1 = kS k (cmp k).2.1 → Q 0 I' R') : wX5_readInto p I R Q := by
  have hp' : p = 85 ∨ p = 89 := hp.1
  have ha' : a = 85 ∨ a = 89 := ha.1
  unfold wX5_readInto
  intro I1 e1 I4 e4
  have f4 : ∀ b x, ¬ (b = 3 ∧ (x = 0 ∨ x = 1)) → I4 b x = I b x := fun b x q => by subst e4; rw [u2n (by omega)]; subst e1; exact u2n (by omega)
  have t4 : I4 3 0 = 0 := by subst e4; rw [u2x (by decide)]; subst e1; exact u2e
  have t41 : I4 3 1 = -1 := by subst e4; exact u2e
  have ht4 : cTp I4 T L := ⟨by rw [f4 _ _ (by omega)]; exact ht.1, ht.2.1, ht.2.2.1, fun j j0 j1 => by rw [f4 _ _ (by omega)]; exact ht.2.2.2 j j0 j1⟩
  refine c_split ht4 (fun I8 f8 n8 r8 => ?_)
  have h8 := hk I8 n8 r8
  have F8 : ∀ b x, ¬ (3 ≤ b ∧ b ≤ 7) → I8 b x = I b x := fun b x q => by rw [f8 b x (by omega) (by omega) (by omega) (by omega)]; exact f4 b x (by omega)
  have t80 : I8 3 0 = 0 := by rw [f8 _ _ (by decide) (by decide) (by decide) (by omega)]; exact t4
  have t81 : I8 3 1 = -1 := by rw [f8 _ _ (by decide) (by decide) (by decide) (by omega)]; exact t41
  have g8 : oF a I8 R na ρa I8 R := ⟨ha, rfl, pv_fr ha na1 (fun b x q => F8 b x (by omega)) hv, fun _ _ _ => rfl⟩
  have fin : ∀ {I' R'}, oF a I8 R na ρa I' R' → okp R' a ∧ R' 0 = R 0 ∧ pv I' R' a na ρa ∧ ∀ b x, (b < 85 ∧ ¬ (3 ≤ b ∧ b ≤ 7)) ∨ b = a ∨ b = a + 1 → I' b x = I b x := fun g => ⟨g.1, g.2.1, g.2.2.1, fun b x q => by rw [g.2.2.2 b x (by omega)]; exact F8 b x (by omega)⟩
  refine c_form o h8 (fun I13 f13 p13 => ⟨fun c => ?_, fun c => ?_⟩)
  · have kf := fm_ok o c
    have F13 : ∀ b x, b ≠ 3 → I13 b x = I8 b x := fun b x q => f13 b x (by omega)
    have g13 := oF_p g8 na1 (by omega) F13
    unfold cmp at q1 q0
    rw [if_neg c] at q1 q0
    refine c_readSizes o hp kf.1 kf.2.1 kf.2.2.1 (by omega) (fP_k h8 f13) (fun cs I18 f18 d18 => ⟨fun n => absurd n (by decide), fun _ => ?_⟩) (fun cs I18 f18 u0 u1 => ⟨fun _ => ?_, fun n => absurd rfl n⟩)
    · rw [if_pos cs] at q1 q0
      have hs := szs_ok cs
      have op18 : okp R p := d18.1
      have g18 : oF a I8 R na ρa I18 R := ⟨ha, rfl, pv_fr ha na1 (fun b x q => by rw [f18 b x (by omega) (by omega) (by omega)]; exact F13 b x (by omega)) g8.2.2.1, fun b x q => by rw [f18 b x (by omega) (by omega) (by omega)]; exact F13 b x (by omega)⟩
      unfold wX5_readRules
      intro I20 e20
      have F20 : ∀ b x, b ≠ 3 → I20 b x = I18 b x := fun b x q => by subst e20; exact u2a q
      have u0 : I20 3 0 = 0 := by subst e20; rw [u2x (by decide), f18 _ _ (by omega) (by omega) (by omega), f13 _ _ (by omega)]; exact t80
      have u1 : I20 3 1 = -1 := by subst e20; rw [u2x (by decide), f18 _ _ (by omega) (by omega) (by omega), f13 _ _ (by omega)]; exact t81
      refine ⟨(kZ k + 1).toNat, c_readRulesL (w := kV' k 1) (h := kV' k 2) (kk := kV' k 3) o hp' ha' hne na1 hs.1.1 hs.1.2 hs.2.1.1 hs.2.1.2 hs.2.2.2 h8 0 (-1) (kZ k + 1).toNat 0 5 0 (fun _ _ => 0) I20 R (Int.le_refl 0) (by decide) (by decide) kf.2.2.2.1 (by omega) kf.2.2.2.2 (Int.le_refl 0) (by decide) (dV_p d18 (by decide) F20) (oF_p g18 na1 (by omega) F20) (by subst e20; exact u2e) u0 u1 (fun c0 I2 R2 d2 g2 w0 w1 => ⟨fun n => absurd n (by decide), fun _ => ?_⟩) (fun c0 I2 R2 op2 g2 w0 w1 => ⟨fun _ => ?_, fun n => absurd rfl n⟩)⟩
      · have ff := fin g2
        exact q1 c0 I2 R2 d2 ff.1 ff.2.1 ff.2.2.1 ff.2.2.2 w0 w1
      · have ff := fin g2
        exact q0 c0 I2 R2 op2 ff.1 ff.2.1 ff.2.2.1 ff.2.2.2 w0 w1
    · rw [if_neg cs] at q0
      have g18 := oF_p g13 na1 (by omega) f18
      have ff := fin g18
      exact q0 cs I18 R hp ff.1 ff.2.1 ff.2.2.1 ff.2.2.2 u0 u1
  · unfold cmp at q0
    rw [if_pos c] at q0
    have b1 := fm_b o
    refine c_fail o (fP_k h8 f13) p13 b1.1 b1.2 (fun I2 f2 u0 u1 => ⟨Or.inl rfl, ?_⟩)
    have F2 : ∀ b x, b ≠ 3 → I2 b x = I8 b x := fun b x q => by rw [f2 b x (by omega)]; exact f13 b x (by omega)
    have ff := fin (oF_p g8 na1 (by omega) F2)
    exact q0 (by show ¬ (1 : Int) = 0; decide) I2 R hp ff.1 ff.2.1 ff.2.2.1 ff.2.2.2 u0 u1
end RI
