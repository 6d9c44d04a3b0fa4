/-! ===== the meaning of a text: the reference, all of it ===== -/
section MM5
variable {k : kT} {J0 J : cI} {w h kk n : Int} {ρ : Int → Int → Int}
theorem m_isNumber {κ j v : Int} {Q : Int → cI → Prop} (e35 : J 1000 35 = kk) (v0 : 0 ≤ v) (hj : j = 0 ∨ j = 1) (q1 : nok kk κ j v → Q 1 J) (q0 : ¬ nok kk κ j v → Q 0 J) : wX12_isNumber κ j v J Q := by
  unfold wX12_isNumber
  rw [e35]
  have go : ∀ (P : Prop) (z : Int), (z = b2 P) → (P ↔ nok kk κ j v) → ((z = 0 ∨ z = 1) ∧ Q z J) := fun P z e hP => by
    by_cases c : P
    · rw [b2_t c] at e; subst e; exact ⟨Or.inr rfl, q1 (hP.mp c)⟩
    · rw [b2_f c] at e; subst e; exact ⟨Or.inl rfl, q0 (fun w => c (hP.mpr w))⟩
  refine ⟨fun c8 => ⟨fun c5 => ⟨fun c10 => q1 ⟨fun e => absurd e c8, fun e => absurd e c5, fun e => absurd e c10⟩, fun c10 => m_isIn ⟨fun z => q0 (fun w => b2_n.mp z (w.2.2 c10)), fun z => q1 ⟨fun e => absurd e c8, fun e => absurd e c5, fun _ => b2_y.mp ((b2_or _).resolve_left z)⟩⟩⟩, fun c5 => m_isIn (go _ _ rfl ⟨fun a => ⟨fun e => absurd e c8, fun _ => a, fun e => by omega⟩, fun a => a.2.1 c5⟩)⟩, fun c8 => ⟨fun j0 => m_isIn (go _ _ rfl ⟨fun a => ⟨fun _ => ⟨fun e => absurd e j0, fun _ => a.2⟩, fun e => by omega, fun e => by omega⟩, fun a => ⟨v0, (a.1 c8).2 j0⟩⟩), fun j0 => m_isIn (go _ _ rfl ⟨fun a => ⟨fun _ => ⟨fun _ => a, fun e => absurd j0 e⟩, fun e => by omega, fun e => by omega⟩, fun a => (a.1 c8).1 j0⟩)⟩⟩
/-- a rule with its numbers and cells -/
theorem m_rule1 {i : Int} {Q : Int → cI → Prop} (o : okK k) (hA : jA J0 k) (w2 : 2 ≤ w) (w5 : w ≤ 5) (h2 : 2 ≤ h) (h5 : h ≤ 5) (n0 : 0 ≤ n) (n1 : n < 70) (f : jF J0 J) (e33 : J 1000 33 = w) (e34 : J 1000 34 = h) (e35 : J 1000 35 = kk) (e36 : J 1000 36 = n) (e7 : J 1000 7 = i + 1) (i0 : 0 ≤ i) (i1 : i ≤ kZ k) (gd0 : gdR k i) (c12 : kW k i < 12) (er : ∀ j, 0 ≤ j → j < n → e9 (mr J 1037 j) (ρ j)) (eu : e9 (mr J 1037 n) (fun t => if t = 0 then kW k i else if t = 1 then 0 else if t = 2 then 0 else 0))
    (q1 : (rul k w h kk i).1 = 0 → ∀ J', jF J0 J' → J' 1000 33 = w → J' 1000 34 = h → J' 1000 35 = kk → J' 1000 36 = n + 1 → J' 1000 7 = (rul k w h kk i).2.1 → (∀ j, 0 ≤ j → j < n → e9 (mr J' 1037 j) (ρ j)) → e9 (mr J' 1037 n) (rul k w h kk i).2.2 → (J' 1000 8 = J 1000 8 ∧ J' 1000 3 = J 1000 3) → Q 1 J')
    (q0 : ¬ (rul k w h kk i).1 = 0 → ∀ J', jF J0 J' → J' 1000 8 = (rul k w h kk i).1 → J' 1000 3 = kS k (rul k w h kk i).2.1 → Q 0 J') : ∃ m, wX12_ruleMeaning_168 Q (kW k i) m 0 J := by
  have N1 := o.2.1
  have fF := fun (_ : Unit) => rfm_ok o i0 i1 gd0.1 gd0.2
  have k2 : kK k i = 2 := (fF ()).1
  have w0 : 0 ≤ kW k i := (fF ()).2.1
  have f12F := fun (_ : Unit) => (fF ()).2.2.2.2.2 c12
  have e00 := (f12F ()).1
  have e01 := (f12F ()).2.1
  have nuF := fun (_ : Unit) => nu_i (w := kW k i) w0 (by omega)
  have nu0 := (nuF ()).1
  have nu1 := (nuF ()).2.1
  have il := K_lt o i0 i1 (by rw [k2]; decide)
  have k31 : 1 ≤ nuT (kW k i) → kK k (i + 1) = 3 := fun q => by
    have := (fF ()).2.2.2.1 0 (Int.le_refl 0) (by omega)
    rw [Int.add_zero] at this; exact this
  have k32 : 2 ≤ nuT (kW k i) → kK k (i + 2) = 3 := fun q => by
    have := (fF ()).2.2.2.1 1 (by decide) (by omega)
    rw [show i + 1 + 1 = i + 2 by omega] at this; exact this
  have vF := fun (q : 1 ≤ nuT (kW k i)) => (o.2.2 (i + 1) (by omega) (by omega)).2.2.2.1 (k31 q)
  have vF2 := fun (q : 2 ≤ nuT (kW k i)) => (o.2.2 (i + 2) (by omega) (by omega)).2.2.2.1 (k32 q)
  obtain ⟨C, hC⟩ : ∃ C, rulC k w h i = C := ⟨_, rfl⟩
  have ccF := fun (_ : Unit) => c_okC (w := w) (h := h) hC o w5 h5 (by omega) (by omega)
  have cc1 := (ccF ()).1
  have cc2 := (ccF ()).2.1
  have r0 : rl0 k i 0 = kW k i := rfl
  have r1 : rl0 k i 1 = if 1 ≤ nuT (kW k i) then kV' k (i + 1) else 0 := rfl
  have r2 : rl0 k i 2 = if 2 ≤ nuT (kW k i) then kV' k (i + 2) else 0 := rfl
  have r3 : rl0 k i 3 = 0 := rfl
  -- only the rule that is laid and the place are others
  have fr : ∀ (J1 : cI), (∀ b x, ¬ (1037 ≤ b ∧ b ≤ 1040 ∧ x = n) → ¬ (b = 1041 ∧ 5 * n ≤ x ∧ x < 5 * n + 5) → ¬ (b = 1000 ∧ x = 7) → J1 b x = J b x) → jF J0 J1 ∧ J1 1000 33 = w ∧ J1 1000 34 = h ∧ J1 1000 35 = kk ∧ J1 1000 36 = n ∧ (∀ j, 0 ≤ j → j < n → e9 (mr J1 1037 j) (ρ j)) := fun J1 g => ⟨fun b x z1 z2 => by rw [g b x (by omega) (by omega) (by omega)]; exact f b x z1 z2, by rw [g _ _ (by omega) (by omega) (by omega)]; exact e33, by rw [g _ _ (by omega) (by omega) (by omega)]; exact e34, by rw [g _ _ (by omega) (by omega) (by omega)]; exact e35, by rw [g _ _ (by omega) (by omega) (by omega)]; exact e36, fun j j0 j1 => e9_t (e9_fr (b := 1037) (fun b y q1 q2 q3 => g b y (by omega) (by omega) (by omega)) (fun y q1 q2 => g _ _ (by omega) (by omega) (by omega))) (er j j0 j1)⟩
  have s519 : ∀ (J1 : cI) (X : Int × Int × (Int → Int)), rul k w h kk i = X → X.1 = 0 → (∀ b x, ¬ (1037 ≤ b ∧ b ≤ 1040 ∧ x = n) → ¬ (b = 1041 ∧ 5 * n ≤ x ∧ x < 5 * n + 5) → ¬ (b = 1000 ∧ x = 7) → J1 b x = J b x) → J1 1000 7 = X.2.1 → e9 (mr J1 1037 n) X.2.2 → wX12_ruleMeaning_519 Q (kW k i) J1 := fun J1 X eX c0 g p e => by
    rw [eX] at q1
    have g' := fr J1 g
    unfold wX12_ruleMeaning_519
    rw [g'.2.2.2.2.1]
    refine ⟨by unfold inR; omega, fun J2 e2 => ?_⟩
    have G : ∀ b x, ¬ (b = 1000 ∧ x = 36) → J2 b x = J1 b x := fun b x q => by rw [e2]; exact u2n q
    have em : mr J2 1037 = mr J1 1037 := mr_fr (fun b x z1 z2 => G b x (by omega))
    exact q1 c0 J2 (fun b x z1 z2 => by rw [G b x (by omega)]; exact g'.1 b x z1 z2) (by rw [G _ _ (by omega)]; exact g'.2.1) (by rw [G _ _ (by omega)]; exact g'.2.2.1) (by rw [G _ _ (by omega)]; exact g'.2.2.2.1) (by rw [e2]; exact u2e) (by rw [G _ _ (by omega)]; exact p) (by rw [em]; exact g'.2.2.2.2.2) (by rw [em]; exact e) ⟨by rw [G _ _ (by omega)]; exact g _ _ (by omega) (by omega) (by omega), by rw [G _ _ (by omega)]; exact g _ _ (by omega) (by omega) (by omega)⟩
  have s261 : (1 ≤ nuT (kW k i) → nok kk (kW k i) 0 (kV' k (i + 1))) → (2 ≤ nuT (kW k i) → nok kk (kW k i) 1 (kV' k (i + 2))) → ∀ J1, (∀ b x, ¬ (1037 ≤ b ∧ b ≤ 1040 ∧ x = n) → ¬ (b = 1041 ∧ 5 * n ≤ x ∧ x < 5 * n + 5) → ¬ (b = 1000 ∧ x = 7) → J1 b x = J b x) → J1 1000 7 = i + 1 + nuT (kW k i) → e9 (mr J1 1037 n) (rl0 k i) → ∃ m, wX12_ruleMeaning_261 Q (kW k i) m J1 := fun ok1 ok2 J1 g p e => by
    have er' := rul_1 (w := w) (h := h) (kk := kk) hC ok1 ok2
    have g' := fr J1 g
    have hl : kZ k - (i + 1 + nuT (kW k i)) < ((kZ k + 1).toNat : Nat) := by omega
    refine ⟨(kZ k + 1).toNat, ?_⟩
    have key := fun q1' q0' => m_readCells (Q := Q) (κ := kW k i) o hA w2 w5 h2 h5 n0 n1 (kZ k + 1).toNat (i + 1 + nuT (kW k i)) (rl0 k i) J1 g'.1 g'.2.1 g'.2.2.1 g'.2.2.2.2.1 p (by omega) (by omega) hl e rl0_g q1' q0'
    have eC : cl k w h (kZ k + 1).toNat (i + 1 + nuT (kW k i)) (rl0 k i) = C := hC
    rw [eC] at key
    clear hl eC
    refine key (fun c0 J2 g2 p2 e2 => ?_) (fun c0 J2 f2 t8 t3 => ?_)
    · have g2' : ∀ b x, ¬ (1037 ≤ b ∧ b ≤ 1040 ∧ x = n) → ¬ (b = 1041 ∧ 5 * n ≤ x ∧ x < 5 * n + 5) → ¬ (b = 1000 ∧ x = 7) → J2 b x = J b x := fun b x z1 z2 z3 => (g2 b x z1 z2 z3).trans (g b x z1 z2 z3)
      have fr2 := fr J2 g2'
      refine ⟨fun n9 => ?_, fun y9 => ?_⟩
      · rw [if_neg (fun q => n9 q.2)] at er'
        exact s519 J2 C er' c0 g2' p2 e2
      · rw [if_pos ⟨c0, y9⟩] at er'
        have f9 := (f12F ()).2.2.1 y9
        have c4 := (ccF ()).2.2 c0
        have k3 : kK k C.2.1 = 3 := by rw [c4]; exact f9.1
        have hJ := hA J2 (jF_s fr2.1) C.2.1 (by omega) cc2
        have vb := (o.2.2 C.2.1 (by omega) cc2).2.2.2.1 k3
        have cl9 := K_lt o (by omega) cc2 (show ¬ kK k C.2.1 = 0 by rw [k3]; decide)
        rw [p2]
        refine hJ.2.2.2.1 k3 _ ?_
        rw [fr2.2.2.2.1]
        refine m_isIn ⟨fun z => ?_, fun z => ?_⟩
        · have z' := b2_y.mp ((b2_or _).resolve_left z)
          rw [p2]
          refine hJ.2.2.2.1 k3 _ ?_
          rw [fr2.2.2.2.2.1]
          refine ⟨⟨n0, n1⟩, fun J15 e15 => ?_⟩
          have G : ∀ b x, ¬ (b = 1038 ∧ x = n) → J15 b x = J2 b x := fun b x q => by rw [e15]; exact u2n q
          have p15 : J15 1000 7 = C.2.1 := by rw [G _ _ (by omega)]; exact p2
          rw [p15]
          refine ⟨by unfold inR; omega, fun J19 e19 => ?_⟩
          have G2 : ∀ b x, ¬ (b = 1000 ∧ x = 7) → J19 b x = J15 b x := fun b x q => by rw [e19]; exact u2n q
          have ei : rulI k kk C = (0, C.2.1 + 1, set1 C.2.2 (kV' k C.2.1)) := if_pos z'
          rw [ei] at er'
          refine s519 J19 _ er' rfl (fun b x z1 z2 z3 => by rw [G2 b x z3, G b x (by omega)]; exact g2' b x z1 z2 z3) (by rw [e19]; exact u2e) (e_mk ?_ ?_ ?_ ?_ (fun j j0 j5 j1 => ?_))
          · rw [G2 _ _ (by omega), G _ _ (by omega)]; exact e_0 (σ := C.2.2) e2
          · rw [G2 _ _ (by omega), e15]; exact u2e
          · rw [G2 _ _ (by omega), G _ _ (by omega)]; exact e_2 (σ := C.2.2) e2
          · rw [G2 _ _ (by omega), G _ _ (by omega)]; exact e_3 (σ := C.2.2) e2
          · rw [G2 _ _ (by omega), G _ _ (by omega)]
            show J2 1041 (5 * n + j) = if (4 + j) = 1 then kV' k C.2.1 else C.2.2 (4 + j)
            rw [if_neg (by omega)]
            have j1' : j < C.2.2 3 := j1
            exact e_4 e2 j0 j5 j1'
        · have z' := b2_n.mp z
          have ei : rulI k kk C = (2, C.2.1, C.2.2) := if_neg z'
          rw [ei] at er'
          rw [er'] at q0
          rw [p2]
          exact m_wrong o (jA_t hA (jF_s fr2.1)) (by omega) cc2 (fun J' f' t8 t3 => ⟨Or.inl rfl, q0 (by show ¬ (2 : Int) = 0; decide) J' (fun b x z1 z2 => by rw [f' b x (by omega)]; exact fr2.1 b x z1 z2) t8 t3⟩)
    · rw [if_neg (fun q => c0 q.1)] at er'
      rw [er'] at q0
      exact q0 c0 J2 f2 t8 t3
  -- the numbers
  have err : ∀ (j : Int) (J1 : cI), jF J0 J1 → J1 1000 7 = j → 0 ≤ j → j ≤ kZ k → rul k w h kk i = (2, j, rl0 k i) → wX12_wrong 2 j J1 (fun r J2 => (r = 0 ∨ r = 1) ∧ Q r J2) := fun j J1 f1 p j0 j1 e => by
    rw [e] at q0
    exact m_wrong o (jA_t hA (jF_s f1)) j0 j1 (fun J' f' t8 t3 => ⟨Or.inl rfl, q0 (by show ¬ (2 : Int) = 0; decide) J' (fun b x z1 z2 => by rw [f' b x (by omega)]; exact f1 b x z1 z2) t8 t3⟩)
  have mk : ∀ (J1 : cI) (v1 v2 : Int), J1 1037 n = kW k i → J1 1038 n = v1 → J1 1039 n = v2 → J1 1040 n = 0 → v1 = rl0 k i 1 → v2 = rl0 k i 2 → e9 (mr J1 1037 n) (rl0 k i) := fun J1 v1 v2 a0 a1 a2 a3 b1 b2 => e_mk a0 (by rw [a1, b1]) (by rw [a2, b2]) a3 (fun j j0 j5 j1 => absurd (show j < 0 from j1) (by omega))
  refine ⟨4, ?_⟩
  show wbX12_ruleMeaning_168 Q (kW k i) (wX12_ruleMeaning_168 Q (kW k i) 3) 0 J
  unfold wbX12_ruleMeaning_168
  rw [e7]
  refine ⟨by omega, fun c => ?_, fun c => ?_⟩
  · have z : nuT (kW k i) = 0 := by omega
    exact s261 (fun q => by omega) (fun q => by omega) J (fun _ _ _ _ _ => rfl) (by omega) (mk J 0 0 (e_0 eu) (e_1 eu) (e_2 eu) (e_3 eu) (by rw [r1, if_neg (by omega)]) (by rw [r2, if_neg (by omega)]))
  · have c1 : 1 ≤ nuT (kW k i) := by omega
    have hJ := hA J (jF_s f) (i + 1) (by omega) (by omega)
    refine hJ.2.2.2.1 (k31 c1) _ (m_isNumber e35 (vF c1).1 (Or.inl rfl) (fun ok => ⟨fun _ => ⟨fun n0' => absurd rfl n0', fun _ => ?_⟩, fun z => absurd z (by decide)⟩) (fun nok' => ⟨fun z => absurd rfl z, fun _ => ?_⟩))
    · rw [e7]
      refine hJ.2.2.2.1 (k31 c1) _ ?_
      rw [e36]
      refine ⟨⟨n0, n1⟩, fun J24 e24 => ?_⟩
      have G : ∀ b x, ¬ (b = 1038 ∧ x = n) → J24 b x = J b x := fun b x q => by rw [e24]; exact u2n q
      unfold wX12_ruleMeaning_245
      have p24 : J24 1000 7 = i + 1 := by rw [G _ _ (by omega)]; exact e7
      rw [p24]
      refine ⟨by unfold inR; omega, fun J2 e2 => ⟨by unfold inR; omega, fun z hz => ?_⟩⟩
      have G2 : ∀ b x, ¬ (b = 1000 ∧ x = 7) → J2 b x = J24 b x := fun b x q => by rw [e2]; exact u2n q
      have g2 : ∀ b x, ¬ (1037 ≤ b ∧ b ≤ 1040 ∧ x = n) → ¬ (b = 1041 ∧ 5 * n ≤ x ∧ x < 5 * n + 5) → ¬ (b = 1000 ∧ x = 7) → J2 b x = J b x := fun b x z1 z2 z3 => by rw [G2 b x z3, G b x (by omega)]
      have fr2 := fr J2 g2
      have p2 : J2 1000 7 = i + 2 := by rw [e2, u2e]; omega
      have a0 : J2 1037 n = kW k i := by rw [G2 _ _ (by omega), G _ _ (by omega)]; exact e_0 eu
      have a1 : J2 1038 n = kV' k (i + 1) := by rw [G2 _ _ (by omega), e24]; exact u2e
      have a2 : J2 1039 n = 0 := by rw [G2 _ _ (by omega), G _ _ (by omega)]; exact e_2 eu
      have a3 : J2 1040 n = 0 := by rw [G2 _ _ (by omega), G _ _ (by omega)]; exact e_3 eu
      have ez : z = 1 := by omega
      rw [ez]
      show wbX12_ruleMeaning_168 Q (kW k i) (wX12_ruleMeaning_168 Q (kW k i) 2) 1 J2
      unfold wbX12_ruleMeaning_168
      rw [p2]
      refine ⟨by omega, fun c' => ?_, fun c' => ?_⟩
      · have z1 : nuT (kW k i) = 1 := by omega
        exact s261 (fun _ => ok) (fun q => by omega) J2 g2 (by omega) (mk J2 _ 0 a0 a1 a2 a3 (by rw [r1, if_pos c1]) (by rw [r2, if_neg (by omega)]))
      · have c2 : 2 ≤ nuT (kW k i) := by omega
        have hJ2 := hA J2 (jF_s fr2.1) (i + 2) (by omega) (by omega)
        refine hJ2.2.2.2.1 (k32 c2) _ (m_isNumber fr2.2.2.2.1 (vF2 c2).1 (Or.inr rfl) (fun ok2 => ⟨fun _ => ⟨fun _ => ?_, fun z => absurd z (by decide)⟩, fun z => absurd z (by decide)⟩) (fun nok2 => ⟨fun z => absurd rfl z, fun _ => ?_⟩))
        · rw [p2]
          refine hJ2.2.2.2.1 (k32 c2) _ ?_
          rw [fr2.2.2.2.2.1]
          refine ⟨⟨n0, n1⟩, fun J16 e16 => ?_⟩
          have G3 : ∀ b x, ¬ (b = 1039 ∧ x = n) → J16 b x = J2 b x := fun b x q => by rw [e16]; exact u2n q
          unfold wX12_ruleMeaning_245
          have p16 : J16 1000 7 = i + 2 := by rw [G3 _ _ (by omega)]; exact p2
          rw [p16]
          refine ⟨by unfold inR; omega, fun J3 e3 => ⟨by unfold inR; omega, fun z' hz' => ?_⟩⟩
          have G4 : ∀ b x, ¬ (b = 1000 ∧ x = 7) → J3 b x = J16 b x := fun b x q => by rw [e3]; exact u2n q
          have g3 : ∀ b x, ¬ (1037 ≤ b ∧ b ≤ 1040 ∧ x = n) → ¬ (b = 1041 ∧ 5 * n ≤ x ∧ x < 5 * n + 5) → ¬ (b = 1000 ∧ x = 7) → J3 b x = J b x := fun b x z1 z2 z3 => by rw [G4 b x z3, G3 b x (by omega)]; exact g2 b x z1 z2 z3
          have ez' : z' = 2 := by omega
          rw [ez']
          show wbX12_ruleMeaning_168 Q (kW k i) (wX12_ruleMeaning_168 Q (kW k i) 1) 2 J3
          unfold wbX12_ruleMeaning_168
          have p3 : J3 1000 7 = i + 3 := by rw [e3, u2e]; omega
          rw [p3]
          refine ⟨by omega, fun _ => ?_, fun c3 => by omega⟩
          exact s261 (fun _ => ok) (fun _ => ok2) J3 g3 (by omega) (mk J3 (kV' k (i + 1)) (kV' k (i + 2)) (by rw [G4 _ _ (by omega), G3 _ _ (by omega)]; exact a0) (by rw [G4 _ _ (by omega), G3 _ _ (by omega)]; exact a1) (by rw [G4 _ _ (by omega), e16]; exact u2e) (by rw [G4 _ _ (by omega), G3 _ _ (by omega)]; exact a3) (by rw [r1, if_pos c1]) (by rw [r2, if_pos c2]))
        · rw [p2]
          exact err (i + 2) J2 fr2.1 p2 (by omega) (by omega) (rul_2 (fun _ => ok) c2 nok2)
    · rw [e7]
      exact err (i + 1) J f e7 (by omega) (by omega) (rul_3 c1 nok')
theorem m_rulesL {Q : Int → cI → Prop} (o : okK k) (hA : jA J0 k) (w2 : 2 ≤ w) (w5 : w ≤ 5) (h2 : 2 ≤ h) (h5 : h ≤ 5) (k5 : kk ≤ 5) : ∀ (m : Nat) (i n : Int) (ρ : Int → Int → Int) (J : cI), 0 ≤ i → i ≤ kZ k → kZ k - i < m → (fml k m i).1 = 1 → 0 ≤ n → n ≤ 40 → jF J0 J → J 1000 33 = w → J 1000 34 = h → J 1000 35 = kk → J 1000 36 = n → J 1000 7 = i → (∀ j, 0 ≤ j → j < n → e9 (mr J 1037 j) (ρ j)) →
    ((mrl k w h kk m i n ρ).1 = 0 → ∀ J', jF J0 J' → J' 1000 33 = w → J' 1000 34 = h → J' 1000 35 = kk → J' 1000 36 = (mrl k w h kk m i n ρ).2.2.1 → (∀ j, 0 ≤ j → j < (mrl k w h kk m i n ρ).2.2.1 → e9 (mr J' 1037 j) ((mrl k w h kk m i n ρ).2.2.2 j)) → J' 1000 8 = J 1000 8 → J' 1000 3 = J 1000 3 → Q 1 J') →
    (¬ (mrl k w h kk m i n ρ).1 = 0 → ∀ J', jF J0 J' → J' 1000 8 = (mrl k w h kk m i n ρ).1 → J' 1000 3 = kS k (mrl k w h kk m i n ρ).2.1 → Q 0 J') → wX12_meaning_70 Q m J := by
  intro m
  induction m with
  | zero => intro i n ρ J i0 i1 i2; omega
  | succ m ih =>
    intro i n ρ J i0 i1 i2 hf n0 n1 f e33 e34 e35 e36 e7 er q1 q0
    have N1 := o.2.1
    show wbX12_meaning_70 Q (wX12_meaning_70 Q m) J
    unfold wbX12_meaning_70
    have hJ := hA J (jF_s f) i i0 i1
    rw [e7, hJ.1]
    refine ⟨by omega, fun c0 => ?_, fun c0 => ?_⟩
    · rw [mrl_0 c0] at q1
      exact q1 rfl J f e33 e34 e35 e36 er rfl rfl
    · have il := K_lt o i0 i1 c0
      have s := fml_s o c0 hf
      have fF := fun (_ : Unit) => rfm_ok o i0 i1 s.1.1 s.1.2
      have k2 := (fF ()).1
      have w0 := (fF ()).2.1
      have w13 := (fF ()).2.2.1
      have r := rfm_b o i0 i1
      have r1 := r.2.1
      have r2 := r.2.2 s.1.1
      clear r
      have rl := K_lt o (by omega) r1 (show ¬ kK k (rfm k i).2 = 0 by rw [s.1.2]; decide)
      refine hJ.2.2.1 _ ?_
      rw [if_pos ⟨k2, by omega⟩]
      -- behind a rule
      have nx : ∀ (j n' : Int) (ρ' : Int → Int → Int) (J2 : cI), i < j → j < kZ k → (fml k m (j + 1)).1 = 1 → 0 ≤ n' → n' ≤ 40 → jF J0 J2 → J2 1000 33 = w → J2 1000 34 = h → J2 1000 35 = kk → J2 1000 36 = n' → J2 1000 7 = j → (∀ i, 0 ≤ i → i < n' → e9 (mr J2 1037 i) (ρ' i)) → (J2 1000 8 = J 1000 8 ∧ J2 1000 3 = J 1000 3) → mrl k w h kk (m + 1) i n ρ = mrl k w h kk m (j + 1) n' ρ' → ((¬ (1 : Int) = 0 → inR (((J2 1000 7) + 1)) ∧ ∀ J11 : cI, J11 = up2 J2 1000 7 (((J2 1000 7) + 1)) → wX12_meaning_70 Q m J11) ∧ ((1 : Int) = 0 → Q 0 J2)) := fun j n' ρ' J2 j0 j1 hf' n0' n1' f' d33 d34 d35 d36 d7 er' d8 em => by
        rw [d7]
        refine ⟨fun _ => ⟨by unfold inR; omega, fun J11 e11 => ?_⟩, fun z => absurd z (by decide)⟩
        rw [em] at q1 q0
        have G : ∀ b x, ¬ (b = 1000 ∧ x = 7) → J11 b x = J2 b x := fun b x q => by rw [e11]; exact u2n q
        have em' : mr J11 1037 = mr J2 1037 := mr_fr (fun b x z1 z2 => G b x (by omega))
        refine ih (j + 1) n' ρ' J11 (by omega) (by omega) (by omega) hf' n0' n1' (fun b x z1 z2 => by rw [G b x (by omega)]; exact f' b x z1 z2) (by rw [G _ _ (by omega)]; exact d33) (by rw [G _ _ (by omega)]; exact d34) (by rw [G _ _ (by omega)]; exact d35) (by rw [G _ _ (by omega)]; exact d36) (by rw [e11]; exact u2e) (by rw [em']; exact er') ?_ q0
        rw [G 1000 8 (by omega), G 1000 3 (by omega), d8.1, d8.2]
        exact q1
      have mr1 : ¬ kW k i = 12 → ¬ kW k i = 13 → mor w h (kW k i) = 1 := fun a b => (if_neg a).trans (if_neg b)
      have mr2 : ¬ kW k i = 12 → kW k i = 13 → mor w h (kW k i) = w := fun a b => (if_neg a).trans (if_pos b)
      have mr3 : kW k i = 12 → mor w h (kW k i) = h := fun a => if_pos a
      have e2 : 12 ≤ kW k i → (rfm k i).2 = i + 1 := (fF ()).2.2.2.2.1
      have body : ∀ y, y = mor w h (kW k i) → wX12_ruleMeaning_27 (fun r6 J7 => (¬ r6 = 0 → inR (((J7 1000 7) + 1)) ∧ ∀ J11 : cI, J11 = up2 J7 1000 7 (((J7 1000 7) + 1)) → wX12_meaning_70 Q m J11) ∧ (r6 = 0 → Q 0 J7)) (kW k i) y J := fun y ey => by
        unfold wX12_ruleMeaning_27
        have yb : 1 ≤ y ∧ y ≤ 5 := by
          by_cases a : kW k i = 12
          · rw [mr3 a] at ey; omega
          · by_cases b : kW k i = 13
            · rw [mr2 a b] at ey; omega
            · rw [mr1 a b] at ey; omega
        rw [e36, e7]
        refine ⟨by unfold inR; omega, fun c40 => ⟨by unfold inR; omega, fun J3 e3 => ?_⟩, fun c40 => ?_⟩
        · rw [ey] at c40
          have c40' : ¬ 40 < n + mor w h (kW k i) := by omega
          have G : ∀ b x, ¬ (b = 1000 ∧ x = 7) → J3 b x = J b x := fun b x q => by rw [e3]; exact u2n q
          have f3 : jF J0 J3 := fun b x z1 z2 => by rw [G b x (by omega)]; exact f b x z1 z2
          have em3 : mr J3 1037 = mr J 1037 := mr_fr (fun b x z1 z2 => G b x (by omega))
          have er3 : ∀ j, 0 ≤ j → j < n → e9 (mr J3 1037 j) (ρ j) := by rw [em3]; exact er
          have a33 : J3 1000 33 = w := by rw [G _ _ (by omega)]; exact e33
          have a34 : J3 1000 34 = h := by rw [G _ _ (by omega)]; exact e34
          have a35 : J3 1000 35 = kk := by rw [G _ _ (by omega)]; exact e35
          have a36 : J3 1000 36 = n := by rw [G _ _ (by omega)]; exact e36
          have a7 : J3 1000 7 = i + 1 := by rw [e3]; exact u2e
          have a8 : J3 1000 8 = J 1000 8 := G _ _ (by omega)
          have a9 : J3 1000 3 = J 1000 3 := G _ _ (by omega)
          refine ⟨fun c12 => ?_, fun c12 => ?_⟩
          · have c12' : ¬ kW k i = 12 := by omega
            have c13' : ¬ kW k i = 13 := by omega
            have mm := mr1 c12' c13'
            refine m_lay a36 n0 (by omega) (fun J7 u7 eu => ?_)
            have G7 : ∀ x, J7 1000 x = J3 1000 x := fun x => u7 1000 x (by omega) (by omega)
            have er7 : ∀ j, 0 ≤ j → j < n → e9 (mr J7 1037 j) (ρ j) := fun j j0 j1 => e9_t (uX_e u7 (by omega)) (er3 j j0 j1)
            refine m_rule1 (k := k) (J0 := J0) (w := w) (h := h) (kk := kk) (n := n) (ρ := ρ) (i := i) o hA w2 w5 h2 h5 n0 (by omega) (jF_t f3 (uX_f u7)) ((G7 _).trans a33) ((G7 _).trans a34) ((G7 _).trans a35) ((G7 _).trans a36) ((G7 _).trans a7) i0 i1 s.1 c12 er7 eu (fun cr J' f' d33 d34 d35 d36 d7 er' e' d8 => ?_) (fun cr J' f' d8 d3 => ?_)
            · have em := mrl_r (m := m) (ρ := ρ) c0 c40' c12' c13' cr
              have rk := rul_ok (kk := kk) o w2 w5 h2 h5 k5 i0 i1 s.1 c12
              have rr := rk.2.2.2 cr
              clear rk
              refine nx (rul k w h kk i).2.1 (n + 1) _ J' (by rw [rr.1]; exact r2) (by rw [rr.1]; exact rl) (by rw [rr.1]; exact s.2) (by omega) (by omega) f' d33 d34 d35 d36 d7 (fun j j0 j1 => ?_) ⟨d8.1.trans ((G7 _).trans a8), d8.2.trans ((G7 _).trans a9)⟩ em
              unfold addF
              by_cases cj : j < n
              · rw [if_pos cj]; exact er' j j0 cj
              · rw [if_neg cj, show j = n by omega]; exact e'
            · refine ⟨fun z => absurd rfl z, fun _ => ?_⟩
              rw [mrl_e c0 c40' c12' c13' cr] at q0
              exact q0 cr J' f' d8 d3
          · by_cases d12 : kW k i = 12
            · have mm := mr3 d12
              rw [mm] at ey c40
              refine m_lines (w := w) (h := h) (ρ := ρ) (n := n) (Or.inl ⟨d12, rfl, rfl⟩) w2 w5 h2 h5 a33 a34 a36 (by omega) (by omega) ⟨fun _ => ey, fun z => by omega⟩ n0 (by omega) er3 (fun J' g' d36 er' => ?_)
              have em := mrl_12 (m := m) (ρ := ρ) (kk := kk) c0 c40' d12
              rw [ey] at d36 er'
              refine nx (i + 1) (n + h) _ J' (by omega) (by have := e2 (by omega); omega) (by rw [← e2 (by omega)]; exact s.2) (by omega) (by omega) (fun b x z1 z2 => by rw [g' b x z1 (by omega)]; exact f3 b x z1 z2) (by rw [g' _ _ (by omega) (by omega)]; exact a33) (by rw [g' _ _ (by omega) (by omega)]; exact a34) (by rw [g' _ _ (by omega) (by omega)]; exact a35) d36 (by rw [g' _ _ (by omega) (by omega)]; exact a7) er' ⟨by rw [g' _ _ (by omega) (by omega)]; exact a8, by rw [g' _ _ (by omega) (by omega)]; exact a9⟩ ?_
              rw [em, show i + 1 + 1 = i + 2 by omega]
            · have d13 : kW k i = 13 := by omega
              have mm := mr2 d12 d13
              rw [mm] at ey c40
              refine m_lines (w := w) (h := h) (ρ := ρ) (n := n) (Or.inr ⟨d13, rfl, rfl⟩) w2 w5 h2 h5 a33 a34 a36 (by omega) (by omega) ⟨fun z => by omega, fun _ => ey⟩ n0 (by omega) er3 (fun J' g' d36 er' => ?_)
              have em := mrl_13 (m := m) (ρ := ρ) (kk := kk) c0 c40' d12 d13
              rw [ey] at d36 er'
              refine nx (i + 1) (n + w) _ J' (by omega) (by have := e2 (by omega); omega) (by rw [← e2 (by omega)]; exact s.2) (by omega) (by omega) (fun b x z1 z2 => by rw [g' b x z1 (by omega)]; exact f3 b x z1 z2) (by rw [g' _ _ (by omega) (by omega)]; exact a33) (by rw [g' _ _ (by omega) (by omega)]; exact a34) (by rw [g' _ _ (by omega) (by omega)]; exact a35) d36 (by rw [g' _ _ (by omega) (by omega)]; exact a7) er' ⟨by rw [g' _ _ (by omega) (by omega)]; exact a8, by rw [g' _ _ (by omega) (by omega)]; exact a9⟩ ?_
              rw [em, show i + 1 + 1 = i + 2 by omega]
        · have c40' : 40 < n + mor w h (kW k i) := by omega
          rw [mrl_4 c0 c40'] at q0
          refine m_wrong o (jA_t hA (jF_s f)) i0 i1 (fun J' f' t8 t3 => ⟨Or.inl rfl, fun z => absurd rfl z, fun _ => ?_⟩)
          exact q0 (by show ¬ (4 : Int) = 0; decide) J' (fun b x z1 z2 => by rw [f' b x (by omega)]; exact f b x z1 z2) t8 t3
      unfold wX12_ruleMeaning
      rw [e33, e34]
      exact ⟨fun a => ⟨fun b => body 1 (mr1 a b).symm, fun b => body w (mr2 a b).symm⟩, fun a => body h (mr3 a).symm⟩
end MM5
