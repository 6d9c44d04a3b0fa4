/-! ===== the form of a text: the reference ===== -/
def smT (J J' : cI) : Prop := (∀ b x, b = 1001 ∨ (1004 ≤ b ∧ b ≤ 1006) → J' b x = J b x) ∧ J' 1000 2 = J 1000 2
theorem smT_t {J K L : cI} (h : smT J K) (g : smT K L) : smT J L := ⟨fun b x q => (g.1 b x q).trans (h.1 b x q), g.2.trans h.2⟩
/-- what the reference reads off its tokens -/
def jA (J : cI) (k : kT) : Prop := ∀ J', smT J J' → ∀ i, 0 ≤ i → i ≤ kZ k → J' 1004 i = kK k i ∧ J' 1005 i = kS k i ∧ (∀ Q : Int → cI → Prop, Q (if kK k i = 2 ∧ kW k i ≠ 14 then kW k i else -1) J' → wX12_wordAt i J' Q) ∧ (kK k i = 3 → ∀ Q : Int → cI → Prop, Q (kV' k i) J' → wX12_numberAt i J' Q) ∧ (kK k i = 1 → 0 ≤ kS k i ∧ kS k i + 1 < 1600 ∧ J' 1001 (kS k i) - 97 = kC k i ∧ J' 1001 (kS k i + 1) - 49 = kR k i) ∧ (i = 0 → ∀ Q : Int → cI → Prop, Q (b2 (kK k 0 = 2 ∧ kW k 0 = 14)) J' → wX12_is 0 14 J' Q)
theorem jA_t {J J' : cI} {k : kT} (h : jA J k) (s : smT J J') : jA J' k := fun J2 s2 => h J2 (smT_t s s2)
/-- the place alone is changed -/
def jP (J0 J : cI) : Prop := ∀ b x, ¬ (b = 1000 ∧ x = 7) → J b x = J0 b x
theorem jP_t {J K L : cI} (h : jP J K) (g : jP K L) : jP J L := fun b x q => (g b x q).trans (h b x q)
theorem jP_s {J J' : cI} (h : jP J J') : smT J J' := ⟨fun b x q => h b x (by omega), h 1000 2 (by omega)⟩
theorem jP_u {J J' J2 : cI} {i : Int} (h : jP J J') (e : J2 = up2 J' 1000 7 i) : jP J J2 := fun b x q => by subst e; rw [u2n q]; exact h b x q
section FM3
variable {k : kT} {J : cI}
theorem m_takes {κ i : Int} {Q : Int → cI → Prop} (o : okK k) (h : jA J k) (e : J 1000 7 = i) (i0 : 0 ≤ i) (i1 : i ≤ kZ k) (q1 : kK k i = κ → ∀ J', jP J J' → J' 1000 7 = i + 1 → Q 1 J') (q0 : ¬ kK k i = κ → Q 0 J) : wX12_takes κ J Q := by
  have N1 := o.2.1
  unfold wX12_takes
  rw [e, (h J ⟨fun _ _ _ => rfl, rfl⟩ i i0 i1).1]
  exact ⟨by omega, fun c => ⟨by unfold inR; omega, fun J3 e3 => q1 c J3 (jP_u (fun _ _ _ => rfl) e3) (by subst e3; exact u2e)⟩, q0⟩
theorem m_ruleForm {i : Int} {Q : Int → cI → Prop} (o : okK k) (h : jA J k) (e : J 1000 7 = i) (i0 : 0 ≤ i) (i1 : i ≤ kZ k)
    (hQ : ∀ J', jP J J' → J' 1000 7 = (rfm k i).2 → Q (rfm k i).1 J') : wX12_ruleForm J Q := by
  have hW := (o.2.2 i i0 i1).2.2.1
  have N1 := o.2.1
  unfold rfm at hQ
  unfold wX12_ruleForm
  rw [e]
  refine (h J ⟨fun _ _ _ => rfl, rfl⟩ i i0 i1).2.2.1 _ ⟨fun c => ?_, fun c => ?_⟩
  · by_cases d : kK k i = 2 ∧ kW k i ≠ 14
    · rw [if_pos d] at c ⊢
      rw [if_neg (by omega)] at hQ
      have il := K_lt o i0 i1 (by rw [d.1]; decide)
      have nu := nu_i (w := kW k i) (by omega) (by omega)
      rw [e]
      refine ⟨by unfold inR; omega, fun J6 e6 => ⟨4, ?_⟩⟩
      have f6 : jP J J6 := jP_u (fun _ _ _ => rfl) e6
      have p6 : J6 1000 7 = i + 1 := by subst e6; exact u2e
      have L : ∀ (m : Nat) (x : Nat) (j : Int) (J' : cI), (x : Int) ≤ nuT (kW k i) → nuT (kW k i) - x < m → jP J J' → J' 1000 7 = j → 0 ≤ j → j ≤ kZ k → tkN k 3 ((nuT (kW k i)).toNat - x) j = tkN k 3 (nuT (kW k i)).toNat (i + 1) → wX12_ruleForm_28 Q m (kW k i) x J' := by
        intro m
        induction m with
        | zero => intro x j J' x0 x1; omega
        | succ m ih =>
          intro x j J' x0 x1 f p j0 j1 he
          show wbX12_ruleForm_28 Q (wX12_ruleForm_28 Q m) (kW k i) x J'
          have h' := jA_t h (jP_s f)
          refine ⟨by omega, fun c2 => ⟨fun c12 => ?_, fun c12 => ?_⟩, fun c2 => ?_⟩
          · rw [show (nuT (kW k i)).toNat - x = 0 by omega] at he
            have he' : ((1 : Int), j) = tkN k 3 (nuT (kW k i)).toNat (i + 1) := he
            rw [← he'] at hQ
            unfold rfn at hQ
            rw [if_neg (by show ¬ (1 : Int) = 0; decide), if_neg (by omega)] at hQ
            dsimp only at hQ
            refine m_takes o h' p j0 j1 (fun k1 J3 f3 p3 => ⟨fun _ => ?_, fun n => absurd n (by decide)⟩) (fun k1 => ⟨fun n => absurd rfl n, fun _ => ?_⟩)
            · rw [if_neg (fun n => n k1)] at hQ
              have jl := K_lt o j0 j1 (by rw [k1]; decide)
              have f3' := jP_t f f3
              have h3 := jA_t h (jP_s f3')
              refine ⟨fun c9 => ⟨fun c3 => ?_, fun c3 => ?_⟩, fun c9 => ?_⟩
              · rw [if_neg c9, if_neg c3] at hQ
                have L94 : ∀ (m' : Nat) (y : Int) (J4 : cI), jP J J4 → J4 1000 7 = y → j + 1 ≤ y → y ≤ kZ k → kZ k - y < m' → enC k y = enC k (j + 1) → wX12_ruleForm_94 Q m' J4 := by
                  intro m'
                  induction m' with
                  | zero => intro y J4 _ _ y0 y1 y2; omega
                  | succ m' ih' =>
                    intro y J4 f4 p4 y0 y1 y2 hy
                    show wbX12_ruleForm_94 Q (wX12_ruleForm_94 Q m') J4
                    unfold wbX12_ruleForm_94
                    rw [p4, (h J4 (jP_s f4) y (by omega) y1).1]
                    refine ⟨by omega, fun n1 => ?_, fun y1' => ⟨by unfold inR; omega, fun J5 e5 => ?_⟩⟩
                    · rw [enC_e n1] at hy
                      have := hQ J4 f4 (by rw [p4]; exact hy)
                      exact this
                    · have yl := K_lt o (by omega) y1 (show ¬ kK k y = 0 by rw [y1']; decide)
                      rw [enC_s yl y1'] at hy
                      exact ih' (y + 1) J5 (jP_u f4 e5) (by subst e5; exact u2e) (by omega) (by omega) (by omega) hy
                exact ⟨1602, L94 1602 (j + 1) J3 f3' p3 (Int.le_refl _) (by omega) (by omega) rfl⟩
              · rw [if_neg c9, if_pos c3, one4] at hQ
                refine m_takes o h3 p3 (by omega) (by omega) (fun k3 J5 f5 p5 => ⟨Or.inr rfl, ?_⟩) (fun k3 => ⟨Or.inl rfl, ?_⟩)
                · rw [if_pos k3] at hQ; exact hQ J5 (jP_t f3' f5) p5
                · rw [if_neg k3] at hQ; exact hQ J3 f3' p3
              · rw [if_pos c9, one4] at hQ
                refine m_takes o h3 p3 (by omega) (by omega) (fun k3 J5 f5 p5 => ⟨Or.inr rfl, ?_⟩) (fun k3 => ⟨Or.inl rfl, ?_⟩)
                · rw [if_pos k3] at hQ; exact hQ J5 (jP_t f3' f5) p5
                · rw [if_neg k3] at hQ; exact hQ J3 f3' p3
            · rw [if_pos k1] at hQ; exact hQ J' f p
          · rw [show (nuT (kW k i)).toNat - x = 0 by omega] at he
            have he' : ((1 : Int), j) = tkN k 3 (nuT (kW k i)).toNat (i + 1) := he
            rw [← he'] at hQ
            unfold rfn at hQ
            rw [if_neg (by show ¬ (1 : Int) = 0; decide), if_pos (by omega)] at hQ
            exact hQ J' f p
          · have en : (nuT (kW k i)).toNat - x = ((nuT (kW k i)).toNat - (x + 1)) + 1 := by omega
            rw [en] at he
            refine m_takes o h' p j0 j1 (fun k3 J3 f3 p3 => ⟨fun _ => ⟨by unfold inR; omega, fun z hz => ?_⟩, fun n => absurd n (by decide)⟩) (fun k3 => ⟨fun n => absurd rfl n, fun _ => ?_⟩)
            · have jl := K_lt o j0 j1 (by rw [k3]; decide)
              have ez : z = ((x + 1 : Nat) : Int) := by omega
              rw [ez]
              have he' : tkN k 3 ((nuT (kW k i)).toNat - (x + 1)) (j + 1) = tkN k 3 (nuT (kW k i)).toNat (i + 1) := by
                rw [← he]; exact (if_pos k3).symm
              exact ih (x + 1) (j + 1) J3 (by omega) (by omega) (jP_t f f3) p3 (by omega) (by omega) he'
            · have he' : ((0 : Int), j) = tkN k 3 (nuT (kW k i)).toNat (i + 1) := by
                rw [← he]; exact (if_neg k3).symm
              rw [← he'] at hQ
              unfold rfn at hQ
              rw [if_pos (show ((0 : Int), j).1 = 0 from rfl)] at hQ
              exact hQ J' f p
      exact L 4 0 (i + 1) J6 (by omega) (by omega) f6 p6 (by omega) (by omega) (by rw [Nat.sub_zero])
    · rw [if_neg d] at c; exact absurd rfl c
  · have hn : ¬ kK k i = 2 ∨ kW k i = -1 ∨ kW k i = 14 := by
      by_cases d : kK k i = 2 ∧ kW k i ≠ 14
      · rw [if_pos d] at c; exact Or.inr (Or.inl c)
      · omega
    rw [if_pos hn] at hQ
    exact hQ J (fun _ _ _ => rfl) e
theorem m_form {Q : Int → cI → Prop} (o : okK k) (h : jA J k) (hQ : ∀ J', jP J J' → J' 1000 7 = (fm k).2 → Q (fm k).1 J') : wX12_form J Q := by
  have N0 := o.1
  have N1 := o.2.1
  unfold fm at hQ
  unfold wX12_form
  intro J1 e1
  have f1 : jP J J1 := jP_u (fun _ _ _ => rfl) e1
  have p1 : J1 1000 7 = 0 := by subst e1; exact u2e
  have L : ∀ (m : Nat) (i : Int) (J' : cI), kZ k - i < m → jP J J' → J' 1000 7 = i → 0 ≤ i → i ≤ kZ k → (∀ J2, jP J J2 → J2 1000 7 = (fml k m i).2 → Q (fml k m i).1 J2) → wX12_form_56 Q m J' := by
    intro m
    induction m with
    | zero => intro i J' x0 _ _ i0 i1; omega
    | succ m ih =>
      intro i J' x0 f p i0 i1 hq
      show wbX12_form_56 Q (wX12_form_56 Q m) J'
      unfold wbX12_form_56
      have h' := jA_t h (jP_s f)
      have r := rfm_b o i0 i1
      rw [p, (h J' (jP_s f) i i0 i1).1]
      refine ⟨by omega, fun c0 => ?_, fun c0 => m_ruleForm o h' p i0 i1 (fun J3 f3 p3 => ⟨fun c1 => ?_, fun c1 => ?_⟩)⟩
      · have e0 : fml k (m + 1) i = (1, i) := if_pos c0
        rw [e0] at hq; exact hq J' f p
      · have e0 : fml k (m + 1) i = rfm k i := (if_neg c0).trans (if_pos c1)
        rw [e0] at hq
        have := hq J3 (jP_t f f3) p3
        rw [c1] at this; exact this
      · have f3' := jP_t f f3
        refine m_takes o (jA_t h (jP_s f3')) p3 (by omega) r.2.1 (fun c4 J7 f7 p7 => ⟨fun _ => ?_, fun n => absurd n (by decide)⟩) (fun c4 => ⟨fun n => absurd rfl n, fun _ => ?_⟩)
        · have e0 : fml k (m + 1) i = fml k m ((rfm k i).2 + 1) := (if_neg c0).trans ((if_neg c1).trans (if_pos c4))
          have l := K_lt o (by omega) r.2.1 (show ¬ kK k (rfm k i).2 = 0 by rw [c4]; decide)
          rw [e0] at hq
          exact ih ((rfm k i).2 + 1) J7 (by omega) (jP_t f3' f7) p7 (by omega) (by omega) hq
        · have e0 : fml k (m + 1) i = (0, (rfm k i).2) := (if_neg c0).trans ((if_neg c1).trans (if_neg c4))
          rw [e0] at hq
          exact hq J3 f3' p3
  refine (h J1 (jP_s f1) 0 (Int.le_refl 0) N0).2.2.2.2.2 rfl _ ⟨fun c => ?_, fun c => ?_⟩
  · have w := b2_y.mp ((b2_or _).resolve_left c)
    rw [if_neg (fun n => n w)] at hQ
    intro J8 e8
    have f8 := jP_u f1 e8
    have p8 : J8 1000 7 = 1 := by subst e8; exact u2e
    have z1 := K_lt o (Int.le_refl 0) N0 (show ¬ kK k 0 = 0 by rw [w.1]; decide)
    have t3 : tkN k 3 3 1 = if kK k 1 = 3 then (if kK k (1 + 1) = 3 then (if kK k (1 + 1 + 1) = 3 then (1, 1 + 1 + 1 + 1) else (0, 1 + 1 + 1)) else (0, 1 + 1)) else (0, 1) := rfl
    refine m_takes o (jA_t h (jP_s f8)) p8 (by decide) (by omega) (fun k1 J12 f12 p12 => ⟨fun n => absurd n (by decide), fun _ => ?_⟩) (fun k1 => ⟨fun _ => ?_, fun n => absurd rfl n⟩)
    · have z2 := K_lt o (by decide) (by omega : (1 : Int) ≤ kZ k) (show ¬ kK k 1 = 0 by rw [k1]; decide)
      have f12' := jP_t f8 f12
      refine m_takes o (jA_t h (jP_s f12')) p12 (by decide) (by omega) (fun k2 J16 f16 p16 => ⟨fun n => absurd n (by decide), fun _ => ?_⟩) (fun k2 => ⟨fun _ => ?_, fun n => absurd rfl n⟩)
      · have z3 := K_lt o (by decide) (by omega : (1 + 1 : Int) ≤ kZ k) (show ¬ kK k (1 + 1) = 0 by rw [k2]; decide)
        have f16' := jP_t f12' f16
        refine m_takes o (jA_t h (jP_s f16')) p16 (by decide) (by omega) (fun k3 J20 f20 p20 => ⟨fun n => absurd n (by decide), fun _ => ?_⟩) (fun k3 => ⟨fun _ => ?_, fun n => absurd rfl n⟩)
        · have z4 := K_lt o (by decide) (by omega : (1 + 1 + 1 : Int) ≤ kZ k) (show ¬ kK k (1 + 1 + 1) = 0 by rw [k3]; decide)
          have f20' := jP_t f16' f20
          rw [if_pos k1, if_pos k2, if_pos k3] at t3
          rw [t3] at hQ
          rw [if_neg (by show ¬ (1 : Int) = 0; decide)] at hQ
          dsimp only at hQ
          refine m_takes o (jA_t h (jP_s f20')) p20 (by decide) (by omega) (fun k4 J24 f24 p24 => ⟨fun _ => ?_, fun n => absurd n (by decide)⟩) (fun k4 => ⟨fun n => absurd rfl n, fun _ => ?_⟩)
          · rw [if_neg (fun n => n k4)] at hQ
            have z5 := K_lt o (by decide) (by omega : (1 + 1 + 1 + 1 : Int) ≤ kZ k) (show ¬ kK k (1 + 1 + 1 + 1) = 0 by rw [k4]; decide)
            exact ⟨(kZ k + 1).toNat, L (kZ k + 1).toNat _ J24 (by omega) (jP_t f20' f24) p24 (by decide) (by omega) hQ⟩
          · rw [if_pos k4] at hQ; exact hQ J20 f20' p20
        · rw [if_pos k1, if_pos k2, if_neg k3] at t3
          rw [t3, if_pos (show ((0 : Int), (1 + 1 + 1 : Int)).1 = 0 from rfl)] at hQ
          exact hQ J16 f16' p16
      · rw [if_pos k1, if_neg k2] at t3
        rw [t3, if_pos (show ((0 : Int), (1 + 1 : Int)).1 = 0 from rfl)] at hQ
        exact hQ J12 f12' p12
    · rw [if_neg k1] at t3
      rw [t3, if_pos (show ((0 : Int), (1 : Int)).1 = 0 from rfl)] at hQ
      exact hQ J8 f8 p8
  · rw [if_pos (b2_n.mp c)] at hQ
    exact hQ J1 f1 p1
end FM3
