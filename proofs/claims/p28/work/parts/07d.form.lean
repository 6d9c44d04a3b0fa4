/-! ===== the form of a text ===== -/
/-- tokens: kind (0 end, 1 cell, 2 word, 3 number, 4 semicolon, 5 wrong), word, value, column, row, place; the number of the last one -/
abbrev kT : Type := (Int → Int) × (Int → Int) × (Int → Int) × (Int → Int) × (Int → Int) × (Int → Int) × Int
def kK (k : kT) (i : Int) : Int := k.1 i
def kW (k : kT) (i : Int) : Int := k.2.1 i
def kV' (k : kT) (i : Int) : Int := k.2.2.1 i
def kC (k : kT) (i : Int) : Int := k.2.2.2.1 i
def kR (k : kT) (i : Int) : Int := k.2.2.2.2.1 i
def kS (k : kT) (i : Int) : Int := k.2.2.2.2.2.1 i
def kZ (k : kT) : Int := k.2.2.2.2.2.2
def okK (k : kT) : Prop := 0 ≤ kZ k ∧ kZ k ≤ 1600 ∧ ∀ i, 0 ≤ i → i ≤ kZ k → (0 ≤ kK k i ∧ kK k i ≤ 5) ∧ (kK k i = 0 ↔ i = kZ k) ∧ (-1 ≤ kW k i ∧ kW k i ≤ 14) ∧ (kK k i = 3 → 0 ≤ kV' k i ∧ kV' k i ≤ 9999) ∧ (kK k i = 1 → 0 ≤ kC k i ∧ kC k i ≤ 25 ∧ -1 ≤ kR k i ∧ kR k i ≤ 8)
def cTy (κ w : Int) : Int := if κ = 2 then (if w = -1 then 5 else 1) else if κ = 1 then 3 else if κ = 3 then 2 else if κ = 4 then 4 else if κ = 0 then 0 else 5
def cKV (I : cI) (k : kT) : Prop := I 4 0 = kZ k + 1 ∧ ∀ i, 0 ≤ i → i ≤ kZ k → I 6 i = kS k i ∧ I 5 i = cTy (kK k i) (kW k i) ∧ (kK k i = 2 → I 7 i = kW k i) ∧ (kK k i = 3 → I 7 i = kV' k i) ∧ (kK k i = 1 → I 7 i = 10 * kC k i + (kR k i + 1))
theorem cKV_fr {I I' : cI} {k : kT} (h : cKV I k) (f : ∀ b x, 4 ≤ b → b ≤ 7 → I' b x = I b x) : cKV I' k := by
  unfold cKV at h ⊢
  simp only [f 4 _ (by decide) (by decide), f 5 _ (by decide) (by decide), f 6 _ (by decide) (by decide), f 7 _ (by decide) (by decide)]
  exact h
/-- tokens of a kind, one behind the other -/
def tkN (k : kT) (κ : Int) : Nat → Int → Int × Int
  | 0, i => (1, i)
  | n + 1, i => if kK k i = κ then tkN k κ n (i + 1) else (0, i)
noncomputable def enC (k : kT) (i : Int) : Int := fnI (fun j => ¬ kK k j = 1) (kZ k - i).toNat i
noncomputable def rfn (k : kT) (w : Int) (a : Int × Int) : Int × Int := if a.1 = 0 then a else if 12 ≤ w then a else if ¬ kK k a.2 = 1 then (0, a.2) else if w = 9 then tkN k 3 1 (a.2 + 1) else if w = 3 then tkN k 1 1 (a.2 + 1) else (1, enC k (a.2 + 1))
noncomputable def rfm (k : kT) (i : Int) : Int × Int := if ¬ kK k i = 2 ∨ kW k i = -1 ∨ kW k i = 14 then (0, i) else rfn k (kW k i) (tkN k 3 (nuT (kW k i)).toNat (i + 1))
noncomputable def fml (k : kT) : Nat → Int → Int × Int
  | 0, i => (1, i)
  | m + 1, i => if kK k i = 0 then (1, i) else if (rfm k i).1 = 0 then rfm k i else if kK k (rfm k i).2 = 4 then fml k m ((rfm k i).2 + 1) else (0, (rfm k i).2)
noncomputable def fm (k : kT) : Int × Int := if ¬ (kK k 0 = 2 ∧ kW k 0 = 14) then (0, 0) else if (tkN k 3 3 1).1 = 0 then tkN k 3 3 1 else if ¬ kK k (tkN k 3 3 1).2 = 4 then (0, (tkN k 3 3 1).2) else fml k (kZ k + 1).toNat ((tkN k 3 3 1).2 + 1)
theorem nu_b : ∀ w : Nat, w < 14 → 0 ≤ nuT (w : Int) ∧ nuT (w : Int) ≤ 2 ∧ (w < 12 → kA w = nuT (w : Int)) ∧ (12 ≤ w → nuT (w : Int) = 0) ∧ (nuT (w : Int) = 2 → w = 8) ∧ (w = 9 → nuT (w : Int) = 0) ∧ (w = 3 → nuT (w : Int) = 0) := by unfold nuT kA; decide +kernel
theorem nu_i {w : Int} (h0 : 0 ≤ w) (h1 : w < 14) : 0 ≤ nuT w ∧ nuT w ≤ 2 ∧ (w < 12 → kA w.toNat = nuT w) ∧ (12 ≤ w → nuT w = 0) ∧ (nuT w = 2 → w = 8) ∧ (w = 9 → nuT w = 0) ∧ (w = 3 → nuT w = 0) := by
  have h := nu_b w.toNat (by omega)
  rw [Int.toNat_of_nonneg h0] at h
  exact ⟨h.1, h.2.1, fun c => h.2.2.1 (by omega), fun c => h.2.2.2.1 (by omega), fun c => by have := h.2.2.2.2.1 c; omega, fun c => h.2.2.2.2.2.1 (by omega), fun c => h.2.2.2.2.2.2 (by omega)⟩
section FO
variable {k : kT}
theorem K_lt (o : okK k) {i : Int} (i0 : 0 ≤ i) (i1 : i ≤ kZ k) (h : ¬ kK k i = 0) : i < kZ k := by
  have := (o.2.2 i i0 i1).2.1
  by_cases c : i = kZ k
  · exact absurd (this.mpr c) h
  · omega
theorem tkN_b (o : okK k) {κ : Int} (hκ : κ ≠ 0) : ∀ (n : Nat) (i : Int), 0 ≤ i → i ≤ kZ k → i ≤ (tkN k κ n i).2 ∧ (tkN k κ n i).2 ≤ kZ k ∧ ((tkN k κ n i).1 = 0 ∨ ((tkN k κ n i).1 = 1 ∧ (tkN k κ n i).2 = i + n ∧ ∀ j, 0 ≤ j → j < (n : Int) → kK k (i + j) = κ)) := by
  intro n
  induction n with
  | zero => intro i i0 i1; exact ⟨Int.le_refl i, i1, Or.inr ⟨rfl, by show i = i + ((0 : Nat) : Int); omega, fun j j0 j1 => by omega⟩⟩
  | succ n ih =>
    intro i i0 i1
    by_cases c : kK k i = κ
    · have e : tkN k κ (n + 1) i = tkN k κ n (i + 1) := if_pos c
      rw [e]
      have := K_lt o i0 i1 (by rw [c]; exact hκ)
      have h := ih (i + 1) (by omega) (by omega)
      refine ⟨by omega, h.2.1, ?_⟩
      rcases h.2.2 with a | ⟨a, b, d⟩
      · exact Or.inl a
      · refine Or.inr ⟨a, by rw [b]; omega, fun j j0 j1 => ?_⟩
        by_cases ej : j = 0
        · subst ej; rw [Int.add_zero]; exact c
        · have := d (j - 1) (by omega) (by omega)
          rw [show i + 1 + (j - 1) = i + j by omega] at this; exact this
    · have e : tkN k κ (n + 1) i = (0, i) := if_neg c
      rw [e]; exact ⟨Int.le_refl i, i1, Or.inl rfl⟩
theorem enC_s {i : Int} (h : i < kZ k) (hp : kK k i = 1) : enC k i = enC k (i + 1) := by
  unfold enC
  rw [show (kZ k - i).toNat = (kZ k - (i + 1)).toNat + 1 by omega]
  exact if_neg (fun w => w hp)
theorem enC_e {i : Int} (hp : ¬ kK k i = 1) : enC k i = i := by
  unfold enC
  cases (kZ k - i).toNat with
  | zero => rfl
  | succ m => exact if_pos hp
theorem enC_b (o : okK k) {i : Int} : 0 ≤ i → i ≤ kZ k → i ≤ enC k i ∧ enC k i ≤ kZ k ∧ ¬ kK k (enC k i) = 1 ∧ ∀ j, i ≤ j → j < enC k i → kK k j = 1 := by
  have key : ∀ x, 0 ≤ x → x ≤ kZ k → x ≤ enC k x ∧ enC k x ≤ kZ k ∧ ¬ kK k (enC k x) = 1 ∧ ∀ j, x ≤ j → j < enC k x → kK k j = 1 := by
    refine up_ind (n := kZ k) (fun x c h0 hx => ?_) (fun x c ih h0 hx => ?_)
    · have hn : ¬ kK k x = 1 := by rw [((o.2.2 x h0 hx).2.1).mpr (by omega)]; decide
      rw [enC_e hn]; exact ⟨Int.le_refl x, hx, hn, fun j j0 j1 => by omega⟩
    · by_cases hp : kK k x = 1
      · rw [enC_s c hp]
        have h := ih (by omega) (by omega)
        refine ⟨by omega, h.2.1, h.2.2.1, fun j j0 j1 => ?_⟩
        by_cases ej : j = x
        · subst ej; exact hp
        · exact h.2.2.2 j (by omega) j1
      · rw [enC_e hp]; exact ⟨Int.le_refl x, hx, hp, fun j j0 j1 => by omega⟩
  exact key i
theorem rfn_b (o : okK k) {w : Int} {a : Int × Int} (a0 : 0 ≤ a.2) (a1 : a.2 ≤ kZ k) : a.2 ≤ (rfn k w a).2 ∧ (rfn k w a).2 ≤ kZ k := by
  unfold rfn
  split
  · exact ⟨Int.le_refl _, a1⟩
  · split
    · exact ⟨Int.le_refl _, a1⟩
    · split
      · exact ⟨Int.le_refl _, a1⟩
      · rename_i h1 h2 h3
        have hk : kK k a.2 = 1 := Classical.byContradiction h3
        have := K_lt o a0 a1 (by rw [hk]; decide)
        split
        · have h := tkN_b o (κ := 3) (by decide) 1 (a.2 + 1) (by omega) (by omega); omega
        · split
          · have h := tkN_b o (κ := 1) (by decide) 1 (a.2 + 1) (by omega) (by omega); omega
          · have h := enC_b o (i := a.2 + 1) (by omega) (by omega)
            exact ⟨by show a.2 ≤ enC k (a.2 + 1); omega, h.2.1⟩
theorem rfm_b (o : okK k) {i : Int} (i0 : 0 ≤ i) (i1 : i ≤ kZ k) : i ≤ (rfm k i).2 ∧ (rfm k i).2 ≤ kZ k ∧ (¬ (rfm k i).1 = 0 → i < (rfm k i).2) := by
  unfold rfm
  split
  · exact ⟨Int.le_refl i, i1, fun c => absurd rfl c⟩
  · rename_i h
    have h2 : kK k i = 2 := by omega
    have := K_lt o i0 i1 (by rw [h2]; decide)
    have t := tkN_b o (κ := 3) (by decide) (nuT (kW k i)).toNat (i + 1) (by omega) (by omega)
    have r := rfn_b o (w := kW k i) (a := tkN k 3 (nuT (kW k i)).toNat (i + 1)) (by omega) t.2.1
    exact ⟨by omega, r.2, fun _ => by omega⟩
/-- what a good form tells of a rule -/
theorem rfm_ok (o : okK k) {i : Int} (i0 : 0 ≤ i) (i1 : i ≤ kZ k) (h : ¬ (rfm k i).1 = 0) (h4 : kK k (rfm k i).2 = 4) :
    kK k i = 2 ∧ 0 ≤ kW k i ∧ kW k i ≤ 13 ∧ (∀ j, 0 ≤ j → j < nuT (kW k i) → kK k (i + 1 + j) = 3) ∧ (12 ≤ kW k i → (rfm k i).2 = i + 1) ∧
    (kW k i < 12 → i + 1 + nuT (kW k i) < enC k (i + 1 + nuT (kW k i)) ∧ i + 1 + nuT (kW k i) ≤ kZ k ∧ (kW k i = 9 → kK k (enC k (i + 1 + nuT (kW k i))) = 3 ∧ (rfm k i).2 = enC k (i + 1 + nuT (kW k i)) + 1 ∧ enC k (i + 1 + nuT (kW k i)) = i + 1 + nuT (kW k i) + 1) ∧ (kW k i ≠ 9 → (rfm k i).2 = enC k (i + 1 + nuT (kW k i))) ∧ (kW k i = 3 → enC k (i + 1 + nuT (kW k i)) = i + 1 + nuT (kW k i) + 2)) := by
  have hW := (o.2.2 i i0 i1).2.2.1
  unfold rfm at h h4 ⊢
  by_cases c : ¬ kK k i = 2 ∨ kW k i = -1 ∨ kW k i = 14
  · rw [if_pos c] at h; exact absurd rfl h
  · rw [if_neg c] at h h4 ⊢
    have h2 : kK k i = 2 := by omega
    have il := K_lt o i0 i1 (by rw [h2]; decide)
    have nu := nu_i (w := kW k i) (by omega) (by omega)
    have t := tkN_b o (κ := 3) (by decide) (nuT (kW k i)).toNat (i + 1) (by omega) (by omega)
    rcases t.2.2 with a | ⟨a, b, d⟩
    · unfold rfn at h; rw [if_pos a] at h; exact absurd a h
    · have b' : (tkN k 3 (nuT (kW k i)).toNat (i + 1)).2 = i + 1 + nuT (kW k i) := by rw [b]; omega
      generalize tkN k 3 (nuT (kW k i)).toNat (i + 1) = A at *
      have na : ¬ A.1 = 0 := by omega
      unfold rfn at h h4 ⊢
      rw [if_neg na] at h h4 ⊢
      refine ⟨h2, by omega, by omega, fun j j0 j1 => d j j0 (by omega), fun c12 => ?_, fun c12 => ?_⟩
      · rw [if_pos c12, b', nu.2.2.2.1 c12]; omega
      · rw [if_neg (by omega)] at h h4 ⊢
        by_cases k1 : kK k A.2 = 1
        · rw [if_neg (fun w => w k1)] at h h4 ⊢
          have l1 := K_lt o (show 0 ≤ A.2 by omega) t.2.1 (by rw [k1]; decide)
          rw [b'] at k1 l1 h h4 ⊢
          have e1 := enC_s l1 k1
          have eb := enC_b o (i := i + 1 + nuT (kW k i) + 1) (by omega) (by omega)
          rw [e1]
          refine ⟨by omega, by omega, fun c9 => ?_, fun c9 => ?_, fun c3 => ?_⟩
          · rw [if_pos c9] at h h4 ⊢
            by_cases k3 : kK k (i + 1 + nuT (kW k i) + 1) = 3
            · have e2 : tkN k 3 1 (i + 1 + nuT (kW k i) + 1) = (1, i + 1 + nuT (kW k i) + 1 + 1) := if_pos k3
              have e3 := enC_e (k := k) (i := i + 1 + nuT (kW k i) + 1) (by rw [k3]; decide)
              rw [e2, e3]
              exact ⟨k3, rfl, rfl⟩
            · have e2 : tkN k 3 1 (i + 1 + nuT (kW k i) + 1) = (0, i + 1 + nuT (kW k i) + 1) := if_neg k3
              rw [e2] at h; exact absurd rfl h
          · rw [if_neg c9] at h h4 ⊢
            by_cases c3 : kW k i = 3
            · rw [if_pos c3] at h h4 ⊢
              by_cases k3 : kK k (i + 1 + nuT (kW k i) + 1) = 1
              · have e2 : tkN k 1 1 (i + 1 + nuT (kW k i) + 1) = (1, i + 1 + nuT (kW k i) + 1 + 1) := if_pos k3
                rw [e2] at h4 ⊢
                have l2 := K_lt o (by omega) (by omega) (show ¬ kK k (i + 1 + nuT (kW k i) + 1) = 0 by rw [k3]; decide)
                have h4' : kK k (i + 1 + nuT (kW k i) + 1 + 1) = 4 := h4
                rw [enC_s l2 k3, enC_e (by rw [h4']; decide)]
              · have e2 : tkN k 1 1 (i + 1 + nuT (kW k i) + 1) = (0, i + 1 + nuT (kW k i) + 1) := if_neg k3
                rw [e2] at h; exact absurd rfl h
            · rw [if_neg c3]
          · have c9 : ¬ kW k i = 9 := by omega
            rw [if_neg c9, if_pos c3] at h h4
            by_cases k3 : kK k (i + 1 + nuT (kW k i) + 1) = 1
            · have e2 : tkN k 1 1 (i + 1 + nuT (kW k i) + 1) = (1, i + 1 + nuT (kW k i) + 1 + 1) := if_pos k3
              rw [e2] at h4
              have l2 := K_lt o (by omega) (by omega) (show ¬ kK k (i + 1 + nuT (kW k i) + 1) = 0 by rw [k3]; decide)
              have h4' : kK k (i + 1 + nuT (kW k i) + 1 + 1) = 4 := h4
              rw [enC_s l2 k3, enC_e (by rw [h4']; decide)]
              omega
            · have e2 : tkN k 1 1 (i + 1 + nuT (kW k i) + 1) = (0, i + 1 + nuT (kW k i) + 1) := if_neg k3
              rw [e2] at h; exact absurd rfl h
        · rw [if_pos k1] at h; exact absurd rfl h
theorem cTy_3 {κ w : Int} : cTy κ w = 3 ↔ κ = 1 := by unfold cTy; split <;> (try split) <;> (try split) <;> (try split) <;> (try split) <;> omega
theorem cTy_2 {κ w : Int} : cTy κ w = 2 ↔ κ = 3 := by unfold cTy; split <;> (try split) <;> (try split) <;> (try split) <;> (try split) <;> omega
theorem cTy_4 {κ w : Int} : cTy κ w = 4 ↔ κ = 4 := by unfold cTy; split <;> (try split) <;> (try split) <;> (try split) <;> (try split) <;> omega
theorem cTy_0 {κ w : Int} : cTy κ w = 0 ↔ κ = 0 := by unfold cTy; split <;> (try split) <;> (try split) <;> (try split) <;> (try split) <;> omega
theorem cTy_1 {κ w : Int} : cTy κ w = 1 ↔ (κ = 2 ∧ w ≠ -1) := by unfold cTy; split <;> (try split) <;> (try split) <;> (try split) <;> (try split) <;> omega
/-! the class -/
section FC2
variable {I : cI} {R : cR}
/-- the place alone is changed -/
def fP (I0 I : cI) : Prop := ∀ b x, ¬ (b = 3 ∧ x = 3) → I b x = I0 b x
theorem fP_t {I J K : cI} (h : fP I J) (g : fP J K) : fP I K := fun b x q => (g b x q).trans (h b x q)
theorem fP_k {I I' : cI} (h : cKV I k) (f : fP I I') : cKV I' k := cKV_fr h (fun b x b0 b1 => f b x (by omega))
theorem c_typeAt {i : Int} {Q : Int → cI → cR → Prop} (o : okK k) (h : cKV I k) (i0 : 0 ≤ i) (i1 : i ≤ kZ k) (hQ : Q (cTy (kK k i) (kW k i)) I R) : wX10_typeAt i I R Q := by
  have := o.2.1
  unfold wX10_typeAt
  rw [h.1, (h.2 i i0 i1).2.1]
  exact ⟨fun c => by omega, fun c => ⟨fun d => by omega, fun d => ⟨by omega, hQ⟩⟩⟩
theorem c_numAt {i : Int} {Q : Int → cI → cR → Prop} (o : okK k) (h : cKV I k) (i0 : 0 ≤ i) (i1 : i ≤ kZ k) (hQ : Q (I 7 i) I R) : wX10_numberAt i I R Q := by
  have := o.2.1
  unfold wX10_numberAt
  rw [h.1]
  exact ⟨fun c => by omega, fun c => ⟨fun d => by omega, fun d => ⟨by omega, hQ⟩⟩⟩
theorem c_startAt {i : Int} {Q : Int → cI → cR → Prop} (o : okK k) (h : cKV I k) (i0 : 0 ≤ i) (i1 : i ≤ kZ k) (hQ : Q (kS k i) I R) : wX10_startAt i I R Q := by
  have := o.2.1
  unfold wX10_startAt
  rw [h.1, (h.2 i i0 i1).1]
  exact ⟨fun c => by omega, fun c => ⟨fun d => by omega, fun d => ⟨by omega, hQ⟩⟩⟩
theorem c_passes {a κ i : Int} {n : Nat} {Q : Int → cI → cR → Prop} (o : okK k) (ha : (a = 2 ∧ κ = 3) ∨ (a = 3 ∧ κ = 1) ∨ (a = 4 ∧ κ = 4)) (h : cKV I k) (e : I 3 3 = i) (i0 : 0 ≤ i) (i1 : i ≤ kZ k)
    (hQ : ∀ I', fP I I' → I' 3 3 = (tkN k κ n i).2 → Q (tkN k κ n i).1 I' R) (hn : n ≤ 5 := by omega) : wX5_passes a n I R Q := by
  have L : ∀ (m : Nat) (x : Nat) (i : Int) (I' : cI), x ≤ n → n - x < m → fP I I' → I' 3 3 = i → 0 ≤ i → i ≤ kZ k → (∀ I'', fP I I'' → I'' 3 3 = (tkN k κ (n - x) i).2 → Q (tkN k κ (n - x) i).1 I'' R) → wX5_passes_2 Q a n m x I' R := by
    intro m
    induction m with
    | zero => intro x i I' x0 x1; omega
    | succ m ih =>
      intro x i I' x0 x1 f e i0 i1 hq
      show wbX5_passes_2 Q a n (wX5_passes_2 Q a n m) x I' R
      unfold wbX5_passes_2
      rw [e]
      refine ⟨fun c => ?_, fun c => c_typeAt o (fP_k h f) i0 i1 ⟨fun d => ?_, fun d => ?_⟩⟩
      · rw [show n - x = 0 by omega] at hq
        exact hq I' f e
      · rw [e]
        have kk : kK k i = κ := by
          rcases ha with ⟨rfl, rfl⟩ | ⟨rfl, rfl⟩ | ⟨rfl, rfl⟩
          · exact cTy_2.mp d
          · exact cTy_3.mp d
          · exact cTy_4.mp d
        have := K_lt o i0 i1 (by rw [kk]; omega)
        have := o.2.1
        refine ⟨by unfold inR; omega, fun I7 e7 => ⟨by unfold inR; omega, fun z hz => ?_⟩⟩
        have ez : z = ((x + 1 : Nat) : Int) := by omega
        rw [ez]
        refine ih (x + 1) (i + 1) I7 (by omega) (by omega) (fun b y q => by subst e7; rw [u2n q]; exact f b y q) (by subst e7; exact u2e) (by omega) (by omega) (fun I'' f2 e2 => ?_)
        have en : n - x = (n - (x + 1)) + 1 := by omega
        rw [en] at hq
        have ev : tkN k κ (n - (x + 1) + 1) i = tkN k κ (n - (x + 1)) (i + 1) := if_pos kk
        rw [ev] at hq
        exact hq I'' f2 e2
      · have kk : ¬ kK k i = κ := by
          rcases ha with ⟨rfl, rfl⟩ | ⟨rfl, rfl⟩ | ⟨rfl, rfl⟩
          · exact fun w => d (cTy_2.mpr w)
          · exact fun w => d (cTy_3.mpr w)
          · exact fun w => d (cTy_4.mpr w)
        have en : n - x = (n - (x + 1)) + 1 := by omega
        rw [en] at hq
        have ev : tkN k κ (n - (x + 1) + 1) i = (0, i) := if_neg kk
        rw [ev] at hq
        exact hq I' f e
  exact ⟨n + 1, L (n + 1) 0 i I (by omega) (by omega) (fun _ _ _ => rfl) e i0 i1 (by rw [Nat.sub_zero]; exact hQ)⟩
theorem c_passesCells {w i : Int} {Q : Int → cI → cR → Prop} (o : okK k) (h : cKV I k) (e : I 3 3 = i) (i0 : 0 ≤ i) (i1 : i ≤ kZ k) (hw0 : 0 ≤ w) (hw : w < 12)
    (hQ : ∀ I' r j, fP I I' → I' 3 3 = j → (¬ kK k i = 1 → (r, j) = ((0 : Int), i)) → (kK k i = 1 → (w = 9 → (r, j) = (1, i + 1)) ∧ (w = 3 → (r, j) = tkN k 1 1 (i + 1)) ∧ (w ≠ 9 → w ≠ 3 → (r, j) = (1, enC k (i + 1)))) → Q r I' R) : wX5_passesCells (kE w.toNat) I R Q := by
  have ek : kE w.toNat = if w = 9 then 1 else if w = 3 then 2 else 0 := by
    have := (show ∀ v : Nat, v < 12 → kE v = if (v : Int) = 9 then 1 else if (v : Int) = 3 then 2 else 0 by unfold kE; decide +kernel) w.toNat (by omega)
    rw [Int.toNat_of_nonneg hw0] at this; exact this
  have one : ∀ j, tkN k 1 1 j = if kK k j = 1 then (1, j + 1) else (0, j) := fun j => rfl
  unfold wX5_passesCells
  rw [ek]
  by_cases c9 : w = 9
  · rw [if_pos c9]
    refine ⟨fun c => absurd c (by decide), fun c => c_passes (n := 1) o (Or.inr (Or.inl ⟨rfl, rfl⟩)) h e i0 i1 (fun I' f e' => ?_)⟩
    rw [one] at e' ⊢
    by_cases k1 : kK k i = 1
    · rw [if_pos k1] at e' ⊢
      exact ⟨Or.inr rfl, hQ I' 1 (i + 1) f e' (fun n => absurd k1 n) (fun _ => ⟨fun _ => rfl, fun q => by omega, fun q => absurd c9 q⟩)⟩
    · rw [if_neg k1] at e' ⊢
      exact ⟨Or.inl rfl, hQ I' 0 i f e' (fun _ => rfl) (fun n => absurd n k1)⟩
  · rw [if_neg c9]
    by_cases c3 : w = 3
    · rw [if_pos c3]
      refine ⟨fun c => absurd c (by decide), fun c => c_passes (n := 2) o (Or.inr (Or.inl ⟨rfl, rfl⟩)) h e i0 i1 (fun I' f e' => ?_)⟩
      have two : tkN k 1 2 i = if kK k i = 1 then tkN k 1 1 (i + 1) else (0, i) := rfl
      rw [two] at e' ⊢
      by_cases k1 : kK k i = 1
      · rw [if_pos k1] at e' ⊢
        refine ⟨?_, hQ I' _ _ f e' (fun n => absurd k1 n) (fun _ => ⟨fun q => absurd q c9, fun _ => rfl, fun _ q => absurd c3 q⟩)⟩
        rw [one]; split
        · exact Or.inr rfl
        · exact Or.inl rfl
      · rw [if_neg k1] at e' ⊢
        exact ⟨Or.inl rfl, hQ I' 0 i f e' (fun _ => rfl) (fun n => absurd n k1)⟩
    · rw [if_neg c3]
      refine ⟨fun c => c_passes (n := 1) o (Or.inr (Or.inl ⟨rfl, rfl⟩)) h e i0 i1 (fun I' f e' => ?_), fun c => absurd (by decide) c⟩
      rw [one] at e' ⊢
      by_cases k1 : kK k i = 1
      · rw [if_pos k1] at e' ⊢
        have il := K_lt o i0 i1 (by rw [k1]; decide)
        refine ⟨fun _ => ⟨1602, ?_⟩, fun n => absurd n (by show ¬ (1 : Int) = 0; decide)⟩
        have N1 := o.2.1
        have L : ∀ (m : Nat) (x j : Int) (I' : cI), 0 ≤ x → x ≤ j → kZ k - j < m → fP I I' → I' 3 3 = j → i + 1 ≤ j → j ≤ kZ k → enC k j = enC k (i + 1) → wX5_passesCells_24 Q (if w = 3 then 2 else 0) m x I' R := by
          intro m
          induction m with
          | zero => intro x j I' x0 x1 x2; omega
          | succ m ih =>
            intro x j I' x0 x1 x2 f e j0 j1 he
            show wbX5_passesCells_24 Q (if w = 3 then 2 else 0) (wX5_passesCells_24 Q (if w = 3 then 2 else 0) m) x I' R
            unfold wbX5_passesCells_24
            have h' := fP_k h f
            rw [h'.1, e]
            refine ⟨fun d => by omega, fun d => c_typeAt o h' (by omega) j1 ⟨fun q => ?_, fun q => ?_⟩⟩
            · have kn : ¬ kK k j = 1 := fun w => q (cTy_3.mpr w)
              rw [enC_e kn] at he
              exact hQ I' 1 j f e (fun n => absurd k1 n) (fun _ => ⟨fun q => absurd q c9, fun q => absurd q c3, fun _ _ => by rw [he]⟩)
            · have kk := cTy_3.mp q
              have jl := K_lt o (by omega) j1 (by rw [kk]; decide)
              rw [e]
              refine ⟨by unfold inR; omega, fun I7 e7 => ⟨by unfold inR; omega, fun z hz => ?_⟩⟩
              subst hz
              rw [enC_s jl kk] at he
              exact ih (x + 1) (j + 1) I7 (by omega) (by omega) (by omega) (fun b y q => by subst e7; rw [u2n q]; exact f b y q) (by subst e7; exact u2e) (by omega) (by omega) he
        have l0 := L 1602 0 (i + 1) I' (Int.le_refl 0) (by omega) (by omega) f e' (Int.le_refl _) (by omega) rfl
        rw [if_neg c3] at l0; exact l0
      · rw [if_neg k1] at e' ⊢
        exact ⟨fun n => absurd rfl n, fun _ => hQ I' 0 i f e' (fun _ => rfl) (fun n => absurd n k1)⟩
theorem c_ruleForm {i : Int} {Q : Int → cI → cR → Prop} (o : okK k) (h : cKV I k) (e : I 3 3 = i) (i0 : 0 ≤ i) (i1 : i ≤ kZ k)
    (hQ : ∀ I', fP I I' → I' 3 3 = (rfm k i).2 → Q (rfm k i).1 I' R) : wX5_passesRule I R Q := by
  have hW := (o.2.2 i i0 i1).2.2.1
  have N1 := o.2.1
  unfold rfm at hQ
  unfold wX5_passesRule
  rw [e]
  refine c_numAt o h i0 i1 ?_
  rw [e]
  refine c_typeAt o h i0 i1 ⟨fun c => ?_, fun c => ?_⟩
  · have hn : ¬ kK k i = 2 ∨ kW k i = -1 ∨ kW k i = 14 := by
      by_cases a : kK k i = 2
      · by_cases b : kW k i = -1
        · exact Or.inr (Or.inl b)
        · exact absurd (cTy_1.mpr ⟨a, b⟩) c
      · exact Or.inl a
    rw [if_pos hn] at hQ
    exact hQ I (fun _ _ _ => rfl) e
  · have c1 := cTy_1.mp c
    have e7 := (h.2 i i0 i1).2.2.1 c1.1
    have il := K_lt o i0 i1 (by rw [c1.1]; decide)
    rw [e7, e]
    refine ⟨fun n14 => ⟨by unfold inR; omega, fun I12 e12 => ?_⟩, fun y14 => ?_⟩
    · rw [if_neg (by omega)] at hQ
      have f12 : fP I I12 := fun b x q => by subst e12; exact u2n q
      have h12 := fP_k h f12
      have p12 : I12 3 3 = i + 1 := by subst e12; exact u2e
      have nu := nu_i (w := kW k i) (by omega) (by omega)
      refine ⟨fun c => by omega, fun c => ⟨fun d => ⟨by omega, ?_⟩, fun d => ?_⟩⟩
      · rw [nu.2.2.1 d]
        have en : ((nuT (kW k i)).toNat : Int) = nuT (kW k i) := by omega
        rw [← en]
        have t := tkN_b o (κ := 3) (by decide) (nuT (kW k i)).toNat (i + 1) (by omega) (by omega)
        refine c_passes (n := (nuT (kW k i)).toNat) o (Or.inl ⟨rfl, rfl⟩) h12 p12 (by omega) (by omega) (fun I17 f17 p17 => ⟨fun r0 => ?_, fun r0 => ?_⟩)
        · unfold rfn at hQ
          rw [if_pos r0] at hQ
          have := hQ I17 (fP_t f12 f17) p17
          rw [r0] at this; exact this
        · unfold rfn at hQ
          rw [if_neg r0, if_neg (by omega)] at hQ
          generalize tkN k 3 (nuT (kW k i)).toNat (i + 1) = A at *
          refine c_passesCells o (fP_k h12 f17) p17 (by omega) t.2.1 (by omega) d (fun I22 r j f22 p22 n1 y1 => ?_)
          have f22' := fP_t f12 (fP_t f17 f22)
          by_cases k1 : kK k A.2 = 1
          · rw [if_neg (fun w => w k1)] at hQ
            have y := y1 k1
            have al := K_lt o (by omega) t.2.1 (show ¬ kK k A.2 = 0 by rw [k1]; decide)
            have zero : ∀ (I2 : cI), fP I I2 → ∀ j2, I2 3 3 = j2 → 0 ≤ j2 → j2 ≤ kZ k → (∀ I3, fP I I3 → I3 3 3 = j2 → Q 1 I3 R) → wX5_passesRule_102 Q 2 0 I2 R := fun I2 f2 j2 p2 j20 j21 hq => c_passes (n := 0) o (Or.inl ⟨rfl, rfl⟩) (fP_k h f2) p2 j20 j21 (fun I3 f3 p3 => ⟨fun n => absurd n (by show ¬ (1 : Int) = 0; decide), fun _ => hq I3 (fP_t f2 f3) p3⟩)
            by_cases c9 : kW k i = 9
            · rw [if_pos c9] at hQ
              have yy := y.1 c9
              have er : r = 1 := congrArg Prod.fst yy
              have ej : j = A.2 + 1 := congrArg Prod.snd yy
              subst er; subst ej
              refine ⟨fun n => absurd n (by decide), fun _ => ⟨fun n => absurd (by omega) n, fun _ => c_passes (n := 1) o (Or.inl ⟨rfl, rfl⟩) (fP_k h f22') p22 (by omega) (by omega) (fun I3 f3 p3 => ?_)⟩⟩
              have one : tkN k 3 1 (A.2 + 1) = if kK k (A.2 + 1) = 3 then (1, A.2 + 1 + 1) else (0, A.2 + 1) := rfl
              have hq := hQ I3 (fP_t f22' f3) p3
              rw [one] at hq ⊢
              by_cases k3 : kK k (A.2 + 1) = 3
              · rw [if_pos k3] at hq ⊢; exact ⟨fun n => absurd n (by show ¬ (1 : Int) = 0; decide), fun _ => hq⟩
              · rw [if_neg k3] at hq ⊢; exact ⟨fun _ => hq, fun n => absurd rfl n⟩
            · rw [if_neg c9] at hQ
              have n9 : ¬ (kW k i).toNat = 9 := by omega
              by_cases c3 : kW k i = 3
              · rw [if_pos c3] at hQ
                have yy := y.2.1 c3
                have one : tkN k 1 1 (A.2 + 1) = if kK k (A.2 + 1) = 1 then (1, A.2 + 1 + 1) else (0, A.2 + 1) := rfl
                rw [one] at yy hQ
                by_cases k3 : kK k (A.2 + 1) = 1
                · rw [if_pos k3] at yy hQ
                  have er : r = 1 := congrArg Prod.fst yy
                  have ej : j = A.2 + 1 + 1 := congrArg Prod.snd yy
                  subst er; subst ej
                  have l2 := K_lt o (by omega) (by omega) (show ¬ kK k (A.2 + 1) = 0 by rw [k3]; decide)
                  exact ⟨fun n => absurd n (by decide), fun _ => ⟨fun _ => zero I22 f22' _ p22 (by omega) (by omega) hQ, fun n => absurd n n9⟩⟩
                · rw [if_neg k3] at yy hQ
                  have er : r = 0 := congrArg Prod.fst yy
                  have ej : j = A.2 + 1 := congrArg Prod.snd yy
                  subst er; subst ej
                  exact ⟨fun _ => hQ I22 f22' p22, fun n => absurd rfl n⟩
              · rw [if_neg c3] at hQ
                have yy := y.2.2 c9 c3
                have er : r = 1 := congrArg Prod.fst yy
                have ej : j = enC k (A.2 + 1) := congrArg Prod.snd yy
                subst er; subst ej
                have eb := enC_b o (i := A.2 + 1) (by omega) (by omega)
                exact ⟨fun n => absurd n (by decide), fun _ => ⟨fun _ => zero I22 f22' _ p22 (by omega) eb.2.1 hQ, fun n => absurd n n9⟩⟩
          · rw [if_pos k1] at hQ
            have yy := n1 k1
            have er : r = 0 := congrArg Prod.fst yy
            have ej : j = A.2 := congrArg Prod.snd yy
            subst er; subst ej
            exact ⟨fun _ => hQ I22 f22' p22, fun n => absurd rfl n⟩
      · have z : nuT (kW k i) = 0 := nu.2.2.2.1 (by omega)
        rw [z] at hQ
        have e0 : tkN k 3 (0 : Int).toNat (i + 1) = (1, i + 1) := rfl
        rw [e0] at hQ
        unfold rfn at hQ
        rw [if_neg (by show ¬ (1 : Int) = 0; decide), if_pos (by omega)] at hQ
        exact hQ I12 f12 p12
    · rw [if_pos (Or.inr (Or.inr y14))] at hQ
      exact hQ I (fun _ _ _ => rfl) e
theorem fml_b (o : okK k) : ∀ (m : Nat) (i : Int), 0 ≤ i → i ≤ kZ k → i ≤ (fml k m i).2 ∧ (fml k m i).2 ≤ kZ k := by
  intro m
  induction m with
  | zero => intro i i0 i1; exact ⟨Int.le_refl i, i1⟩
  | succ m ih =>
    intro i i0 i1
    have r := rfm_b o i0 i1
    by_cases c0 : kK k i = 0
    · have e : fml k (m + 1) i = (1, i) := if_pos c0
      rw [e]; exact ⟨Int.le_refl i, i1⟩
    · by_cases c1 : (rfm k i).1 = 0
      · have e : fml k (m + 1) i = rfm k i := (if_neg c0).trans (if_pos c1)
        rw [e]; exact ⟨r.1, r.2.1⟩
      · by_cases c4 : kK k (rfm k i).2 = 4
        · have e : fml k (m + 1) i = fml k m ((rfm k i).2 + 1) := (if_neg c0).trans ((if_neg c1).trans (if_pos c4))
          have l := K_lt o (by omega) r.2.1 (show ¬ kK k (rfm k i).2 = 0 by rw [c4]; decide)
          have := ih ((rfm k i).2 + 1) (by omega) (by omega)
          rw [e]; omega
        · have e : fml k (m + 1) i = (0, (rfm k i).2) := (if_neg c0).trans ((if_neg c1).trans (if_neg c4))
          rw [e]; exact ⟨r.1, r.2.1⟩
theorem one4 {κ j : Int} : tkN k κ 1 j = if kK k j = κ then (1, j + 1) else (0, j) := rfl
theorem c_form {Q : Int → cI → cR → Prop} (o : okK k) (h : cKV I k) (hQ : ∀ I', fP I I' → I' 3 3 = (fm k).2 → Q (fm k).1 I' R) : wX5_hasForm I R Q := by
  have N0 := o.1
  have N1 := o.2.1
  unfold wX5_hasForm
  intro I1 e1
  have f1 : fP I I1 := fun b x q => by subst e1; exact u2n q
  have p1 : I1 3 3 = 0 := by subst e1; exact u2e
  have h1 := fP_k h f1
  rw [p1]
  unfold fm at hQ
  have L : ∀ (m : Nat) (x i : Int) (I' : cI), 0 ≤ x → x ≤ i → kZ k - i < m → fP I I' → I' 3 3 = i → 0 ≤ i → i ≤ kZ k → (∀ I'', fP I I'' → I'' 3 3 = (fml k m i).2 → Q (fml k m i).1 I'' R) → wX5_hasForm_54 Q m x I' R := by
    intro m
    induction m with
    | zero => intro x i I' x0 x1 x2; omega
    | succ m ih =>
      intro x i I' x0 x1 x2 f e i0 i1 hq
      show wbX5_hasForm_54 Q (wX5_hasForm_54 Q m) x I' R
      unfold wbX5_hasForm_54
      have h' := fP_k h f
      rw [h'.1, e]
      have r := rfm_b o i0 i1
      refine ⟨fun d => by omega, fun d => c_typeAt o h' i0 i1 ⟨fun q => ?_, fun q => ?_⟩⟩
      · have e0 : fml k (m + 1) i = (1, i) := if_pos (cTy_0.mp q)
        rw [e0] at hq; exact hq I' f e
      · have c0 : ¬ kK k i = 0 := fun w => q (cTy_0.mpr w)
        refine c_ruleForm o h' e i0 i1 (fun I7 f7 p7 => ⟨fun c1 => ?_, fun c1 => c_passes (n := 1) o (Or.inr (Or.inr ⟨rfl, rfl⟩)) (fP_k h' f7) p7 (by omega) r.2.1 (fun I12 f12 p12 => ?_)⟩)
        · have e0 : fml k (m + 1) i = rfm k i := (if_neg c0).trans (if_pos c1)
          rw [e0] at hq
          have := hq I7 (fP_t f f7) p7
          rw [c1] at this; exact this
        · have f12' := fP_t f (fP_t f7 f12)
          rw [one4] at p12 ⊢
          by_cases c4 : kK k (rfm k i).2 = 4
          · rw [if_pos c4] at p12 ⊢
            have e0 : fml k (m + 1) i = fml k m ((rfm k i).2 + 1) := (if_neg c0).trans ((if_neg c1).trans (if_pos c4))
            have l := K_lt o (by omega) r.2.1 (show ¬ kK k (rfm k i).2 = 0 by rw [c4]; decide)
            rw [e0] at hq
            refine ⟨fun _ => ⟨by unfold inR; omega, fun z hz => ?_⟩, fun n => absurd n (by show ¬ (1 : Int) = 0; decide)⟩
            subst hz
            exact ih (x + 1) ((rfm k i).2 + 1) I12 (by omega) (by omega) (by omega) f12' p12 (by omega) (by omega) hq
          · rw [if_neg c4] at p12 ⊢
            have e0 : fml k (m + 1) i = (0, (rfm k i).2) := (if_neg c0).trans ((if_neg c1).trans (if_neg c4))
            rw [e0] at hq
            exact ⟨fun n => absurd rfl n, fun _ => hq I12 f12' p12⟩
  refine c_numAt o h1 (Int.le_refl 0) N0 ⟨fun c => ?_, fun c => ?_⟩
  · have hn : ¬ (kK k 0 = 2 ∧ kW k 0 = 14) := fun w => c (by rw [(h1.2 0 (Int.le_refl 0) N0).2.2.1 w.1]; exact w.2)
    rw [if_pos hn] at hQ
    exact hQ I1 f1 p1
  · -- a word, or something else whose number happens to be that of grid
    have P1 : ∀ Q' : Int → cI → cR → Prop, (kK k 0 = 2 ∧ kW k 0 = 14 → ∀ I', fP I I' → I' 3 3 = 1 → Q' 1 I' R) → (¬ (kK k 0 = 2 ∧ kW k 0 = 14) → Q' 0 I1 R) → wX5_passes 1 1 I1 R Q' := fun Q' q1 q0 => ⟨2, by
      show wbX5_passes_2 Q' 1 1 (wX5_passes_2 Q' 1 1 1) 0 I1 R
      unfold wbX5_passes_2
      rw [p1]
      refine ⟨fun d => absurd d (by decide), fun d => c_typeAt o h1 (Int.le_refl 0) N0 ⟨fun t => ?_, fun t => ?_⟩⟩
      · have t1 := cTy_1.mp t
        have w14 : kW k 0 = 14 := by rw [← (h1.2 0 (Int.le_refl 0) N0).2.2.1 t1.1]; exact c
        rw [p1]
        refine ⟨by unfold inR; omega, fun I7 e7 => ⟨by unfold inR; omega, fun z hz => ?_⟩⟩
        subst hz
        show wbX5_passes_2 Q' 1 1 (wX5_passes_2 Q' 1 1 0) (0 + 1) I7 R
        unfold wbX5_passes_2
        refine ⟨fun _ => q1 ⟨t1.1, w14⟩ I7 (fun b x q => by subst e7; rw [u2n q]; exact f1 b x q) (by subst e7; exact u2e), fun n => absurd (by decide) n⟩
      · refine q0 (fun w => t (cTy_1.mpr ⟨w.1, by rw [w.2]; decide⟩))⟩
    refine P1 _ (fun w I10 f10 p10 => ⟨fun _ => ?_, fun n => absurd n (by decide)⟩) (fun w => ⟨fun n => absurd rfl n, fun _ => ?_⟩)
    · rw [if_neg (fun n => n w)] at hQ
      have z1 := K_lt o (Int.le_refl 0) N0 (show ¬ kK k 0 = 0 by rw [w.1]; decide)
      have t := tkN_b o (κ := 3) (by decide) 3 1 (by decide) (by omega)
      refine c_passes (n := 3) o (Or.inl ⟨rfl, rfl⟩) (fP_k h f10) p10 (by decide) (by omega) (fun I15 f15 p15 => ⟨fun r0 => ?_, fun r0 => c_passes (n := 1) o (Or.inr (Or.inr ⟨rfl, rfl⟩)) (fP_k h (fP_t f10 f15)) p15 (by omega) t.2.1 (fun I20 f20 p20 => ?_)⟩)
      · rw [if_pos r0] at hQ
        have := hQ I15 (fP_t f10 f15) p15
        rw [r0] at this; exact this
      · rw [if_neg r0] at hQ
        have f20' := fP_t f10 (fP_t f15 f20)
        rw [one4] at p20 ⊢
        by_cases c4 : kK k (tkN k 3 3 1).2 = 4
        · rw [if_pos c4] at p20 ⊢
          rw [if_neg (fun n => n c4)] at hQ
          have l := K_lt o (by omega) t.2.1 (show ¬ kK k (tkN k 3 3 1).2 = 0 by rw [c4]; decide)
          exact ⟨fun _ => ⟨(kZ k + 1).toNat, L (kZ k + 1).toNat 0 _ I20 (Int.le_refl 0) (by omega) (by omega) f20' p20 (by omega) (by omega) hQ⟩, fun n => absurd n (by show ¬ (1 : Int) = 0; decide)⟩
        · rw [if_neg c4] at p20 ⊢
          rw [if_pos c4] at hQ
          exact ⟨fun n => absurd rfl n, fun _ => hQ I20 f20' p20⟩
    · rw [if_pos w] at hQ
      exact hQ I1 f1 p1
end FC2
end FO
