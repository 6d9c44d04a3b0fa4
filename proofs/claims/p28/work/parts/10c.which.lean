/-! ===== which solutions those are ===== -/
theorem mem_aL {bad : (Int → Int) → Prop} {val : Int → Int} {c : Int} {rc : (Int → Int) → List (Int → Int)} {x v : Int → Int} : ∀ (k : Nat) (t : Int), x ∈ aL bad val c rc k t v ↔ ∃ j, t ≤ j ∧ j < t + k ∧ ¬ bad (upF v c (val j)) ∧ x ∈ rc (upF v c (val j)) := by
  intro k
  induction k with
  | zero => intro t; exact ⟨fun h => (List.not_mem_nil h).elim, fun ⟨j, h1, h2, _⟩ => by omega⟩
  | succ k ih =>
    intro t
    by_cases hb : bad (upF v c (val t))
    · rw [aL_b hb, ih (t + 1)]
      constructor
      · rintro ⟨j, h1, h2, h3, h4⟩
        exact ⟨j, by omega, by omega, h3, h4⟩
      · rintro ⟨j, h1, h2, h3, h4⟩
        by_cases e : j = t
        · subst e; exact absurd hb h3
        · exact ⟨j, by omega, by omega, h3, h4⟩
    · rw [aL_g hb, List.mem_append, ih (t + 1)]
      constructor
      · rintro (h | ⟨j, h1, h2, h3, h4⟩)
        · exact ⟨t, Int.le_refl t, by omega, hb, h⟩
        · exact ⟨j, by omega, by omega, h3, h4⟩
      · rintro ⟨j, h1, h2, h3, h4⟩
        by_cases e : j = t
        · subst e; exact Or.inl h4
        · exact Or.inr ⟨j, by omega, by omega, h3, h4⟩
theorem mem_aS {P : sP} (hP : goP P) {x : Int → Int} : ∀ (d : Nat) (c : Int) (v : Int → Int), x ∈ aS P d c v ↔ (∀ y, (y < c ∨ c + d ≤ y) → x y = v y) ∧ ∀ y, c ≤ y → y < c + d → (∃ j, 0 ≤ j ∧ j < chs P y ∧ x y = vls P y j) ∧ ¬ P.2.2.2.2 y (fun z => if z ≤ y then x z else v z) := by
  intro d
  induction d with
  | zero =>
    intro c v
    show x ∈ [v] ↔ _
    rw [List.mem_singleton]
    constructor
    · rintro rfl
      exact ⟨fun _ _ => rfl, fun y h1 h2 => by omega⟩
    · intro h
      funext y
      exact h.1 y (by omega)
  | succ d ih =>
    intro c v
    have hc := chs_b hP c
    show x ∈ aL _ _ _ _ _ _ _ ↔ _
    rw [mem_aL]
    constructor
    · rintro ⟨j, j0, j1, nb, hm⟩
      obtain ⟨A, B⟩ := (ih (c + 1) _).mp hm
      have ec : x c = vls P c j := by rw [A c (by omega), uFe]
      refine ⟨fun y hy => ?_, fun y y0 y1 => ?_⟩
      · rw [A y (by omega), uFn (by omega)]
      · by_cases e : y = c
        · subst e
          refine ⟨⟨j, j0, by omega, ec⟩, ?_⟩
          have ef : (fun z => if z ≤ y then x z else v z) = upF v y (vls P y j) := by
            funext z
            by_cases q : z ≤ y
            · rw [if_pos q, A z (by omega)]
            · rw [if_neg q, uFn (by omega)]
          rw [ef]
          exact nb
        · obtain ⟨b1, b2⟩ := B y (by omega) (by omega)
          refine ⟨b1, ?_⟩
          have ef : (fun z => if z ≤ y then x z else v z) = (fun z => if z ≤ y then x z else upF v c (vls P c j) z) := by
            funext z
            by_cases q : z ≤ y
            · rw [if_pos q, if_pos q]
            · rw [if_neg q, if_neg q, uFn (by omega)]
          rw [ef]
          exact b2
    · rintro ⟨A, B⟩
      obtain ⟨⟨j, j0, j1, ec⟩, nb⟩ := B c (Int.le_refl c) (by omega)
      have ef : (fun z => if z ≤ c then x z else v z) = upF v c (vls P c j) := by
        funext z
        by_cases q : z ≤ c
        · rw [if_pos q]
          by_cases q2 : z = c
          · subst q2; rw [uFe, ec]
          · rw [uFn q2, A z (by omega)]
        · rw [if_neg q, uFn (by omega)]
      rw [ef] at nb
      refine ⟨j, j0, by omega, nb, (ih (c + 1) _).mpr ⟨fun y hy => ?_, fun y y0 y1 => ?_⟩⟩
      · by_cases q2 : y = c
        · subst q2; rw [uFe, ec]
        · rw [uFn q2, A y (by omega)]
      · obtain ⟨b1, b2⟩ := B y (by omega) (by omega)
        refine ⟨b1, ?_⟩
        have ef2 : (fun z => if z ≤ y then x z else upF v c (vls P c j) z) = (fun z => if z ≤ y then x z else v z) := by
          funext z
          by_cases q : z ≤ y
          · rw [if_pos q, if_pos q]
          · rw [if_neg q, if_neg q, uFn (by omega)]
        rw [ef2]
        exact b2
/-- a solution on four cells -/
def SL (h n wo : Int) (ρ : Int → Int → Int) (on x : Int → Int) : Prop := (∀ c, (c < 0 ∨ 4 ≤ c) → x c = 0) ∧ (∀ c, 0 ≤ c → c < 4 → 1 ≤ x c ∧ x c ≤ h ∧ (on c ≠ 0 → x c = on c)) ∧ ∀ i, 0 ≤ i → i < n → i ≠ wo → ¬ br (ρ i) h x
theorem maxc {ρ : Int → Int} : ∀ m : Nat, 1 ≤ m → ∃ k : Int, 0 ≤ k ∧ k < m ∧ ∀ j, 0 ≤ j → j < (m : Int) → ρ (4 + j) ≤ ρ (4 + k) := by
  intro m
  induction m with
  | zero => intro h; omega
  | succ m ih =>
    intro _
    by_cases h1 : 1 ≤ m
    · obtain ⟨k, k0, k1, hk⟩ := ih h1
      by_cases q : ρ (4 + k) ≤ ρ (4 + (m : Int))
      · refine ⟨m, by omega, by omega, fun j j0 j1 => ?_⟩
        by_cases e : j = m
        · subst e; exact Int.le_refl _
        · exact Int.le_trans (hk j j0 (by omega)) q
      · refine ⟨k, k0, by omega, fun j j0 j1 => ?_⟩
        by_cases e : j = m
        · subst e; omega
        · exact hk j j0 (by omega)
    · refine ⟨0, by decide, by omega, fun j j0 j1 => ?_⟩
      rw [show j = 0 by omega]
      exact Int.le_refl _
theorem mem_SL {most h n wo : Int} {ρ : Int → Int → Int} {on fi x : Int → Int} (hP : goP (sPr most h n wo ρ on fi)) (g : gp 4 n ρ) (g1 : ∀ i, 0 ≤ i → i < n → 1 ≤ ρ i 3) (hx : x ∈ aS (sPr most h n wo ρ on fi) 4 0 (fun _ => 0)) : SL h n wo ρ on x := by
  obtain ⟨A, B⟩ := (mem_aS hP 4 0 _).mp hx
  refine ⟨fun c hc => A c (by omega), fun c c0 c1 => ?_, fun i i0 i1 hw hb => ?_⟩
  · obtain ⟨⟨j, j0, j1, e⟩, -⟩ := B c c0 (by omega)
    have hv := vls_b hP c0 (by omega) j0 j1
    rw [← e] at hv
    refine ⟨hv.1, hv.2, fun q => ?_⟩
    rw [e]
    exact if_neg q
  · have gi := g i i0 i1
    have s1 := g1 i i0 i1
    obtain ⟨k, k0, k1, hk⟩ := maxc (ρ := ρ i) (ρ i 3).toNat (by omega)
    have ck := gi.2.2.2.2.2.2.2.2.2.2.2.1 k k0 (by omega)
    obtain ⟨-, nb⟩ := B (ρ i (4 + k)) ck.1 (by omega)
    refine nb ⟨i, i0, i1, hw, ⟨k, k0, by omega, rfl⟩, (br_cl (fun j j0 j1 => ?_)).mpr hb⟩
    show (if ρ i (4 + j) ≤ ρ i (4 + k) then x (ρ i (4 + j)) else 0) = _
    rw [if_pos (hk j j0 (by omega))]
theorem SL_mem {most h n wo : Int} {ρ : Int → Int → Int} {on x : Int → Int} (hP : goP (sPr most h n wo ρ on (fun _ => 1))) (g : gp 4 n ρ) (hx : SL h n wo ρ on x) : x ∈ aS (sPr most h n wo ρ on (fun _ => 1)) 4 0 (fun _ => 0) := by
  refine (mem_aS hP 4 0 _).mpr ⟨fun y hy => hx.1 y (by omega), fun y y0 y1 => ⟨?_, ?_⟩⟩
  · have q := hx.2.1 y y0 (by omega)
    by_cases e : on y = 0
    · refine ⟨x y - 1, by omega, ?_, ?_⟩
      · show x y - 1 < if on y = 0 then h else 1
        rw [if_pos e]; omega
      · show x y = if on y = 0 then (if 1 + (x y - 1) ≤ h then 1 + (x y - 1) else 1 + (x y - 1) - h) else on y
        rw [if_pos e, if_pos (by omega)]; omega
    · refine ⟨0, by decide, ?_, ?_⟩
      · show 0 < if on y = 0 then h else 1
        rw [if_neg e]; decide
      · show x y = if on y = 0 then _ else on y
        rw [if_neg e]
        exact q.2.2 e
  · rintro ⟨i, i0, i1, hw, -, hb⟩
    refine hx.2.2 i i0 i1 hw (br_mono (g i i0 i1) (fun c c0 c1 q => ?_) (fun c c0 c1 => ⟨(hx.2.1 c c0 c1).1, (hx.2.1 c c0 c1).2.1⟩) hb)
    by_cases e : c ≤ y
    · rw [if_pos e]
    · rw [if_neg e] at q
      exact absurd rfl q
/-- in ascending order -/
def lx (x y : Int → Int) : Prop := ∃ c, 0 ≤ c ∧ c < 4 ∧ (∀ b, b < c → x b = y b) ∧ x c < y c
theorem vls_lt {most h n wo : Int} {ρ : Int → Int → Int} {on : Int → Int} {c t j : Int} (t0 : 0 ≤ t) (tj : t < j) (hj : j < chs (sPr most h n wo ρ on (fun _ => 1)) c) : vls (sPr most h n wo ρ on (fun _ => 1)) c t < vls (sPr most h n wo ρ on (fun _ => 1)) c j := by
  have hj' : j < if on c = 0 then h else 1 := hj
  show (if on c = 0 then (if 1 + t ≤ h then 1 + t else 1 + t - h) else on c) < (if on c = 0 then (if 1 + j ≤ h then 1 + j else 1 + j - h) else on c)
  by_cases e : on c = 0
  · rw [if_pos e] at hj'
    rw [if_pos e, if_pos e, if_pos (by omega), if_pos (by omega)]
    omega
  · rw [if_neg e] at hj'
    omega
theorem aS_pw {most h n wo : Int} {ρ : Int → Int → Int} {on : Int → Int} (hP : goP (sPr most h n wo ρ on (fun _ => 1))) : ∀ (d : Nat) (c : Int) (v : Int → Int), 0 ≤ c → c + d ≤ 4 → (aS (sPr most h n wo ρ on (fun _ => 1)) d c v).Pairwise lx := by
  intro d
  induction d with
  | zero => intro c v _ _; exact List.pairwise_singleton _ _
  | succ d ih =>
    intro c v c0 c1
    generalize hQ : sPr most h n wo ρ on (fun _ => 1) = P at *
    have go : ∀ (k : Nat) (t : Int), 0 ≤ t → t + k ≤ chs P c → (aL (P.2.2.2.2 c) (vls P c) c (aS P d (c + 1)) k t v).Pairwise lx := by
      intro k
      induction k with
      | zero => intro t _ _; exact List.Pairwise.nil
      | succ k ik =>
        intro t t0 t1
        by_cases hb : P.2.2.2.2 c (upF v c (vls P c t))
        · rw [aL_b hb]
          exact ik (t + 1) (by omega) (by omega)
        · rw [aL_g hb, List.pairwise_append]
          refine ⟨ih (c + 1) _ (by omega) (by omega), ik (t + 1) (by omega) (by omega), fun x hx y hy => ?_⟩
          obtain ⟨A, -⟩ := (mem_aS hP d (c + 1) _).mp hx
          obtain ⟨j, j0, j1, -, hy2⟩ := (mem_aL _ _).mp hy
          obtain ⟨A2, -⟩ := (mem_aS hP d (c + 1) _).mp hy2
          refine ⟨c, c0, by omega, fun b hb => ?_, ?_⟩
          · rw [A b (by omega), A2 b (by omega), uFn (by omega), uFn (by omega)]
          · rw [A c (by omega), A2 c (by omega), uFe, uFe]
            subst hQ
            exact vls_lt t0 (by omega) (by omega)
    have hc := chs_b hP c
    exact go (chs P c).toNat 0 (Int.le_refl 0) (by omega)
theorem one_of {L : List (Int → Int)} {x : Int → Int} (pw : L.Pairwise lx) (hx : x ∈ L) (hu : ∀ y ∈ L, y = x) : L = [x] := by
  match L, pw, hx, hu with
  | [], _, hx, _ => exact (List.not_mem_nil hx).elim
  | [a], _, _, hu => rw [hu a List.mem_cons_self]
  | a :: b :: M, pw, _, hu =>
    have h1 := (List.pairwise_cons.mp pw).1 b List.mem_cons_self
    rw [hu a List.mem_cons_self, hu b (List.mem_cons_of_mem _ List.mem_cons_self)] at h1
    obtain ⟨c, -, -, -, q⟩ := h1
    omega
theorem aS_len {P P' : sP} (hc : ∀ c, chs P' c = chs P c) (hv : ∀ c, vls P' c = vls P c) (hb : ∀ c v, P'.2.2.2.2 c v → P.2.2.2.2 c v) : ∀ (d : Nat) (c : Int) (v : Int → Int), (aS P d c v).length ≤ (aS P' d c v).length := by
  intro d
  induction d with
  | zero => intro c v; exact Nat.le_refl _
  | succ d ih =>
    intro c v
    have go : ∀ (k : Nat) (t : Int), (aL (P.2.2.2.2 c) (vls P c) c (aS P d (c + 1)) k t v).length ≤ (aL (P'.2.2.2.2 c) (vls P c) c (aS P' d (c + 1)) k t v).length := by
      intro k
      induction k with
      | zero => intro t; exact Nat.le_refl _
      | succ k ik =>
        intro t
        have h1 := ik (t + 1)
        by_cases q : P.2.2.2.2 c (upF v c (vls P c t))
        · rw [aL_b q]
          by_cases q2 : P'.2.2.2.2 c (upF v c (vls P c t))
          · rw [aL_b q2]; exact h1
          · rw [aL_g q2, List.length_append]; omega
        · have q2 : ¬ P'.2.2.2.2 c (upF v c (vls P c t)) := fun z => q (hb c _ z)
          have h2 := ih (c + 1) (upF v c (vls P c t))
          rw [aL_g q, aL_g q2, List.length_append, List.length_append]
          omega
    show (aL _ _ _ _ _ _ _).length ≤ (aL _ (vls P' c) _ _ (chs P' c).toNat _ _).length
    rw [hc, hv]
    exact go _ _
