/-! ===== write ===== -/
abbrev pT : Type := Int × (Int → Int)
def ad (b : Int) (s : pT) : pT := (s.1 + 1, upF s.2 s.1 b)
def adW (i : Nat) (s : pT) : pT := itF (fun x s => ad (txC i x) s) (txN i).toNat 0 s
def adU (u v : Int) (s : pT) : pT := if u ≤ v ∨ u = 1 then ad (48 + v / u % 10) s else s
def adN (v : Int) (s : pT) : pT := adU 1 v (adU 10 v (adU 100 v (adU 1000 v s)))
def adX (v : Int) (s : pT) : pT := adN v (ad 32 s)
def adC (a w : Int) (s : pT) : pT := ad (49 + a / w) (ad (97 + a % w) (ad 32 s))
def adM (ρ : Int → Int) (s : pT) : pT := if kA (ρ 0).toNat ≤ 1 then (if kA (ρ 0).toNat ≤ 0 then s else adX (ρ 1) s) else adX (ρ 2) (if kA (ρ 0).toNat ≤ 0 then s else adX (ρ 1) s)
def adR (ρ : Int → Int) (w : Int) (s : pT) : pT :=
  if ρ 0 = 9 then adX (ρ 1) (itF (fun i s => adC (ρ (4 + i)) w s) (ρ 3).toNat 0 (adM ρ (adW (ρ 0).toNat s))) else itF (fun i s => adC (ρ (4 + i)) w s) (ρ 3).toNat 0 (adM ρ (adW (ρ 0).toNat s))
def adS (ρ : Int → Int → Int) (w : Int) (n : Nat) (x : Int) (s : pT) : pT := itF (fun i s => ad 59 (adR (ρ i) w s)) n x s
def adH (w h k : Int) : pT := ad 59 (adX k (adX h (adX w (adW 14 (0, fun _ => 0)))))
theorem ad_l {b : Int} {s : pT} : (ad b s).1 = s.1 + 1 := rfl
theorem adU_l {u v : Int} {s : pT} : s.1 ≤ (adU u v s).1 ∧ (adU u v s).1 ≤ s.1 + 1 := by
  unfold adU
  split
  · rw [ad_l]; omega
  · omega
theorem adU_0 {u v : Int} {s : pT} (h : ¬ u ≤ v) (h1 : ¬ u = 1) : adU u v s = s := if_neg (by omega)
theorem adU_1 {u v : Int} {s : pT} (h : u ≤ v ∨ u = 1) : adU u v s = ad (48 + v / u % 10) s := if_pos h
theorem adN_l {v : Int} {s : pT} : s.1 ≤ (adN v s).1 ∧ (adN v s).1 ≤ s.1 + 4 := by
  have h1 := adU_l (u := 1000) (v := v) (s := s)
  have h2 := adU_l (u := 100) (v := v) (s := adU 1000 v s)
  have h3 := adU_l (u := 10) (v := v) (s := adU 100 v (adU 1000 v s))
  have h4 := adU_l (u := 1) (v := v) (s := adU 10 v (adU 100 v (adU 1000 v s)))
  unfold adN
  omega
theorem adN_1 {v : Int} {s : pT} (h : v ≤ 9) : adN v s = ad (48 + v % 10) s := by
  unfold adN
  rw [adU_0 (u := 1000) (by omega) (by decide), adU_0 (u := 100) (by omega) (by decide), adU_0 (u := 10) (by omega) (by decide), adU_1 (Or.inr rfl), Int.ediv_one]
theorem adN_s {v : Int} {s : pT} (h : 10 ≤ v) (h2 : v ≤ 9999) : adN v s = ad (48 + v % 10) (adN (v / 10) s) := by
  have key : ∀ (u t : Int) (s : pT), (u ≤ v / 10 ∨ u = 1 ↔ t ≤ v ∨ t = 1) → v / 10 / u % 10 = v / t % 10 → adU u (v / 10) s = adU t v s := fun u t s e1 e2 => by
    unfold adU
    by_cases c : t ≤ v ∨ t = 1
    · rw [if_pos c, if_pos (e1.mpr c), e2]
    · rw [if_neg c, if_neg (fun w => c (e1.mp w))]
  unfold adN
  rw [adU_1 (u := 1) (v := v) (Or.inr rfl), Int.ediv_one, adU_0 (u := 1000) (v := v / 10) (by omega) (by decide), key 100 1000 s (by omega) (by omega), key 10 100 _ (by omega) (by omega), key 1 10 _ (by omega) (by omega)]
theorem adX_l {v : Int} {s : pT} : s.1 ≤ (adX v s).1 ∧ (adX v s).1 ≤ s.1 + 5 := by
  have h := adN_l (v := v) (s := ad 32 s)
  rw [ad_l] at h
  unfold adX
  omega
theorem adX_1 {v : Int} {s : pT} (h : v ≤ 9) : (adX v s).1 = s.1 + 2 := by
  unfold adX
  rw [adN_1 h, ad_l, ad_l]; omega
theorem itF_l {f : Int → pT → pT} {d : Int} (hf : ∀ x s, (f x s).1 = s.1 + d) : ∀ (n : Nat) (x : Int) (s : pT), (itF f n x s).1 = s.1 + d * n := by
  intro n
  induction n with
  | zero => intro x s; show s.1 = s.1 + d * ((0 : Nat) : Int); simp
  | succ n ih =>
    intro x s
    show (itF f n (x + 1) (f x s)).1 = _
    rw [ih, hf]
    rw [show ((n + 1 : Nat) : Int) = (n : Int) + 1 by omega, Int.mul_add]
    omega
theorem txN_b : ∀ i : Nat, i < 15 → 0 ≤ txN i ∧ txN i ≤ 7 := by unfold txN; decide +kernel
theorem adW_l {i : Nat} {s : pT} (h : i < 15) : (adW i s).1 = s.1 + txN i := by
  have hb := txN_b i h
  unfold adW
  rw [itF_l (d := 1) (fun x s => ad_l)]
  omega
theorem adC_l {a w : Int} {s : pT} : (adC a w s).1 = s.1 + 3 := by
  unfold adC
  rw [ad_l, ad_l, ad_l]; omega
theorem kind_b : ∀ κ : Nat, κ < 12 → txN κ + (if kA κ ≤ 0 then 0 else 5) + (if kA κ ≤ 1 then 0 else 2) ≤ 12 ∧ nuT (κ : Int) = kA κ ∧ (κ = 9 → txN κ = 2 ∧ kA κ = 0) := by unfold txN nuT kA; decide +kernel
theorem adM_l {m : Int} {ρ : Int → Int} {s : pT} (g : gr m ρ) : s.1 ≤ (adM ρ s).1 ∧ (adM ρ s).1 ≤ s.1 + (if kA (ρ 0).toNat ≤ 0 then 0 else 5) + (if kA (ρ 0).toNat ≤ 1 then 0 else 2) ∧ (ρ 0 = 9 → (adM ρ s).1 = s.1) := by
  have hk := kind_b (ρ 0).toNat (by have := g.1; have := g.2.1; omega)
  have h2 : ρ 2 ≤ 9 := g.2.2.2.2.2.1
  have h9 : ρ 0 = 9 → kA (ρ 0).toNat = 0 := fun e => (hk.2.2 (by omega)).2
  have k1 := adX_l (v := ρ 1) (s := s)
  unfold adM
  by_cases c0 : kA (ρ 0).toNat ≤ 0
  · simp only [if_pos c0, if_pos (show kA (ρ 0).toNat ≤ 1 by omega)]
    refine ⟨by omega, by omega, fun _ => trivial⟩
  · by_cases c1 : kA (ρ 0).toNat ≤ 1
    · simp only [if_neg c0, if_pos c1]
      refine ⟨by omega, by omega, fun e => absurd (h9 e) (by omega)⟩
    · simp only [if_neg c0, if_neg c1]
      rw [adX_1 h2]
      refine ⟨by omega, by omega, fun e => absurd (h9 e) (by omega)⟩
theorem adR_l {m w : Int} {ρ : Int → Int} {s : pT} (g : gr m ρ) : s.1 ≤ (adR ρ w s).1 ∧ (adR ρ w s).1 ≤ s.1 + 28 := by
  have g0 := g.1
  have g1 := g.2.1
  have hk := kind_b (ρ 0).toNat (by omega)
  have hM := adM_l (s := adW (ρ 0).toNat s) g
  rw [adW_l (by omega)] at hM
  have ht := txN_b (ρ 0).toNat (by omega)
  have n0 := g.2.2.2.2.2.2.1
  have n5 := g.2.2.2.2.2.2.2.1
  have hI := itF_l (f := fun i s => adC (ρ (4 + i)) w s) (d := 3) (fun x s => adC_l) (ρ 3).toNat 0 (adM ρ (adW (ρ 0).toNat s))
  unfold adR
  by_cases c : ρ 0 = 9
  · rw [if_pos c]
    have h1 := adX_l (v := ρ 1) (s := itF (fun i s => adC (ρ (4 + i)) w s) (ρ 3).toNat 0 (adM ρ (adW (ρ 0).toNat s)))
    have h3 := (g.2.2.2.2.2.2.2.2.2.2.1 c).1
    have h4 := hM.2.2 c
    have h5 := hk.2.2 (by omega)
    omega
  · rw [if_neg c]
    omega
section PC2
variable {I0 I : cI} {R : cR} {s : pT}
def cPv (I0 I : cI) (s : pT) : Prop := I 8 1 = s.1 ∧ (∀ k, 0 ≤ k → k < s.1 → I 9 k = s.2 k) ∧ (∀ a x, a ≠ 9 → ¬ (a = 8 ∧ x = 1) → I a x = I0 a x) ∧ 0 ≤ s.1
theorem c_add {b : Int} {Q : cI → cR → Prop} (h : cPv I0 I s) (hs : s.1 < 1980) (hQ : ∀ I', cPv I0 I' (ad b s) → Q I' R) : wX3_add b I R Q := by
  obtain ⟨h1, h2, h3, h4⟩ := h
  unfold wX3_add
  rw [h1]
  refine ⟨fun c => absurd c (by omega), fun c => ⟨⟨h4, hs⟩, fun I2 e2 => ?_⟩⟩
  have e21 : I2 8 1 = s.1 := by subst e2; rw [u2a (by decide)]; exact h1
  rw [e21]
  refine ⟨by unfold inR; omega, fun I6 e6 => hQ I6 ⟨by subst e6; exact u2e, fun k k0 k1 => ?_, fun a x q1 q2 => ?_, by rw [ad_l]; omega⟩⟩
  · rw [ad_l] at k1
    subst e6; rw [u2a (by decide)]; subst e2
    show up2 I 9 s.1 b 9 k = upF s.2 s.1 b k
    by_cases ek : k = s.1
    · subst ek; rw [u2e, uFe]
    · rw [u2x ek, uFn ek]; exact h2 k k0 (by omega)
  · subst e6; rw [u2n q2]; subst e2; rw [u2a q1]; exact h3 a x q1 q2
theorem c_word {i : Nat} {Q : cI → cR → Prop} (hi : i < 15) (h : cPv I0 I s) (hs : s.1 + 8 ≤ 1980) (hQ : ∀ I', cPv I0 I' (adW i s) → Q I' R) : wX3_addWord i I R Q := by
  have hb := txN_b i hi
  have L : ∀ (m : Nat) (x : Int) (t : pT) (I' : cI), 0 ≤ x → x ≤ txN i → txN i - x < m → cPv I0 I' t → t.1 ≤ s.1 + x → itF (fun x s => ad (txC i x) s) (txN i - x).toNat x t = adW i s → wX3_addWord_2 Q i m x I' R := by
    intro m
    induction m with
    | zero => intro x t I' x0 x1 x2; omega
    | succ m ih =>
      intro x t I' x0 x1 x2 hv ht he
      show wbX3_addWord_2 Q i (wX3_addWord_2 Q i m) x I' R
      unfold wbX3_addWord_2
      refine ⟨fun c => ?_, fun c => ⟨by omega, c_add hv (by omega) (fun I2 h2 => ⟨by unfold inR; omega, fun z hz => ?_⟩)⟩⟩
      · rw [show (txN i - x).toNat = 0 by omega] at he
        have he' : t = adW i s := he
        subst he'
        exact hQ I' hv
      · subst hz
        refine ih (x + 1) _ I2 (by omega) (by omega) (by omega) h2 (by rw [ad_l]; omega) ?_
        rw [← he, show (txN i - x).toNat = (txN i - (x + 1)).toNat + 1 by omega]
        rfl
  exact ⟨9, L 9 0 s I (Int.le_refl 0) hb.1 (by omega) h (by omega) (by rw [Int.sub_zero]; rfl)⟩
theorem c_unit {u v : Int} {m : Nat} {Q : cI → cR → Prop} (hu : 1 ≤ u) (hu2 : u ≤ 1000) (v0 : 0 ≤ v) (v1 : v ≤ 9999) (h : cPv I0 I s) (hs : s.1 < 1980) (hQ : ∀ I', cPv I0 I' (adU u v s) → wX3_addNumber_10 Q v m (u / 10) I' R) : wX3_addNumber_10 Q v (m + 1) u I R := by
  have d0 : 0 ≤ v / u := Int.ediv_nonneg v0 (by omega)
  have d1 : v / u ≤ v := Int.ediv_le_self u v0
  have out : u ≤ v ∨ u = 1 → wX3_addNumber_25 Q v (wX3_addNumber_10 Q v m) u I R := fun c => by
    rw [adU_1 c] at hQ
    refine ⟨⟨v0, by omega⟩, by unfold inR; omega, d0, by unfold inR; omega, c_add h hs (fun I2 h2 => ⟨by omega, by unfold inR; omega, fun z hz => ?_⟩)⟩
    subst hz
    exact hQ I2 h2
  show wbX3_addNumber_10 Q v (wX3_addNumber_10 Q v m) u I R
  unfold wbX3_addNumber_10
  refine ⟨fun c => absurd c (by omega), fun c => ⟨fun c2 => out (Or.inl c2), fun c2 => ⟨fun c3 => ⟨by omega, by unfold inR; omega, fun z hz => ?_⟩, fun c3 => out (Or.inr c3)⟩⟩⟩
  subst hz
  rw [adU_0 c2 c3] at hQ
  exact hQ I h
theorem c_num {v : Int} {Q : cI → cR → Prop} (v0 : 0 ≤ v) (v1 : v ≤ 9999) (h : cPv I0 I s) (hs : s.1 + 5 ≤ 1980) (hQ : ∀ I', cPv I0 I' (adX v s) → Q I' R) : wX3_addNumber v I R Q := by
  refine c_add h (by omega) (fun I1 h1 => ⟨5, ?_⟩)
  have l1 := adU_l (u := 1000) (v := v) (s := ad 32 s)
  have l2 := adU_l (u := 100) (v := v) (s := adU 1000 v (ad 32 s))
  have l3 := adU_l (u := 10) (v := v) (s := adU 100 v (adU 1000 v (ad 32 s)))
  rw [ad_l] at l1
  refine c_unit (by decide) (by decide) v0 v1 h1 (by rw [ad_l]; omega) (fun I2 h2 => ?_)
  rw [show (1000 : Int) / 10 = 100 by decide]
  refine c_unit (by decide) (by decide) v0 v1 h2 (by omega) (fun I3 h3 => ?_)
  rw [show (100 : Int) / 10 = 10 by decide]
  refine c_unit (by decide) (by decide) v0 v1 h3 (by omega) (fun I4 h4 => ?_)
  rw [show (10 : Int) / 10 = 1 by decide]
  refine c_unit (by decide) (by decide) v0 v1 h4 (by omega) (fun I5 h5 => ?_)
  rw [show (1 : Int) / 10 = 0 by decide]
  show wbX3_addNumber_10 Q v (wX3_addNumber_10 Q v 0) 0 I5 R
  unfold wbX3_addNumber_10
  exact ⟨fun _ => hQ I5 h5, fun c => absurd (by decide) c⟩
theorem c_cell {a w : Int} {Q : cI → cR → Prop} (a0 : 0 ≤ a) (a1 : a < 25) (w0 : 1 ≤ w) (w1 : w ≤ 5) (h : cPv I0 I s) (hs : s.1 + 3 ≤ 1980) (hQ : ∀ I', cPv I0 I' (adC a w s) → Q I' R) : wX3_addCell a w I R Q := by
  have d0 : 0 ≤ a / w := Int.ediv_nonneg a0 (by omega)
  have d1 : a / w ≤ a := Int.ediv_le_self w a0
  have m0 := Int.emod_nonneg a (show w ≠ 0 by omega)
  have m1 := Int.emod_lt_of_pos a (show 0 < w by omega)
  refine ⟨fun c => absurd c (by omega), fun c => c_add h (by omega) (fun I1 h1 => ⟨⟨a0, by omega⟩, by unfold inR; omega, c_add h1 (by rw [ad_l]; omega) (fun I2 h2 => ⟨⟨a0, by omega⟩, by unfold inR; omega, c_add h2 (by rw [ad_l, ad_l]; omega) (fun I3 h3 => hQ I3 h3)⟩)⟩)⟩
theorem c_ruleW {r : Nat} {w m : Int} {ρ : Int → Int} {Q : cI → cR → Prop} (hr : isR r) (hv : rv I0 R r ρ) (g : gr m ρ) (hm : m ≤ 25) (w0 : 1 ≤ w) (w1 : w ≤ 5) (h : cPv I0 I s) (hs : s.1 + 30 ≤ 1980) (hQ : ∀ I', cPv I0 I' (adR ρ w s) → Q I' R) : wX3_addRule r w I R Q := by
  have hr' : 93 ≤ r := hr.1
  have eI : ∀ {I1 t}, cPv I0 I1 t → ∀ a x, 93 ≤ a → I1 a x = I0 a x := fun h a x q => h.2.2.1 a x (by omega) (by omega)
  obtain ⟨v0, v1, v2, v3, v4, v5⟩ := hv
  have eK : (ρ 0).toNat = R r 0 := by rw [← v0]; show ((R r 0 : Nat) : Int).toNat = R r 0; omega
  have e9 : R r 0 = 9 ↔ ρ 0 = 9 := by rw [← v0]; show R r 0 = 9 ↔ ((R r 0 : Nat) : Int) = 9; omega
  have hM := fun t => adM_l (s := t) g
  have hk := kind_b (ρ 0).toNat (by have := g.1; have := g.2.1; omega)
  have ht := txN_b (ρ 0).toNat (by have := g.1; have := g.2.1; omega)
  have hMW := hM (adW (ρ 0).toNat s)
  rw [adW_l (by have := g.1; have := g.2.1; omega)] at hMW
  have n0 := g.2.2.2.2.2.2.1
  have n5 := g.2.2.2.2.2.2.2.1
  have h48 : ∀ (I1 : cI), cPv I0 I1 (adM ρ (adW (ρ 0).toNat s)) → wX3_addRule_48 Q r w I1 R := fun I1 h1 => by
    have L : ∀ (k : Nat) (x : Int) (t : pT) (I' : cI), 0 ≤ x → x ≤ ρ 3 → ρ 3 - x < k → cPv I0 I' t → t.1 ≤ (adM ρ (adW (ρ 0).toNat s)).1 + 3 * x → itF (fun i s => adC (ρ (4 + i)) w s) (ρ 3 - x).toNat x t = itF (fun i s => adC (ρ (4 + i)) w s) (ρ 3).toNat 0 (adM ρ (adW (ρ 0).toNat s)) → wX3_addRule_50 Q r w k x I' R := by
      intro k
      induction k with
      | zero => intro x t I' x0 x1 x2; omega
      | succ k ih =>
        intro x t I' x0 x1 x2 hv ht he
        show wbX3_addRule_50 Q r w (wX3_addRule_50 Q r w k) x I' R
        unfold wbX3_addRule_50
        rw [eI hv r 3 hr', v3]
        refine ⟨fun c => ?_, fun c => ⟨by omega, ?_⟩⟩
        · rw [show (ρ 3 - x).toNat = 0 by omega] at he
          have he' : t = _ := he
          refine ⟨fun c9 => hQ I' ?_, fun c9 => ?_⟩
          · unfold adR; rw [if_neg (fun q => c9 (e9.mpr q)), ← he']; exact hv
          · rw [eI hv r 1 hr', v1]
            refine c_num g.2.2.1 g.2.2.2.1 hv (by omega) (fun I2 h2 => hQ I2 ?_)
            unfold adR; rw [if_pos (e9.mp c9), ← he']; exact h2
        · rw [eI hv (r + 130) x (by omega), v4 x x0 (by omega)]
          have hc := g.2.2.2.2.2.2.2.2.2.2.2.1 x x0 (by omega)
          refine c_cell hc.1 (by omega) w0 w1 hv (by omega) (fun I2 h2 => ⟨by unfold inR; omega, fun z hz => ?_⟩)
          subst hz
          refine ih (x + 1) _ I2 (by omega) (by omega) (by omega) h2 (by rw [adC_l]; omega) ?_
          rw [← he, show (ρ 3 - x).toNat = (ρ 3 - (x + 1)).toNat + 1 by omega]
          rfl
    exact ⟨6, L 6 0 _ I1 (Int.le_refl 0) n0 (by omega) h1 (by omega) (by rw [Int.sub_zero])⟩
  unfold wX3_addRule
  rw [← eK]
  have g0 := g.1
  have g1 := g.2.1
  refine c_word (by omega) h (by omega) (fun I1 h1 => ?_)
  have lW := adW_l (s := s) (i := (ρ 0).toNat) (by omega)
  have h29 : ∀ (I2 : cI), cPv I0 I2 (if kA (ρ 0).toNat ≤ 0 then adW (ρ 0).toNat s else adX (ρ 1) (adW (ρ 0).toNat s)) → wX3_addRule_29 Q r w I2 R := fun I2 h2 => by
    unfold wX3_addRule_29
    rw [← eK]
    refine ⟨fun c => h48 I2 ?_, fun c => ?_⟩
    · unfold adM; rw [if_pos c]; exact h2
    · rw [eI h2 r 2 hr', v2]
      refine c_num g.2.2.2.2.1 (by have := g.2.2.2.2.2.1; omega) h2 ?_ (fun I3 h3 => h48 I3 ?_)
      · have := adX_l (v := ρ 1) (s := adW (ρ 0).toNat s)
        split <;> omega
      · unfold adM; rw [if_neg c]; exact h3
  rw [← eK]
  refine ⟨fun c => h29 I1 (by rw [if_pos c]; exact h1), fun c => ?_⟩
  rw [eI h1 r 1 hr', v1]
  exact c_num g.2.2.1 g.2.2.2.1 h1 (by omega) (fun I2 h2 => h29 I2 (by rw [if_neg c]; exact h2))
theorem c_show {p : Nat} {M n h : Int} {ρ : Int → Int → Int} {w hh : Int} {Q : cI → cR → Prop} (hB : pB p I R M n h ρ) (ew : I p 0 = w) (eh : I p 1 = hh) (w0 : 1 ≤ w) (w1 : w ≤ 5) (h0 : 1 ≤ hh) (h1 : hh ≤ 5)
    (hQ : ∀ I', cPv I I' (adS ρ w n.toNat 0 (adH w hh h)) → Q I' R) : wX3_show p I R Q := by
  have hB' := hB
  obtain ⟨b1, b2, b3, b4, b5, b6, b7, b8, b9, b10, b11, b12⟩ := hB'
  have hp : p = 85 ∨ p = 89 := b1.1
  have eI : ∀ {I1 t}, cPv I I1 t → ∀ a x, 85 ≤ a → I1 a x = I a x := fun h a x q => h.2.2.1 a x (by omega) (by omega)
  unfold wX3_show
  intro I1 e1
  have v1 : cPv I I1 (0, fun _ => 0) := ⟨by subst e1; exact u2e, fun k k0 k1 => absurd (show k < 0 from k1) (by omega), fun a x q1 q2 => by subst e1; exact u2n q2, Int.le_refl 0⟩
  have lW := adW_l (s := ((0, fun _ => 0) : pT)) (i := 14) (by decide)
  rw [show txN 14 = 4 by decide] at lW
  have lw' : (adW 14 ((0, fun _ => 0) : pT)).1 = 4 := lW
  have x1 := adX_1 (v := w) (s := adW 14 ((0, fun _ => 0) : pT)) (by omega)
  have x2 := adX_1 (v := hh) (s := adX w (adW 14 ((0, fun _ => 0) : pT))) (by omega)
  have x3 := adX_1 (v := h) (s := adX hh (adX w (adW 14 ((0, fun _ => 0) : pT)))) (by omega)
  refine c_word (by decide) v1 (by show (0 : Int) + 8 ≤ 1980; decide) (fun I5 v5 => ?_)
  rw [eI v5 p 0 (by omega), ew]
  refine c_num (by omega) (by omega) v5 (by omega) (fun I10 v10 => ?_)
  rw [eI v10 p 1 (by omega), eh]
  refine c_num (by omega) (by omega) v10 (by omega) (fun I15 v15 => ?_)
  rw [eI v15 p 2 (by omega), b3]
  refine c_num (by omega) (by omega) v15 (by omega) (fun I20 v20 => ?_)
  refine c_add v20 (by omega) (fun I25 v25 => ⟨66, ?_⟩)
  have lH : (adH w hh h).1 = 11 := by unfold adH; rw [ad_l]; omega
  have L : ∀ (k : Nat) (x : Int) (t : pT) (I' : cI), 0 ≤ x → x ≤ n → n - x < k → cPv I I' t → t.1 ≤ 11 + 29 * x → adS ρ w (n - x).toNat x t = adS ρ w n.toNat 0 (adH w hh h) → wX3_show_43 Q p k x I' R := by
    intro k
    induction k with
    | zero => intro x t I' x0 x1 x2; omega
    | succ k ih =>
      intro x t I' x0 x1 x2 hv ht he
      show wbX3_show_43 Q p (wX3_show_43 Q p k) x I' R
      unfold wbX3_show_43
      rw [eI hv p 5 (by omega), b4, eI hv p 0 (by omega), ew]
      refine ⟨fun c => ?_, fun c => ⟨by omega, ?_⟩⟩
      · rw [show (n - x).toNat = 0 by omega] at he
        have he' : t = _ := he
        rw [he'] at hv
        exact hQ I' hv
      · have lR := adR_l (w := w) (s := t) (b6 x x0 (by omega))
        refine c_ruleW (rg_R (b1.2.1 x x0 (by omega))) (b5 x x0 (by omega)) (b6 x x0 (by omega)) b10 w0 w1 hv (by omega) (fun I3 v3 => c_add v3 (by omega) (fun I8 v8 => ⟨by unfold inR; omega, fun z hz => ?_⟩))
        subst hz
        refine ih (x + 1) _ I8 (by omega) (by omega) (by omega) v8 (by rw [ad_l]; omega) ?_
        rw [← he, show (n - x).toNat = (n - (x + 1)).toNat + 1 by omega]
        rfl
  exact L 66 0 _ I25 (Int.le_refl 0) b7 (by omega) v25 (by show (adH w hh h).1 ≤ 11 + 29 * 0; omega) (by rw [Int.sub_zero]; rfl)
end PC2
section PM2
variable {J0 J : cI} {s : pT}
def jPv (J0 J : cI) (s : pT) : Prop := J 1000 10 = s.1 ∧ (∀ k, 0 ≤ k → k < s.1 → J 1009 k = s.2 k) ∧ (∀ a x, a ≠ 1009 → ¬ (a = 1000 ∧ x = 10) → J a x = J0 a x) ∧ 0 ≤ s.1
end PM2
theorem adS_l {ρ : Int → Int → Int} {m n w : Int} (g : gp m n ρ) : ∀ (k : Nat) (x : Int) (s : pT), 0 ≤ x → x + k ≤ n → s.1 ≤ (adS ρ w k x s).1 ∧ (adS ρ w k x s).1 ≤ s.1 + 29 * k := by
  intro k
  induction k with
  | zero => intro x s x0 x1; show s.1 ≤ s.1 ∧ s.1 ≤ s.1 + 29 * ((0 : Nat) : Int); omega
  | succ k ih =>
    intro x s x0 x1
    have l := adR_l (w := w) (s := s) (g x x0 (by omega))
    have h := ih (x + 1) (ad 59 (adR (ρ x) w s)) (by omega) (by omega)
    rw [ad_l] at h
    have e : adS ρ w (k + 1) x s = adS ρ w k (x + 1) (ad 59 (adR (ρ x) w s)) := rfl
    rw [e]
    omega
section ST6
variable {I : cI} {R : cR} {J : cI}
end ST6
