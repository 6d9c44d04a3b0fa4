/-! ===== write ===== -/
abbrev pT : Type := Int × (Int → Int)
def ad (b : Int) (s : pT) : pT := (s.1 + 1, upF s.2 s.1 b)
def adW (i : Nat) (s : pT) : pT := itF (fun x s => ad (txC i x) s) (txN i).toNat 0 s
def adU (u v : Int) (s : pT) : pT := if u ≤ v ∨ u = 1 then ad (48 + v / u % 10) s else s
def adN (v : Int) (s : pT) : pT := adU 1 v (adU 10 v (adU 100 v (adU 1000 v s)))
def adX (v : Int) (s : pT) : pT := adN v (ad 32 s)
def adC (a w : Int) (s : pT) : pT := ad (49 + a / w) (ad (97 + a % w) (ad 32 s))
def adM (ρ : Int → Int) (s : pT) : pT := if kA (ρ 0).toNat ≤ 1 then (if kA (ρ 0).toNat ≤ 0 then s else adX (ρ 1) s) else adX (ρ 2) (if kA (ρ 0).toNat ≤ 0 then s else adX (ρ 1) s)
def adR (ρ : Int → Int) (w : Int) (s : pT) : pT :=
  if ρ 0 = 9 then adX (ρ 1) (itF (fun i s => adC (ρ (4 + i)) w s) (ρ 3).toNat 0 (adM ρ (adW (ρ 0).toNat s))) else itF (fun i s => adC (ρ (4 + i)) w s) (ρ 3).toNat 0 (adM ρ (adW (ρ 0).toNat s))
def adS (ρ : Int → Int → Int) (w : Int) (n : Nat) (x : Int) (s : pT) : pT := itF (fun i s => ad 59 (adR (ρ i) w s)) n x s
def adH (w h k : Int) : pT := ad 59 (adX k (adX h (adX w (adW 14 (0, fun _ => 0)))))
theorem ad_l {b : Int} {s : pT} : (ad b s).1 = s.1 + 1 := rfl
theorem adU_l {u v : Int} {s : pT} : s.1 ≤ (adU u v s).1 ∧ (adU u v s).1 ≤ s.1 + 1 := by
  unfold adU
  split
  · rw [ad_l]; omega
  · omega
theorem adU_0 {u v : Int} {s : pT} (h : ¬ u ≤ v) (h1 : ¬ u = 1) : adU u v s = s := if_neg (by omega)
theorem adU_1 {u v : Int} {s : pT} (h : u ≤ v ∨ u = 1) : adU u v s = ad (48 + v / u % 10) s := if_pos h
theorem adN_l {v : Int} {s : pT} : s.1 ≤ (adN v s).1 ∧ (adN v s).1 ≤ s.1 + 4 := by
  have h1 := adU_l (u := 1000) (v := v) (s := s)
  have h2 := adU_l (u := 100) (v := v) (s := adU 1000 v s)
  have h3 := adU_l (u := 10) (v := v) (s := adU 100 v (adU 1000 v s))
  have h4 := adU_l (u := 1) (v := v) (s := adU 10 v (adU 100 v (adU 1000 v s)))
  unfold adN
  omega
theorem adN_1 {v : Int} {s : pT} (h : v ≤ 9) : adN v s = ad (48 + v % 10) s := by
  unfold adN
  rw [adU_0 (u := 1000) (by omega) (by decide), adU_0 (u := 100) (by omega) (by decide), adU_0 (u := 10) (by omega) (by decide), adU_1 (Or.inr rfl), Int.ediv_one]
theorem adN_s {v : Int} {s : pT} (h : 10 ≤ v) (h2 : v ≤ 9999) : adN v s = ad (48 + v % 10) (adN (v / 10) s) := by
  have key : ∀ (u t : Int) (s : pT), (u ≤ v / 10 ∨ u = 1 ↔ t ≤ v ∨ t = 1) → v / 10 / u % 10 = v / t % 10 → adU u (v / 10) s = adU t v s := fun u t s e1 e2 => by
    unfold adU
    by_cases c : t ≤ v ∨ t = 1
    · rw [if_pos c, if_pos (e1.mpr c), e2]
    · rw [if_neg c, if_neg (fun w => c (e1.mp w))]
  unfold adN
  rw [adU_1 (u := 1) (v := v) (Or.inr rfl), Int.ediv_one, adU_0 (u := 1000) (v := v / 10) (by omega) (by decide), key 100 1000 s (by omega) (by omega), key 10 100 _ (by omega) (by omega), key 1 10 _ (by omega) (by omega)]
theorem adX_l {v : Int} {s : pT} : s.1 ≤ (adX v s).1 ∧ (adX v s).1 ≤ s.1 + 5 := by
  have h := adN_l (v := v) (s := ad 32 s)
  rw [ad_l] at h
  unfold adX
  omega
theorem adX_1 {v : Int} {s : pT} (h : v ≤ 9) : (adX v s).1 = s.1 + 2 := by
  unfold adX
  rw [adN_1 h, ad_l, ad_l]; omega
theorem itF_l {f : Int → pT → pT} {d : Int} (hf : ∀ x s, (f x s).1 = s.1 + d) : ∀ (n : Nat) (x : Int) (s : pT), (itF f n x s).1 = s.1 + d * n := by
  intro n
  induction n with
  | zero => intro x s; show s.1 = s.1 + d * ((0 : Nat) : Int); simp
  | succ n ih =>
    intro x s
    show (itF f n (x + 1) (f x s)).1 = _
    rw [ih, hf]
    rw [show ((n + 1 : Nat) : Int) = (n : Int) + 1 by omega, Int.mul_add]
    omega
theorem txN_b : ∀ i : Nat, i < 15 → 0 ≤ txN i ∧ txN i ≤ 7 := by unfold txN; decide +kernel
theorem adW_l {i : Nat} {s : pT} (h : i < 15) : (adW i s).1 = s.1 + txN i := by
  have hb := txN_b i h
  unfold adW
  rw [itF_l (d := 1) (fun x s => ad_l)]
  omega
theorem adC_l {a w : Int} {s : pT} : (adC a w s).1 = s.1 + 3 := by
  unfold adC
  rw [ad_l, ad_l, ad_l]; omega
theorem kind_b : ∀ κ : Nat, κ < 12 → txN κ + (if kA κ ≤ 0 then 0 else 5) + (if kA κ ≤ 1 then 0 else 2) ≤ 12 ∧ nuT (κ : Int) = kA κ ∧ (κ = 9 → txN κ = 2 ∧ kA κ = 0) := by unfold txN nuT kA; decide +kernel
theorem adM_l {m : Int} {ρ : Int → Int} {s : pT} (g : gr m ρ) : s.1 ≤ (adM ρ s).1 ∧ (adM ρ s).1 ≤ s.1 + (if kA (ρ 0).toNat ≤ 0 then 0 else 5) + (if kA (ρ 0).toNat ≤ 1 then 0 else 2) ∧ (ρ 0 = 9 → (adM ρ s).1 = s.1) := by
  have hk := kind_b (ρ 0).toNat (by have := g.1; have := g.2.1; omega)
  have h2 : ρ 2 ≤ 9 := g.2.2.2.2.2.1
  have h9 : ρ 0 = 9 → kA (ρ 0).toNat = 0 := fun e => (hk.2.2 (by omega)).2
  have k1 := adX_l (v := ρ 1) (s := s)
  unfold adM
  by_cases c0 : kA (ρ 0).toNat ≤ 0
  · simp only [if_pos c0, if_pos (show kA (ρ 0).toNat ≤ 1 by omega)]
    refine ⟨by omega, by omega, fun _ => trivial⟩
  · by_cases c1 : kA (ρ 0).toNat ≤ 1
    · simp only [if_neg c0, if_pos c1]
      refine ⟨by omega, by omega, fun e => absurd (h9 e) (by omega)⟩
    · simp only [if_neg c0, if_neg c1]
      rw [adX_1 h2]
      refine ⟨by omega, by omega, fun e => absurd (h9 e) (by omega)⟩
theorem adR_l {m w : Int} {ρ : Int → Int} {s : pT} (g : gr m ρ) : s.1 ≤ (adR ρ w s).1 ∧ (adR ρ w s).1 ≤ s.1 + 28 := by
  have g0 := g.1
  have g1 := g.2.1
  have hk := kind_b (ρ 0).toNat (by omega)
  have hM := adM_l (s := adW (ρ 0).toNat s) g
  rw [adW_l (by omega)] at hM
  have ht := txN_b (ρ 0).toNat (by omega)
  have n0 := g.2.2.2.2.2.2.1
  have n5 := g.2.2.2.2.2.2.2.1
  have hI := itF_l (f := fun i s => adC (ρ (4 + i)) w s) (d := 3) (fun x s => adC_l) (ρ 3).toNat 0 (adM ρ (adW (ρ 0).toNat s))
  unfold adR
  by_cases c : ρ 0 = 9
  · rw [if_pos c]
    have h1 := adX_l (v := ρ 1) (s := itF (fun i s => adC (ρ (4 + i)) w s) (ρ 3).toNat 0 (adM ρ (adW (ρ 0).toNat s)))
    have h3 := (g.2.2.2.2.2.2.2.2.2.2.1 c).1
    have h4 := hM.2.2 c
    have h5 := hk.2.2 (by omega)
    omega
  · rw [if_neg c]
    omega
section PC2
variable {I0 I : cI} {R : cR} {s : pT}
def cPv (I0 I : cI) (s : pT) : Prop := I 8 1 = s.1 ∧ (∀ k, 0 ≤ k → k < s.1 → I 9 k = s.2 k) ∧ (∀ a x, a ≠ 9 → ¬ (a = 8 ∧ x = 1) → I a x = I0 a x) ∧ 0 ≤ s.1
theorem c_add {b : Int} {Q : cI → cR → Prop} (h : cPv I0 I s) (hs : s.1 < 1980) (hQ : ∀ I', cPv I0 I' (ad b s) → Q I' R) : wX3_add b I R Q := by
  obtain ⟨h1, h2, h3, h4⟩ := h
  unfold wX3_add
  rw [h1]
  refine ⟨fun c => absurd c (by omega), fun c => ⟨⟨h4, hs⟩, fun I2 e2 => ?_⟩⟩
  have e21 : I2 8 1 = s.1 := by subst e2; rw [u2a (by decide)]; exact h1
  rw [e21]
  refine ⟨by unfold inR; omega, fun I6 e6 => hQ I6 ⟨by subst e6; exact u2e, fun k k0 k1 => ?_, fun a x q1 q2 => ?_, by rw [ad_l]; omega⟩⟩
  · rw [ad_l] at k1
    subst e6; rw [u2a (by decide)]; subst e2
    show up2 I 9 s.1 b 9 k = upF s.2 s.1 b k
    by_cases ek : k = s.1
    · subst ek; rw [u2e, uFe]
    · rw [u2x ek, uFn ek]; exact h2 k k0 (by omega)
  · subst e6; rw [u2n q2]; subst e2; rw [u2a q1]; exact h3 a x q1 q2
theorem c_word {i : Nat} {Q : cI → cR → Prop} (hi : i < 15) (h : cPv I0 I s) (hs : s.1 + 8 ≤ 1980) (hQ : ∀ I', cPv I0 I' (adW i s) → Q I' R) : wX3_addWord i I R Q := by
  have hb := txN_b i hi
  have L : ∀ (m : Nat) (x : Int) (t : pT) (I' : cI), 0 ≤ x → x ≤ txN i → txN i - x < m → cPv I0 I' t → t.1 ≤ s.1 + x → itF (fun x s => ad (txC i x) s) (txN i - x).toNat x t = adW i s → wX3_addWord_2 Q i m x I' R := by
    intro m
    induction m with
    | zero => intro x t I' x0 x1 x2; omega
    | succ m ih =>
      intro x t I' x0 x1 x2 hv ht he
      show wbX3_addWord_2 Q i (wX3_addWord_2 Q i m) x I' R
      unfold wbX3_addWord_2
      refine ⟨fun c => ?_, fun c => ⟨by omega, c_add hv (by omega) (fun I2 h2 => ⟨by unfold inR; omega, fun z hz => ?_⟩)⟩⟩
      · rw [show (txN i - x).toNat = 0 by omega] at he
        have he' : t = adW i s := he
        subst he'
        exact hQ I' hv
      · subst hz
        refine ih (x + 1) _ I2 (by omega) (by omega) (by omega) h2 (by rw [ad_l]; omega) ?_
        rw [← he, show (txN i - x).toNat = (txN i - (x + 1)).toNat + 1 by omega]
        rfl
  exact ⟨9, L 9 0 s I (Int.le_refl 0) hb.1 (by omega) h (by omega) (by rw [Int.sub_zero]; rfl)⟩
theorem c_unit {u v : Int} {m : Nat} {Q : cI → cR → Prop} (hu : 1 ≤ u) (hu2 : u ≤ 1000) (v0 : 0 ≤ v) (v1 : v ≤ 9999) (h : cPv I0 I s) (hs : s.1 < 1980) (hQ : ∀ I', cPv I0 I' (adU u v s) → wX3_addNumber_10 Q v m (u / 10) I' R) : wX3_addNumber_10 Q v (m + 1) u I R := by
  have d0 : 0 ≤ v / u := Int.ediv_nonneg v0 (by omega)
  have d1 : v / u ≤ v := Int.ediv_le_self u v0
  have out : u ≤ v ∨ u = 1 → wX3_addNumber_25 Q v (wX3_addNumber_10 Q v m) u I R := fun c => by
    rw [adU_1 c] at hQ
    refine ⟨⟨v0, by omega⟩, by unfold inR; omega, d0, by unfold inR; omega, c_add h hs (fun I2 h2 => ⟨by omega, by unfold inR; omega, fun z hz => ?_⟩)⟩
    subst hz
    exact hQ I2 h2
  show wbX3_addNumber_10 Q v (wX3_addNumber_10 Q v m) u I R
  unfold wbX3_addNumber_10
  refine ⟨fun c => absurd c (by omega), fun c => ⟨fun c2 => out (Or.inl c2), fun c2 => ⟨fun c3 => ⟨by omega, by unfold inR; omega, fun z hz => ?_⟩, fun c3 => out (Or.inr c3)⟩⟩⟩
  subst hz
  rw [adU_0 c2 c3] at hQ
  exact hQ I h
theorem c_num {v : Int} {Q : cI → cR → Prop} (v0 : 0 ≤ v) (v1 : v ≤ 9999) (h : cPv I0 I s) (hs : s.1 + 5 ≤ 1980) (hQ : ∀ I', cPv I0 I' (adX v s) → Q I' R) : wX3_addNumber v I R Q := by
  refine c_add h (by omega) (fun I1 h1 => ⟨5, ?_⟩)
  have l1 := adU_l (u := 1000) (v := v) (s := ad 32 s)
  have l2 := adU_l (u := 100) (v := v) (s := adU 1000 v (ad 32 s))
  have l3 := adU_l (u := 10) (v := v) (s := adU 100 v (adU 1000 v (ad 32 s)))
  rw [ad_l] at l1
  refine c_unit (by decide) (by decide) v0 v1 h1 (by rw [ad_l]; omega) (fun I2 h2 => ?_)
  rw [show (1000 : Int) / 10 = 100 by decide]
  refine c_unit (by decide) (by decide) v0 v1 h2 (by omega) (fun I3 h3 => ?_)
  rw [show (100 : Int) / 10 = 10 by decide]
  refine c_unit (by decide) (by decide) v0 v1 h3 (by omega) (fun I4 h4 => ?_)
  rw [show (10 : Int) / 10 = 1 by decide]
  refine c_unit (by decide) (by decide) v0 v1 h4 (by omega) (fun I5 h5 => ?_)
  rw [show (1 : Int) / 10 = 0 by decide]
  show wbX3_addNumber_10 Q v (wX3_addNumber_10 Q v 0) 0 I5 R
  unfold wbX3_addNumber_10
  exact ⟨fun _ => hQ I5 h5, fun c => absurd (by decide) c⟩
theorem c_cell {a w : Int} {Q : cI → cR → Prop} (a0 : 0 ≤ a) (a1 : a < 25) (w0 : 1 ≤ w) (w1 : w ≤ 5) (h : cPv I0 I s) (hs : s.1 + 3 ≤ 1980) (hQ : ∀ I', cPv I0 I' (adC a w s) → Q I' R) : wX3_addCell a w I R Q := by
  have d0 : 0 ≤ a / w := Int.ediv_nonneg a0 (by omega)
  have d1 : a / w ≤ a := Int.ediv_le_self w a0
  have m0 := Int.emod_nonneg a (show w ≠ 0 by omega)
  have m1 := Int.emod_lt_of_pos a (show 0 < w by omega)
  refine ⟨fun c => absurd c (by omega), fun c => c_add h (by omega) (fun I1 h1 => ⟨⟨a0, by omega⟩, by unfold inR; omega, c_add h1 (by rw [ad_l]; omega) (fun I2 h2 => ⟨⟨a0, by omega⟩, by unfold inR; omega, c_add h2 (by rw [ad_l, ad_l]; omega) (fun I3 h3 => hQ I3 h3)⟩)⟩)⟩
theorem c_ruleW {r : Nat} {w m : Int} {ρ : Int → Int} {Q : cI → cR → Prop} (hr : isR r) (hv : rv I0 R r ρ) (g : gr m ρ) (hm : m ≤ 25) (w0 : 1 ≤ w) (w1 : w ≤ 5) (h : cPv I0 I s) (hs : s.1 + 30 ≤ 1980) (hQ : ∀ I', cPv I0 I' (adR ρ w s) → Q I' R) : wX3_addRule r w I R Q := by
  have hr' : 93 ≤ r := hr.1
  have eI : ∀ {I1 t}, cPv I0 I1 t → ∀ a x, 93 ≤ a → I1 a x = I0 a x := fun h a x q => h.2.2.1 a x (by omega) (by omega)
  obtain ⟨v0, v1, v2, v3, v4, v5⟩ := hv
  have eK : (ρ 0).toNat = R r 0 := by rw [← v0]; show ((R r 0 : Nat) : Int).toNat = R r 0; omega
  have e9 : R r 0 = 9 ↔ ρ 0 = 9 := by rw [← v0]; show R r 0 = 9 ↔ ((R r 0 : Nat) : Int) = 9; omega
  have hM := fun t => adM_l (s := t) g
  have hk := kind_b (ρ 0).toNat (by have := g.1; have := g.2.1; omega)
  have ht := txN_b (ρ 0).toNat (by have := g.1; have := g.2.1; omega)
  have hMW := hM (adW (ρ 0).toNat s)
  rw [adW_l (by have := g.1; have := g.2.1; omega)] at hMW
  have n0 := g.2.2.2.2.2.2.1
  have n5 := g.2.2.2.2.2.2.2.1
  have h48 : ∀ (I1 : cI), cPv I0 I1 (adM ρ (adW (ρ 0).toNat s)) → wX3_addRule_48 Q r w I1 R := fun I1 h1 => by
    have L : ∀ (k : Nat) (x : Int) (t : pT) (I' : cI), 0 ≤ x → x ≤ ρ 3 → ρ 3 - x < k → cPv I0 I' t → t.1 ≤ (adM ρ (adW (ρ 0).toNat s)).1 + 3 * x → itF (fun i s => adC (ρ (4 + i)) w s) (ρ 3 - x).toNat x t = itF (fun i s => adC (ρ (4 + i)) w s) (ρ 3).toNat 0 (adM ρ (adW (ρ 0).toNat s)) → wX3_addRule_50 Q r w k x I' R := by
      intro k
      induction k with
      | zero => intro x t I' x0 x1 x2; omega
      | succ k ih =>
        intro x t I' x0 x1 x2 hv ht he
        show wbX3_addRule_50 Q r w (wX3_addRule_50 Q r w k) x I' R
        unfold wbX3_addRule_50
        rw [eI hv r 3 hr', v3]
        refine ⟨fun c => ?_, fun c => ⟨by omega, ?_⟩⟩
        · rw [show (ρ 3 - x).toNat = 0 by omega] at he
          have he' : t = _ := he
          refine ⟨fun c9 => hQ I' ?_, fun c9 => ?_⟩
          · unfold adR; rw [if_neg (fun q => c9 (e9.mpr q)), ← he']; exact hv
          · rw [eI hv r 1 hr', v1]
            refine c_num g.2.2.1 g.2.2.2.1 hv (by omega) (fun I2 h2 => hQ I2 ?_)
            unfold adR; rw [if_pos (e9.mp c9), ← he']; exact h2
        · rw [eI hv (r + 130) x (by omega), v4 x x0 (by omega)]
          have hc := g.2.2.2.2.2.2.2.2.2.2.2.1 x x0 (by omega)
          refine c_cell hc.1 (by omega) w0 w1 hv (by omega) (fun I2 h2 => ⟨by unfold inR; omega, fun z hz => ?_⟩)
          subst hz
          refine ih (x + 1) _ I2 (by omega) (by omega) (by omega) h2 (by rw [adC_l]; omega) ?_
          rw [← he, show (ρ 3 - x).toNat = (ρ 3 - (x + 1)).toNat + 1 by omega]
          rfl
    exact ⟨6, L 6 0 _ I1 (Int.le_refl 0) n0 (by omega) h1 (by omega) (by rw [Int.sub_zero])⟩
  unfold wX3_addRule
  rw [← eK]
  have g0 := g.1
  have g1 := g.2.1
  refine c_word (by omega) h (by omega) (fun I1 h1 => ?_)
  have lW := adW_l (s := s) (i := (ρ 0).toNat) (by omega)
  have h29 : ∀ (I2 : cI), cPv I0 I2 (if kA (ρ 0).toNat ≤ 0 then adW (ρ 0).toNat s else adX (ρ 1) (adW (ρ 0).toNat s)) → wX3_addRule_29 Q r w I2 R := fun I2 h2 => by
    unfold wX3_addRule_29
    rw [← eK]
    refine ⟨fun c => h48 I2 ?_, fun c => ?_⟩
    · unfold adM; rw [if_pos c]; exact h2
    · rw [eI h2 r 2 hr', v2]
      refine c_num g.2.2.2.2.1 (by have := g.2.2.2.2.2.1; omega) h2 ?_ (fun I3 h3 => h48 I3 ?_)
      · have := adX_l (v := ρ 1) (s := adW (ρ 0).toNat s)
        split <;> omega
      · unfold adM; rw [if_neg c]; exact h3
  rw [← eK]
  refine ⟨fun c => h29 I1 (by rw [if_pos c]; exact h1), fun c => ?_⟩
  rw [eI h1 r 1 hr', v1]
  exact c_num g.2.2.1 g.2.2.2.1 h1 (by omega) (fun I2 h2 => h29 I2 (by rw [if_neg c]; exact h2))
theorem c_show {p : Nat} {M n h : Int} {ρ : Int → Int → Int} {w hh : Int} {Q : cI → cR → Prop} (hB : pB p I R M n h ρ) (ew : I p 0 = w) (eh : I p 1 = hh) (w0 : 1 ≤ w) (w1 : w ≤ 5) (h0 : 1 ≤ hh) (h1 : hh ≤ 5)
    (hQ : ∀ I', cPv I I' (adS ρ w n.toNat 0 (adH w hh h)) → Q I' R) : wX3_show p I R Q := by
  have hB' := hB
  obtain ⟨b1, b2, b3, b4, b5, b6, b7, b8, b9, b10, b11, b12⟩ := hB'
  have hp : p = 85 ∨ p = 89 := b1.1
  have eI : ∀ {I1 t}, cPv I I1 t → ∀ a x, 85 ≤ a → I1 a x = I a x := fun h a x q => h.2.2.1 a x (by omega) (by omega)
  unfold wX3_show
  intro I1 e1
  have v1 : cPv I I1 (0, fun _ => 0) := ⟨by subst e1; exact u2e, fun k k0 k1 => absurd (show k < 0 from k1) (by omega), fun a x q1 q2 => by subst e1; exact u2n q2, Int.le_refl 0⟩
  have lW := adW_l (s := ((0, fun _ => 0) : pT)) (i := 14) (by decide)
  rw [show txN 14 = 4 by decide] at lW
  have lw' : (adW 14 ((0, fun _ => 0) : pT)).1 = 4 := lW
  have x1 := adX_1 (v := w) (s := adW 14 ((0, fun _ => 0) : pT)) (by omega)
  have x2 := adX_1 (v := hh) (s := adX w (adW 14 ((0, fun _ => 0) : pT))) (by omega)
  have x3 := adX_1 (v := h) (s := adX hh (adX w (adW 14 ((0, fun _ => 0) : pT)))) (by omega)
  refine c_word (by decide) v1 (by show (0 : Int) + 8 ≤ 1980; decide) (fun I5 v5 => ?_)
  rw [eI v5 p 0 (by omega), ew]
  refine c_num (by omega) (by omega) v5 (by omega) (fun I10 v10 => ?_)
  rw [eI v10 p 1 (by omega), eh]
  refine c_num (by omega) (by omega) v10 (by omega) (fun I15 v15 => ?_)
  rw [eI v15 p 2 (by omega), b3]
  refine c_num (by omega) (by omega) v15 (by omega) (fun I20 v20 => ?_)
  refine c_add v20 (by omega) (fun I25 v25 => ⟨66, ?_⟩)
  have lH : (adH w hh h).1 = 11 := by unfold adH; rw [ad_l]; omega
  have L : ∀ (k : Nat) (x : Int) (t : pT) (I' : cI), 0 ≤ x → x ≤ n → n - x < k → cPv I I' t → t.1 ≤ 11 + 29 * x → adS ρ w (n - x).toNat x t = adS ρ w n.toNat 0 (adH w hh h) → wX3_show_43 Q p k x I' R := by
    intro k
    induction k with
    | zero => intro x t I' x0 x1 x2; omega
    | succ k ih =>
      intro x t I' x0 x1 x2 hv ht he
      show wbX3_show_43 Q p (wX3_show_43 Q p k) x I' R
      unfold wbX3_show_43
      rw [eI hv p 5 (by omega), b4, eI hv p 0 (by omega), ew]
      refine ⟨fun c => ?_, fun c => ⟨by omega, ?_⟩⟩
      · rw [show (n - x).toNat = 0 by omega] at he
        have he' : t = _ := he
        rw [he'] at hv
        exact hQ I' hv
      · have lR := adR_l (w := w) (s := t) (b6 x x0 (by omega))
        refine c_ruleW (rg_R (b1.2.1 x x0 (by omega))) (b5 x x0 (by omega)) (b6 x x0 (by omega)) b10 w0 w1 hv (by omega) (fun I3 v3 => c_add v3 (by omega) (fun I8 v8 => ⟨by unfold inR; omega, fun z hz => ?_⟩))
        subst hz
        refine ih (x + 1) _ I8 (by omega) (by omega) (by omega) v8 (by rw [ad_l]; omega) ?_
        rw [← he, show (n - x).toNat = (n - (x + 1)).toNat + 1 by omega]
        rfl
  exact L 66 0 _ I25 (Int.le_refl 0) b7 (by omega) v25 (by show (adH w hh h).1 ≤ 11 + 29 * 0; omega) (by rw [Int.sub_zero]; rfl)
end PC2
section PM2
variable {J0 J : cI} {s : pT}
def jPv (J0 J : cI) (s : pT) : Prop := J 1000 10 = s.1 ∧ (∀ k, 0 ≤ k → k < s.1 → J 1009 k = s.2 k) ∧ (∀ a x, a ≠ 1009 → ¬ (a = 1000 ∧ x = 10) → J a x = J0 a x) ∧ 0 ≤ s.1
theorem m_add {b : Int} {Q : cI → Prop} (h : jPv J0 J s) (hs : s.1 < 1980) (hQ : ∀ J', jPv J0 J' (ad b s) → Q J') : wX12_put b J Q := by
  obtain ⟨h1, h2, h3, h4⟩ := h
  unfold wX12_put
  rw [h1]
  refine ⟨⟨h4, by omega⟩, fun J2 e2 => ?_⟩
  have e21 : J2 1000 10 = s.1 := by subst e2; rw [u2a (by decide)]; exact h1
  rw [e21]
  refine ⟨by unfold inR; omega, fun J6 e6 => hQ J6 ⟨by subst e6; exact u2e, fun k k0 k1 => ?_, fun a x q1 q2 => ?_, by rw [ad_l]; omega⟩⟩
  · rw [ad_l] at k1
    subst e6; rw [u2a (by decide)]; subst e2
    show up2 J 1009 s.1 b 1009 k = upF s.2 s.1 b k
    by_cases ek : k = s.1
    · subst ek; rw [u2e, uFe]
    · rw [u2x ek, uFn ek]; exact h2 k k0 (by omega)
  · subst e6; rw [u2n q2]; subst e2; rw [u2a q1]; exact h3 a x q1 q2
theorem m_word {i : Nat} {Q : cI → Prop} (hi : i < 15) (h : jPv J0 J s) (hs : s.1 + 8 ≤ 1980) (hQ : ∀ J', jPv J0 J' (adW i s) → Q J') : wX12_put_ i J Q := by
  have hb := txN_b i hi
  have L : ∀ (m : Nat) (x : Int) (t : pT) (J' : cI), 0 ≤ x → x ≤ txN i → txN i - x < m → jPv J0 J' t → t.1 ≤ s.1 + x → itF (fun x s => ad (txC i x) s) (txN i - x).toNat x t = adW i s → wX12_put__2 Q i m x J' := by
    intro m
    induction m with
    | zero => intro x t I' x0 x1 x2; omega
    | succ m ih =>
      intro x t J' x0 x1 x2 hv ht he
      show wbX12_put__2 Q i (wX12_put__2 Q i m) x J'
      unfold wbX12_put__2
      refine ⟨fun c => ?_, fun c => ⟨by omega, m_add hv (by omega) (fun J2 h2 => ⟨by unfold inR; omega, fun z hz => ?_⟩)⟩⟩
      · rw [show (txN i - x).toNat = 0 by omega] at he
        have he' : t = adW i s := he
        subst he'
        exact hQ J' hv
      · subst hz
        refine ih (x + 1) _ J2 (by omega) (by omega) (by omega) h2 (by rw [ad_l]; omega) ?_
        rw [← he, show (txN i - x).toNat = (txN i - (x + 1)).toNat + 1 by omega]
        rfl
  exact ⟨9, L 9 0 s J (Int.le_refl 0) hb.1 (by omega) h (by omega) (by rw [Int.sub_zero]; rfl)⟩
theorem m_numR : ∀ (n : Nat) (v : Int) (s : pT) (J : cI) (Q : cI → Prop), 0 ≤ v → v < 10 ^ (n + 1) → v ≤ 9999 → jPv J0 J s → s.1 + 5 ≤ 1980 → (∀ J', jPv J0 J' (adN v s) → Q J') → wX12_putNumber (n + 1) v J Q := by
  intro n
  induction n with
  | zero =>
    intro v s J Q v0 v1 v2 h hs hQ
    show wbX12_putNumber (wX12_putNumber 0) v J Q
    have v9 : v ≤ 9 := by have : (10 : Int) ^ (0 + 1) = 10 := by decide
                          omega
    rw [adN_1 v9] at hQ
    exact ⟨fun _ => ⟨v0, by unfold inR; omega, m_add h (by omega) hQ⟩, fun c => absurd v9 c⟩
  | succ n ih =>
    intro v s J Q v0 v1 v2 h hs hQ
    show wbX12_putNumber (wX12_putNumber (n + 1)) v J Q
    rw [Int.pow_succ] at v1
    refine ⟨fun c => ?_, fun c => ⟨v0, by unfold inR; omega, ?_⟩⟩
    · rw [adN_1 c] at hQ
      exact ⟨v0, by unfold inR; omega, m_add h (by omega) hQ⟩
    · rw [adN_s (by omega) v2] at hQ
      have l := adN_l (v := v / 10) (s := s)
      exact ih (v / 10) s J _ (by omega) (by omega) (by omega) h hs (fun J2 h2 => ⟨v0, by unfold inR; omega, m_add h2 (by omega) hQ⟩)
theorem m_num {v : Int} {Q : cI → Prop} (v0 : 0 ≤ v) (v1 : v ≤ 9999) (h : jPv J0 J s) (hs : s.1 + 6 ≤ 1980) (hQ : ∀ J', jPv J0 J' (adX v s) → Q J') : wX12_putNext v J Q :=
  m_add h (by omega) (fun J2 h2 => m_numR 4 v _ J2 _ v0 (by have : (10 : Int) ^ (4 + 1) = 100000 := by decide
                                                            omega) v1 h2 (by rw [ad_l]; omega) hQ)
theorem m_show {n h w hh m : Int} {ρ : Int → Int → Int} {Q : Int → cI → Prop} (h11 : J 1000 11 = w) (h12 : J 1000 12 = hh) (h13 : J 1000 13 = h) (h14 : J 1000 14 = n) (er : mr J 1015 = ρ) (g : gp m n ρ) (hm : m ≤ 25) (w0 : 1 ≤ w) (w1 : w ≤ 5) (hh0 : 1 ≤ hh) (hh1 : hh ≤ 5) (k0 : 1 ≤ h) (k1 : h ≤ 5) (n0 : 0 ≤ n) (n1 : n ≤ 65)
    (hQ : ∀ J', jPv (up2 J 1000 0 0) J' (adS ρ w n.toNat 0 (adH w hh h)) → Q (adS ρ w n.toNat 0 (adH w hh h)).1 J') : wX12_write J Q := by
  unfold wX12_write
  intro J1 e1
  have f1 : ∀ x, x ≠ 0 → J1 1000 x = J 1000 x := fun x q => by subst e1; exact u2x q
  rw [f1 11 (by decide), h11]
  refine ⟨fun _ J4 e4 => ?_, fun c => by omega⟩
  have v4 : jPv J1 J4 (0, fun _ => 0) := ⟨by subst e4; exact u2e, fun k k0 k1 => absurd (show k < 0 from k1) (by omega), fun a x q1 q2 => by subst e4; exact u2n q2, Int.le_refl 0⟩
  have e1x : ∀ {J2 t}, jPv J1 J2 t → ∀ x, x ≠ 0 → x ≠ 10 → J2 1000 x = J 1000 x := fun v x q1 q2 => by rw [v.2.2.1 _ _ (by decide) (by omega)]; exact f1 x q1
  have erx : ∀ {J2 t}, jPv J1 J2 t → mr J2 1015 = ρ := fun v => by
    rw [← er]; exact mr_fr (fun a x q1 q2 => by rw [v.2.2.1 _ _ (by omega) (by omega)]; subst e1; exact u2a (by omega))
  have lw' : (adW 14 ((0, fun _ => 0) : pT)).1 = 4 := by
    have lW := adW_l (s := ((0, fun _ => 0) : pT)) (i := 14) (by decide)
    rw [show txN 14 = 4 by decide] at lW
    exact lW
  have x1 := adX_1 (v := w) (s := adW 14 ((0, fun _ => 0) : pT)) (by omega)
  have x2 := adX_1 (v := hh) (s := adX w (adW 14 ((0, fun _ => 0) : pT))) (by omega)
  have x3 := adX_1 (v := h) (s := adX hh (adX w (adW 14 ((0, fun _ => 0) : pT)))) (by omega)
  refine m_word (by decide) v4 (by show (0 : Int) + 8 ≤ 1980; decide) (fun J8 v8 => ?_)
  rw [e1x v8 11 (by decide) (by decide), h11]
  refine m_num (by omega) (by omega) v8 (by omega) (fun J12 v12 => ?_)
  rw [e1x v12 12 (by decide) (by decide), h12]
  refine m_num (by omega) (by omega) v12 (by omega) (fun J16 v16 => ?_)
  rw [e1x v16 13 (by decide) (by decide), h13]
  refine m_num (by omega) (by omega) v16 (by omega) (fun J20 v20 => ?_)
  refine m_add v20 (by omega) (fun J24 v24 => ⟨66, ?_⟩)
  have lH : (adH w hh h).1 = 11 := by unfold adH; rw [ad_l]; omega
  have L : ∀ (k : Nat) (x : Int) (t : pT) (J' : cI), 0 ≤ x → x ≤ n → n - x < k → jPv J1 J' t → t.1 ≤ 11 + 29 * x → adS ρ w (n - x).toNat x t = adS ρ w n.toNat 0 (adH w hh h) → wX12_write_61 Q k x J' := by
    intro k
    induction k with
    | zero => intro x t I' x0 x1 x2; omega
    | succ k ih =>
      intro x t J' x0 x1 x2 hv ht he
      show wbX12_write_61 Q (wX12_write_61 Q k) x J'
      unfold wbX12_write_61
      rw [e1x hv 14 (by decide) (by decide), h14]
      refine ⟨fun c => ?_, fun c => ⟨by omega, fun z2 hz2 => ?_⟩⟩
      · rw [show (n - x).toNat = 0 by omega] at he
        have he' : t = _ := he
        rw [hv.1, he']
        rw [he'] at hv
        rw [e1] at hv
        exact hQ J' hv
      · have gx := g x x0 (by omega)
        have z2e : z2 = ρ x 0 := by rw [hz2, ← erx hv]; exact mr0.symm
        clear hz2
        subst z2e
        have g0 := gx.1
        have g1 := gx.2.1
        have hk := kind_b (ρ x 0).toNat (by omega)
        have ht9 := txN_b (ρ x 0).toNat (by omega)
        have hnu : nuT (ρ x 0) = kA (ρ x 0).toNat := by have := hk.2.1; rw [Int.toNat_of_nonneg g0] at this; exact this
        have lR := adR_l (w := w) (s := t) gx
        have hM := adM_l (s := adW (ρ x 0).toNat t) gx
        have lW := adW_l (s := t) (i := (ρ x 0).toNat) (by omega)
        rw [lW] at hM
        have n3 := gx.2.2.2.2.2.2.1
        have n5 := gx.2.2.2.2.2.2.2.1
        have h198 : ∀ (J2 : cI), jPv J1 J2 (adR (ρ x) w t) → wX12_write_198 Q (wX12_write_61 Q k) x J2 := fun J2 v2 => m_add v2 (by omega) (fun J3 v3 => ⟨by unfold inR; omega, fun z hz => by
          subst hz
          refine ih (x + 1) _ J3 (by omega) (by omega) (by omega) v3 (by rw [ad_l]; omega) ?_
          rw [← he, show (n - x).toNat = (n - (x + 1)).toNat + 1 by omega]
          rfl⟩)
        have h122 : ∀ (J2 : cI), jPv J1 J2 (adM (ρ x) (adW (ρ x 0).toNat t)) → wX12_write_122 Q (wX12_write_61 Q k) x (ρ x 0) J2 := fun J2 v2 => by
          have L2 : ∀ (k2 : Nat) (y : Int) (t2 : pT) (J' : cI), 0 ≤ y → y ≤ ρ x 3 → ρ x 3 - y < k2 → jPv J1 J' t2 → t2.1 ≤ (adM (ρ x) (adW (ρ x 0).toNat t)).1 + 3 * y → itF (fun i s => adC (ρ x (4 + i)) w s) (ρ x 3 - y).toNat y t2 = itF (fun i s => adC (ρ x (4 + i)) w s) (ρ x 3).toNat 0 (adM (ρ x) (adW (ρ x 0).toNat t)) → wX12_write_124 Q (wX12_write_61 Q k) k2 x (ρ x 0) y J' := by
            intro k2
            induction k2 with
            | zero => intro y t2 I' y0 y1 y2; omega
            | succ k2 ih2 =>
              intro y t2 J' y0 y1 y2 hv2 ht2 he2
              show wbX12_write_124 Q (wX12_write_61 Q k) (wX12_write_124 Q (wX12_write_61 Q k) k2) x (ρ x 0) y J'
              unfold wbX12_write_124
              have e18 : J' 1018 x = ρ x 3 := by rw [← erx hv2]; exact mr3.symm
              have e16 : J' 1016 x = ρ x 1 := by rw [← erx hv2]; exact mr1.symm
              rw [e18, e16]
              refine ⟨by omega, fun c => ?_, fun c => ?_⟩
              · rw [show (ρ x 3 - y).toNat = 0 by omega] at he2
                have he' : t2 = _ := he2
                refine ⟨fun c9 => h198 J' ?_, fun c9 => ⟨by omega, m_num gx.2.2.1 gx.2.2.2.1 hv2 (by omega) (fun J4 v4 => h198 J4 ?_)⟩⟩
                · unfold adR; rw [if_neg c9, ← he']; exact hv2
                · unfold adR; rw [if_pos c9, ← he']; exact v4
              · have hc := gx.2.2.2.2.2.2.2.2.2.2.2.1 y y0 (by omega)
                have cell : ∀ {J2 : cI} {t3}, jPv J1 J2 t3 → J2 1019 (5 * x + y) = ρ x (4 + y) := fun v => by rw [← erx v]; exact (mr4 y0).symm
                have d0 : 0 ≤ ρ x (4 + y) / w := Int.ediv_nonneg hc.1 (by omega)
                have d1 : ρ x (4 + y) / w ≤ ρ x (4 + y) := Int.ediv_le_self w hc.1
                have m0 := Int.emod_nonneg (ρ x (4 + y)) (show w ≠ 0 by omega)
                have m1 := Int.emod_lt_of_pos (ρ x (4 + y)) (show 0 < w by omega)
                refine m_add hv2 (by omega) (fun J8 v8 => ⟨by omega, ?_⟩)
                rw [cell v8]
                dsimp only
                rw [e1x v8 11 (by decide) (by decide), h11]
                refine ⟨⟨hc.1, by omega⟩, by unfold inR; omega, m_add v8 (by rw [ad_l]; omega) (fun J18 v18 => ⟨by omega, ?_⟩)⟩
                rw [cell v18]
                dsimp only
                rw [e1x v18 11 (by decide) (by decide), h11]
                refine ⟨⟨hc.1, by omega⟩, by unfold inR; omega, m_add v18 (by rw [ad_l, ad_l]; omega) (fun J28 v28 => ⟨by unfold inR; omega, fun z hz => ?_⟩)⟩
                subst hz
                refine ih2 (y + 1) _ J28 (by omega) (by omega) (by omega) v28 (by rw [ad_l, ad_l, ad_l]; omega) ?_
                rw [← he2, show (ρ x 3 - y).toNat = (ρ x 3 - (y + 1)).toNat + 1 by omega]
                rfl
          exact ⟨6, L2 6 0 _ J2 (Int.le_refl 0) n3 (by omega) v2 (by omega) (by rw [Int.sub_zero])⟩
        have h103 : ∀ (J2 : cI), jPv J1 J2 (if kA (ρ x 0).toNat ≤ 0 then adW (ρ x 0).toNat t else adX (ρ x 1) (adW (ρ x 0).toNat t)) → wX12_write_103 Q (wX12_write_61 Q k) x (ρ x 0) J2 := fun J2 v2 => by
          unfold wX12_write_103
          rw [hnu, show J2 1017 x = ρ x 2 by rw [← erx v2]; exact mr2.symm]
          refine ⟨by omega, fun c => h122 J2 ?_, fun c => ⟨by omega, m_num gx.2.2.2.2.1 (by have := gx.2.2.2.2.2.1; omega) v2 ?_ (fun J3 v3 => h122 J3 ?_)⟩⟩
          · unfold adM; rw [if_pos c]; exact v2
          · have := adX_l (v := ρ x 1) (s := adW (ρ x 0).toNat t)
            split <;> omega
          · unfold adM; rw [if_neg c]; exact v3
        refine ⟨by omega, m_word (by omega) hv (by omega) (fun J6 v6 => ⟨by omega, ?_⟩)⟩
        rw [hnu, show J6 1016 x = ρ x 1 by rw [← erx v6]; exact mr1.symm]
        exact ⟨fun c => h103 J6 (by rw [if_pos c]; exact v6), fun c => ⟨by omega, m_num gx.2.2.1 gx.2.2.2.1 v6 (by omega) (fun J12 v12 => h103 J12 (by rw [if_neg c]; exact v12))⟩⟩
  exact L 66 0 _ J24 (Int.le_refl 0) n0 (by omega) v24 (by show (adH w hh h).1 ≤ 11 + 29 * 0; omega) (by rw [Int.sub_zero]; rfl)
end PM2
theorem adS_l {ρ : Int → Int → Int} {m n w : Int} (g : gp m n ρ) : ∀ (k : Nat) (x : Int) (s : pT), 0 ≤ x → x + k ≤ n → s.1 ≤ (adS ρ w k x s).1 ∧ (adS ρ w k x s).1 ≤ s.1 + 29 * k := by
  intro k
  induction k with
  | zero => intro x s x0 x1; show s.1 ≤ s.1 ∧ s.1 ≤ s.1 + 29 * ((0 : Nat) : Int); omega
  | succ k ih =>
    intro x s x0 x1
    have l := adR_l (w := w) (s := s) (g x x0 (by omega))
    have h := ih (x + 1) (ad 59 (adR (ρ x) w s)) (by omega) (by omega)
    rw [ad_l] at h
    have e : adS ρ w (k + 1) x s = adS ρ w k (x + 1) (ad 59 (adR (ρ x) w s)) := rfl
    rw [e]
    omega
section ST6
variable {I : cI} {R : cR} {J : cI}
theorem st_write (h : INV I R J) : wX11_write I R (okN (wX12_write J)) (okX (xf 1 0 0) (wX12_write J)) := by
  have h0 := INV_0 (v := 0) h
  have hb := vM_b h.2.1
  have hs := h.2.1.1
  have hn := h.2.1.2
  refine c_reqPuzzle h (fun hw => ?_) (fun hw => ⟨by decide, fun J1 e1 => ?_⟩)
  · have hB := INV_pB h hw
    refine c_show (w := J 1000 11) (hh := J 1000 12) hB h.1.2.2.2.1 h.1.2.2.2.2.1 (by omega) (by omega) (by omega) (by omega) (fun I' v => ?_)
    rw [v.1]
    refine m_show (m := vM J) rfl rfl rfl rfl rfl h.2.1.2.2.2.1 hb.2.1 (by omega) (by omega) (by omega) (by omega) (by omega) (by omega) hn.1 hn.2.1 (fun J' u => ⟨by rw [u.2.2.1 _ _ (by decide) (by omega)]; exact u2e, rfl, ?_⟩)
    have lS := adS_l (w := J 1000 11) h.2.1.2.2.2.1 (J 1000 14).toNat 0 (adH (J 1000 11) (J 1000 12) (J 1000 13)) (Int.le_refl 0) (by have := hn.1; omega)
    have lH : (adH (J 1000 11) (J 1000 12) (J 1000 13)).1 ≤ 20 := by
      have lW := adW_l (s := ((0, fun _ => 0) : pT)) (i := 14) (by decide)
      rw [show txN 14 = 4 by decide] at lW
      have lw' : (adW 14 ((0, fun _ => 0) : pT)).1 = 4 := lW
      have x1 := adX_1 (v := J 1000 11) (s := adW 14 ((0, fun _ => 0) : pT)) (by omega)
      have x2 := adX_1 (v := J 1000 12) (s := adX (J 1000 11) (adW 14 ((0, fun _ => 0) : pT))) (by omega)
      have x3 := adX_1 (v := J 1000 13) (s := adX (J 1000 12) (adX (J 1000 11) (adW 14 ((0, fun _ => 0) : pT)))) (by omega)
      unfold adH; rw [ad_l]; omega
    have lH2 : (adH (J 1000 11) (J 1000 12) (J 1000 13)).1 = 11 := by
      have lW := adW_l (s := ((0, fun _ => 0) : pT)) (i := 14) (by decide)
      rw [show txN 14 = 4 by decide] at lW
      have lw' : (adW 14 ((0, fun _ => 0) : pT)).1 = 4 := lW
      have x1 := adX_1 (v := J 1000 11) (s := adW 14 ((0, fun _ => 0) : pT)) (by omega)
      have x2 := adX_1 (v := J 1000 12) (s := adX (J 1000 11) (adW 14 ((0, fun _ => 0) : pT))) (by omega)
      have x3 := adX_1 (v := J 1000 13) (s := adX (J 1000 12) (adX (J 1000 11) (adW 14 ((0, fun _ => 0) : pT)))) (by omega)
      unfold adH; rw [ad_l]; omega
    have n1 := hn.2.1
    generalize hT : adS (mr J 1015) (J 1000 11) (J 1000 14).toNat 0 (adH (J 1000 11) (J 1000 12) (J 1000 13)) = T at *
    obtain ⟨p, vp, s, t, w, k, x⟩ := h0
    have f := v.2.2.1
    have g := u.2.2.1
    have j : smP (up2 J 1000 0 0) J' := ⟨fun b y q1 q2 => g _ _ (by omega) (by omega), g _ _ (by omega) (by omega), g _ _ (by omega) (by omega), g _ _ (by omega) (by omega), g _ _ (by omega) (by omega)⟩
    exact ⟨iP_fr p vp (fun b y q => f _ _ (by omega) (by omega)) j, vP_fr vp j,
      iS_fr s (fun y => f _ _ (by omega) (by omega)) (fun y => f _ _ (by omega) (by omega)) (f _ _ (by omega) (by omega)) (f _ _ (by omega) (by omega)) (fun y => g _ _ (by omega) (by omega)) (g _ _ (by omega) (by omega)) (g _ _ (by omega) (by omega)),
      iT_fr t (fun y => f _ _ (by omega) (by omega)) (f _ _ (by omega) (by omega)) (fun y => g _ _ (by omega) (by omega)) (g _ _ (by omega) (by omega)),
      ⟨by rw [v.1, u.1], by rw [u.1]; exact u.2.2.2, by rw [u.1]; omega, fun y y0 y1 => by rw [u.1] at y1; rw [v.2.1 y y0 y1, u.2.1 y y0 y1]⟩,
      iK_fr k (fun b y z1 z2 => f _ _ (by omega) (by omega)) (f _ _ (by omega) (by omega)) (f _ _ (by omega) (by omega)) (fun y => g _ _ (by omega) (by omega)) (g _ _ (by omega) (by omega)) (g _ _ (by omega) (by omega)) (smP_M j),
      iE_fr x (f _ _ (by omega) (by omega)) (g _ _ (by omega) (by omega))⟩
  · subst e1
    exact ⟨fun c => absurd (show up2 J 1000 0 0 1000 11 = 0 by rw [u2x (by decide)]; exact hw) c, fun _ => m_no ⟨u2e, INV_0 h0⟩⟩
end ST6
