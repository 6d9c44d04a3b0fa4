/-! ===== the first deduction ===== -/
def fr2 (σ : Int → Int) (h : Int) (S : Int → Int) (x w : Int) : Prop := 0 ≤ x ∧ x < σ 3 ∧ 1 ≤ w ∧ w ≤ h ∧ rf σ h S x w ∧ ∀ x' w', 0 ≤ x' → x' < σ 3 → 1 ≤ w' → w' ≤ h → (x' < x ∨ (x' = x ∧ w' < w)) → ¬ rf σ h S x' w'
def no2 (σ : Int → Int) (h : Int) (S : Int → Int) : Prop := ∀ x w, 0 ≤ x → x < σ 3 → 1 ≤ w → w ≤ h → ¬ rf σ h S x w
def fr3 (ρ : Int → Int → Int) (n h : Int) (S : Int → Int) (i x w : Int) : Prop := 0 ≤ i ∧ i < n ∧ fr2 (ρ i) h S x w ∧ ∀ j, 0 ≤ j → j < i → no2 (ρ j) h S
def no3 (ρ : Int → Int → Int) (n h : Int) (S : Int → Int) : Prop := ∀ j, 0 ≤ j → j < n → no2 (ρ j) h S
theorem fr2_u {σ : Int → Int} {h : Int} {S : Int → Int} {x w x' w' : Int} (a : fr2 σ h S x w) (b : fr2 σ h S x' w') : x = x' ∧ w = w' := by
  obtain ⟨a1, a2, a3, a4, a5, a6⟩ := a
  obtain ⟨b1, b2, b3, b4, b5, b6⟩ := b
  have h1 := a6 x' w' b1 b2 b3 b4
  have h2 := b6 x w a1 a2 a3 a4
  by_cases c1 : x' < x ∨ (x' = x ∧ w' < w)
  · exact absurd b5 (h1 c1)
  · by_cases c2 : x < x' ∨ (x = x' ∧ w < w')
    · exact absurd a5 (h2 c2)
    · omega
theorem fr3_u {ρ : Int → Int → Int} {n h : Int} {S : Int → Int} {i x w i' x' w' : Int} (a : fr3 ρ n h S i x w) (b : fr3 ρ n h S i' x' w') : i = i' ∧ x = x' ∧ w = w' := by
  have e : i = i' := by
    by_cases c : i < i'
    · exact absurd a.2.2.1.2.2.2.2.1 (b.2.2.2 i a.1 c x w a.2.2.1.1 a.2.2.1.2.1 a.2.2.1.2.2.1 a.2.2.1.2.2.2.1)
    · by_cases c' : i' < i
      · exact absurd b.2.2.1.2.2.2.2.1 (a.2.2.2 i' b.1 c' x' w' b.2.2.1.1 b.2.2.1.2.1 b.2.2.1.2.2.1 b.2.2.1.2.2.2.1)
      · omega
  subst e
  exact ⟨rfl, fr2_u a.2.2.1 b.2.2.1⟩
theorem fr3_n {ρ : Int → Int → Int} {n h : Int} {S : Int → Int} {i x w : Int} (a : fr3 ρ n h S i x w) (b : no3 ρ n h S) : False := b i a.1 a.2.1 x w a.2.2.1.1 a.2.2.1.2.1 a.2.2.1.2.2.1 a.2.2.1.2.2.2.1 a.2.2.1.2.2.2.2.1
def fF (I0 I : cI) : Prop := (∀ a y, ¬ (a = 82 ∨ (a = 80 ∧ 3 ≤ y)) → I a y = I0 a y) ∧ (∀ c, 0 ≤ c → c < 25 → 0 ≤ I 82 c ∧ I 82 c ≤ 5)
section FC
variable {h : Int} {I0 : cI} {R : cR}
theorem c_firstBy {r : Nat} {σ S : Int → Int} {Q : Int → cI → cR → Prop} (hr : isR r) (hh : 0 ≤ h ∧ h ≤ 5) (hv : rv I0 R r σ) (hg : gr 25 σ) (hS : ∀ c, 0 ≤ c → c < 25 → I0 81 c = S c) (h82 : ∀ c, 0 ≤ c → c < 25 → 0 ≤ I0 82 c ∧ I0 82 c ≤ 5)
    (q0 : no2 σ h S → ∀ I, fF I0 I → Q 0 I R) (q1 : ∀ x w, fr2 σ h S x w → ∀ I, fF I0 I → I 80 4 = σ (4 + x) → I 80 5 = w → I 80 6 = gd σ S → Q 1 I R) : wX6_findFirstBy r h I0 R Q := by
  have hr' := hr
  unfold isR at hr'
  have hg' := hg
  obtain ⟨g0, g1, g2, g3, g4, g5, g6, g7, g8, g9, g10, g11, g12⟩ := hg'
  have Li : ∀ (K : Int → cI → cR → Prop) (x : Int), 0 ≤ x → x < σ 3 → ∀ (m : Nat) (w : Int) (I : cI), 1 ≤ w → w ≤ h + 1 → h + 1 - w < m → f82 I0 I → (∀ x' w', 0 ≤ x' → x' < σ 3 → 1 ≤ w' → w' ≤ h → (x' < x ∨ (x' = x ∧ w' < w)) → ¬ rf σ h S x' w') →
      ((∀ x' w', 0 ≤ x' → x' < σ 3 → 1 ≤ w' → w' ≤ h → x' < x + 1 → ¬ rf σ h S x' w') → ∀ I, f82 I0 I → K (x + 1) I R) → wX6_findFirstBy_13 Q r h K m x w I R := by
    intro K x x0 x1 m
    induction m with
    | zero => intro w I w0 w1 w2; omega
    | succ m ih =>
      intro w I w0 w1 w2 hf he hK
      show wbX6_findFirstBy_13 Q r h K (wX6_findFirstBy_13 Q r h K m) x w I R
      unfold wbX6_findFirstBy_13
      refine ⟨fun e => ⟨by unfold inR; omega, fun z hz => ?_⟩, fun e => ?_⟩
      · subst hz
        exact hK (fun x' w' a0 a1 a2 a3 a4 => he x' w' a0 a1 a2 a3 (by omega)) I hf
      · have hvI : rv I R r σ := rv_fr (fun y => hf.1 r y (by omega)) (fun y => hf.1 _ y (by omega)) hv
        refine c_ref (S := S) hr hh hvI hg ⟨x0, x1⟩ ⟨w0, by omega⟩ (fun c c0 c1 => (hf.1 81 c (by decide)).trans (hS c c0 c1)) ⟨fun _ _ _ => rfl, hf.2⟩ (fun I5 h5 => ?_)
        have hf5 : f82 I0 I5 := f82_t hf h5
        by_cases rr : rf σ h S x w
        · rw [b2_t rr]
          refine ⟨fun n => absurd n (by decide), fun _ => ⟨by omega, fun I13 e13 I16 e16 => ?_⟩⟩
          have hvI5 : rv I5 R r σ := rv_fr (fun y => hf5.1 r y (by omega)) (fun y => hf5.1 _ y (by omega)) hv
          rw [hvI5.2.2.2.2.1 x x0 x1] at e13
          have hv16 : rv I16 R r σ := rv_fr (fun y => by subst e16; subst e13; rw [u2a (by omega), u2a (by omega)]) (fun y => by subst e16; subst e13; rw [u2a (by omega), u2a (by omega)]) hvI5
          refine c_grade (S := S) hv16 hg (fun c c0 c1 => by subst e16; subst e13; rw [u2a (by decide), u2a (by decide)]; exact (hf5.1 81 c (by decide)).trans (hS c c0 c1)) (fun I24 e24 => ?_)
          refine q1 x w ⟨x0, x1, w0, by omega, rr, he⟩ I24 ⟨fun a y q => ?_, fun c c0 c1 => ?_⟩ ?_ ?_ ?_
          · subst e24; subst e16; subst e13
            rw [u2n (by omega), u2n (by omega), u2n (by omega)]; exact hf5.1 a y (by omega)
          · subst e24; subst e16; subst e13
            rw [u2a (by decide), u2a (by decide), u2a (by decide)]; exact hf5.2 c c0 c1
          · subst e24; subst e16; subst e13
            rw [u2x (by decide), u2x (by decide), u2e]
          · subst e24; subst e16
            rw [u2x (by decide), u2e]
          · subst e24; exact u2e
        · rw [b2_f rr]
          refine ⟨fun _ => ⟨by unfold inR; omega, fun z hz => ?_⟩, fun n => absurd rfl n⟩
          subst hz
          refine ih (w + 1) I5 (by omega) (by omega) (by omega) hf5 (fun x' w' a0 a1 a2 a3 a4 => ?_) hK
          by_cases c : x' = x ∧ w' = w
          · rw [c.1, c.2]; exact rr
          · exact he x' w' a0 a1 a2 a3 (by omega)
  have L : ∀ (m : Nat) (x : Int) (I : cI), 0 ≤ x → x ≤ σ 3 → σ 3 - x < m → f82 I0 I → (∀ x' w', 0 ≤ x' → x' < σ 3 → 1 ≤ w' → w' ≤ h → x' < x → ¬ rf σ h S x' w') → wX6_findFirstBy_2 Q r h m x I R := by
    intro m
    induction m with
    | zero => intro x I x0 x1 x2; omega
    | succ m ih =>
      intro x I x0 x1 x2 hf he
      show wbX6_findFirstBy_2 Q r h (wX6_findFirstBy_2 Q r h m) x I R
      unfold wbX6_findFirstBy_2
      have hvI : rv I R r σ := rv_fr (fun y => hf.1 r y (by omega)) (fun y => hf.1 _ y (by omega)) hv
      rw [hvI.2.2.2.1]
      refine ⟨fun e => q0 (fun x' w' a0 a1 a2 a3 => he x' w' a0 a1 a2 a3 (by omega)) I ⟨fun a y q => hf.1 a y (by omega), hf.2⟩, fun e => ⟨7, ?_⟩⟩
      exact Li _ x x0 (by omega) 7 1 I (by decide) (by omega) (by omega) hf (fun x' w' a0 a1 a2 a3 a4 => he x' w' a0 a1 a2 a3 (by omega)) (fun he2 I2 hf2 => ih (x + 1) I2 (by omega) (by omega) (by omega) hf2 he2)
  exact ⟨7, L 7 0 I0 (by decide) g6 (by omega) ⟨fun _ _ _ => rfl, h82⟩ (fun x' w' a0 a1 a2 a3 a4 => by omega)⟩
theorem c_first {p : Nat} {n : Int} {ρ : Int → Int → Int} {S : Int → Int} {Q : Int → cI → cR → Prop} (hp : okp R p) (hh : 0 ≤ h ∧ h ≤ 5) (e2 : I0 p 2 = h) (e5 : I0 p 5 = n) (hv : pv I0 R p n ρ) (hg : gp 25 n ρ) (hn : 0 ≤ n ∧ n ≤ 65) (hS : ∀ c, 0 ≤ c → c < 25 → I0 81 c = S c) (h82 : ∀ c, 0 ≤ c → c < 25 → 0 ≤ I0 82 c ∧ I0 82 c ≤ 5)
    (q0 : no3 ρ n h S → ∀ I, fF I0 I → Q 0 I R) (q1 : ∀ i x w, fr3 ρ n h S i x w → ∀ I, fF I0 I → I 80 3 = i → I 80 4 = ρ i (4 + x) → I 80 5 = w → I 80 6 = gd (ρ i) S → Q 1 I R) : wX6_findFirst p I0 R Q := by
  have hp' : p = 85 ∨ p = 89 := hp.1
  have L : ∀ (m : Nat) (i : Int) (I : cI), 0 ≤ i → i ≤ n → n - i < m → fF I0 I → (∀ j, 0 ≤ j → j < i → no2 (ρ j) h S) → wX6_findFirst_2 Q p m i I R := by
    intro m
    induction m with
    | zero => intro i I i0 i1 i2; omega
    | succ m ih =>
      intro i I i0 i1 i2 hf he
      show wbX6_findFirst_2 Q p (wX6_findFirst_2 Q p m) i I R
      unfold wbX6_findFirst_2
      rw [hf.1 p 5 (by omega), e5, hf.1 p 2 (by omega), e2]
      refine ⟨fun e => q0 (fun j j0 j1 => he j j0 (by omega)) I hf, fun e => ⟨by omega, ?_⟩⟩
      have hri := okp_isR hp i0 (show i < 65 by omega)
      have hvI : rv I R (R (p + 2) i) (ρ i) := rv_fr (fun y => hf.1 _ y (by omega)) (fun y => hf.1 _ y (by omega)) (hv i i0 (by omega))
      refine c_firstBy (S := S) (rg_R (hp.2.1 i i0 (by omega))) hh hvI (hg i i0 (by omega)) (fun c c0 c1 => (hf.1 81 c (by omega)).trans (hS c c0 c1)) hf.2 (fun no I3 hf3 => ⟨fun _ => ⟨by unfold inR; omega, fun z hz => ?_⟩, fun w => absurd rfl w⟩) (fun x w hx I3 hf3 k4 k5 k6 => ⟨fun w => absurd w (by decide), fun _ I10 e10 => ?_⟩)
      · subst hz
        refine ih (i + 1) I3 (by omega) (by omega) (by omega) ⟨fun a y q => (hf3.1 a y q).trans (hf.1 a y q), hf3.2⟩ (fun j j0 j1 => ?_)
        by_cases c : j = i
        · subst c; exact no
        · exact he j j0 (by omega)
      · subst e10
        refine q1 i x w ⟨i0, by omega, hx, he⟩ _ ⟨fun a y q => ?_, fun c c0 c1 => ?_⟩ u2e ?_ ?_ ?_
        · rw [u2n (by omega)]; exact (hf3.1 a y q).trans (hf.1 a y q)
        · rw [u2a (by decide)]; exact hf3.2 c c0 c1
        · rw [u2x (by decide)]; exact k4
        · rw [u2x (by decide)]; exact k5
        · rw [u2x (by decide)]; exact k6
  exact ⟨67, L 67 0 I0 (by decide) hn.1 (by omega) ⟨fun _ _ _ => rfl, h82⟩ (fun j j0 j1 => by omega)⟩
end FC
def fFM (J0 J : cI) : Prop := ∀ a y, ¬ (a = 1021 ∨ a = 1042) → J a y = J0 a y
section FM
variable {n h : Int} {J0 : cI} {S : Int → Int} {Q : Int → cI → Prop}
end FM
