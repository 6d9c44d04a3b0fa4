/-! ===== whole searches ===== -/
def st0 : sT := (fun _ => 0, 0, 0, fun _ _ => 0)
/-- how many were found; what is answered -/
def fnd (r : Int × sT) : Int := if r.1 = 2 then 0 else r.2.2.2.1
def rsl (r : Int × sT) : Int := if r.1 = 2 then -1 else r.2.2.2.1
theorem gS_0 {P : sP} (h : goP P) : gS P st0 := ⟨fun _ _ _ => ⟨Int.le_refl 0, by show (0 : Int) ≤ 5; decide⟩, Int.le_refl 0, by show (0 : Int) ≤ 5000; decide, Int.le_refl 0, by have := h.1; show 0 < P.1; omega⟩
theorem c_begin {s : Nat} {a b : Int} {I : cI} {R : cR} {Q : cI → cR → Prop} (hs : isS s)
    (hQ : ∀ I', (∀ a x, (a < s ∨ s + 35 ≤ a) → I' a x = I a x) → I' s 7 = a → I' s 6 = b → I' s 1 = 0 → I' s 2 = 0 → I' s 8 = 0 → (∀ c, 0 ≤ c → c < 25 → I' (s + 2) c = 0 ∧ I' (s + 3) c = 0 ∧ I' (s + 4) c = 1) → Q I' R) : wX8_begin s a b I R Q := by
  unfold wX8_begin
  intro I1 e1 I2 e2 I3 e3 I4 e4 I5 e5
  have L : ∀ (m : Nat) (x : Int) (I' : cI), 0 ≤ x → x ≤ 25 → 25 - x < m → (∀ a x, (a < s ∨ s + 35 ≤ a) → I' a x = I a x) → I' s 7 = a → I' s 6 = b → I' s 1 = 0 → I' s 2 = 0 → I' s 8 = 0 → (∀ c, 0 ≤ c → c < x → I' (s + 2) c = 0 ∧ I' (s + 3) c = 0 ∧ I' (s + 4) c = 1) → wX8_begin_27 Q s a b m x I' R := by
    intro m
    induction m with
    | zero => intro x I' h0 h1 h2; omega
    | succ m ih =>
      intro x I' x0 x1 x2 h1 h2 h3 h4 h5 h6 h7
      show wbX8_begin_27 Q s a b (wX8_begin_27 Q s a b m) x I' R
      unfold wbX8_begin_27
      refine ⟨fun e => hQ I' h1 h2 h3 h4 h5 h6 (fun c c0 c1 => h7 c c0 (by omega)), fun e => ⟨by omega, fun J1 f1 => ⟨by omega, fun J2 f2 => ⟨by omega, fun J3 f3 => ⟨by unfold inR; omega, fun z hz => ?_⟩⟩⟩⟩⟩
      subst f1; subst f2; subst f3; subst hz
      refine ih (x + 1) _ (by omega) (by omega) (by omega) (fun a y q => ?_) ?_ ?_ ?_ ?_ ?_ (fun c c0 c1 => ?_)
      · rw [u2a (by omega), u2a (by omega), u2a (by omega)]; exact h1 a y q
      · rw [u2a (by omega), u2a (by omega), u2a (by omega)]; exact h2
      · rw [u2a (by omega), u2a (by omega), u2a (by omega)]; exact h3
      · rw [u2a (by omega), u2a (by omega), u2a (by omega)]; exact h4
      · rw [u2a (by omega), u2a (by omega), u2a (by omega)]; exact h5
      · rw [u2a (by omega), u2a (by omega), u2a (by omega)]; exact h6
      · refine ⟨?_, ?_, ?_⟩
        · rw [u2a (by omega), u2a (by omega)]
          by_cases e : c = x
          · subst e; exact u2e
          · rw [u2x e]; exact (h7 c c0 (by omega)).1
        · rw [u2a (by omega)]
          by_cases e : c = x
          · subst e; exact u2e
          · rw [u2x e, u2a (by omega)]; exact (h7 c c0 (by omega)).2.1
        · by_cases e : c = x
          · subst e; exact u2e
          · rw [u2x e, u2a (by omega), u2a (by omega)]; exact (h7 c c0 (by omega)).2.2
  subst e1; subst e2; subst e3; subst e4; subst e5
  refine ⟨26, L 26 0 _ (by omega) (by omega) (by omega) (fun a y q => ?_) ?_ ?_ ?_ ?_ ?_ (fun c c0 c1 => by omega)⟩
  · rw [u2a (by omega), u2a (by omega), u2a (by omega), u2a (by omega), u2a (by omega)]
  · rw [u2x (by decide), u2x (by decide), u2x (by decide), u2x (by decide), u2e]
  · rw [u2x (by decide), u2x (by decide), u2x (by decide), u2e]
  · rw [u2x (by decide), u2x (by decide), u2e]
  · rw [u2x (by decide), u2e]
  · rw [u2e]
/-- the puzzle itself, as the class holds it -/
def pB (p : Nat) (I : cI) (R : cR) (M n h : Int) (ρ : Int → Int → Int) : Prop :=
  okp R p ∧ I p 0 * I p 1 = M ∧ I p 2 = h ∧ I p 5 = n ∧ pv I R p n ρ ∧ gp M n ρ ∧ 0 ≤ n ∧ n ≤ 65 ∧ 1 ≤ M ∧ M ≤ 25 ∧ 1 ≤ h ∧ h ≤ 5
theorem pB_fr {p : Nat} {I I' : cI} {R : cR} {M n h : Int} {ρ : Int → Int → Int} (hB : pB p I R M n h ρ) (f : ∀ a x, 85 ≤ a → I' a x = I a x) : pB p I' R M n h ρ := by
  obtain ⟨b1, b2, b3, b4, b5, b6, b7, b8, b9⟩ := hB
  have hp : p = 85 ∨ p = 89 := b1.1
  exact ⟨b1, by rw [f p 0 (by omega), f p 1 (by omega)]; exact b2, by rw [f p 2 (by omega)]; exact b3, by rw [f p 5 (by omega)]; exact b4, pv_fr b1 b8 (fun a x q => f a x (by omega)) b5, b6, b7, b8, b9⟩
/-- the search that a puzzle is put to -/
def sPr (most h n wo : Int) (ρ : Int → Int → Int) (on fi : Int → Int) : sP := (most, h, on, fi, fun c v => am ρ n h c v wo)
/-- the class runs a search that is set up -/
theorem c_run {s p : Nat} {I : cI} {R : cR} {M n h wo most : Int} {ρ : Int → Int → Int} {on fi : Int → Int} {Q : Int → cI → cR → Prop} (hs : isS s) (hB : pB p I R M n h ρ) (hP : goP (sPr most h n wo ρ on fi))
    (h7 : I s 7 = most) (h6 : I s 6 = wo) (h1 : I s 1 = 0) (h2 : I s 2 = 0) (h8 : I s 8 = 0) (hv : ∀ c, 0 ≤ c → c < 25 → I (s + 2) c = 0 ∧ I (s + 3) c = on c ∧ I (s + 4) c = fi c)
    (hQ : ∀ z I', (∀ a x, (a < s ∨ s + 35 ≤ a) → I' a x = I a x) → I' s 1 = fnd (dfs (sPr most h n wo ρ on fi) M.toNat 0 st0) → I' s 2 = (dfs (sPr most h n wo ρ on fi) M.toNat 0 st0).2.2.1 → I' s 8 = (if (dfs (sPr most h n wo ρ on fi) M.toNat 0 st0).1 = 2 then 1 else 0) →
      (∀ i c, 0 ≤ i → i < fnd (dfs (sPr most h n wo ρ on fi) M.toNat 0 st0) → 0 ≤ c → c < 25 → I' (s + 5 + i.toNat) c = (dfs (sPr most h n wo ρ on fi) M.toNat 0 st0).2.2.2.2 i c) → Q z I' R) : wX8_endsFrom 27 s p 0 I R Q := by
  obtain ⟨b1, b2, b3, b4, b5, b6, b7, b8, b9, b10, b11, b12⟩ := hB
  refine c_dfs (M := M) (n := n) (wo := wo) (ρ := ρ) (P := sPr most h n wo ρ on fi) (I0 := I) ⟨hs, b1, b2, b3, b4, b5, b6, b7, b8, b9, b10, h7, h6, fun c c0 c1 => (hv c c0 c1).2.1, fun c c0 c1 => (hv c c0 c1).2.2, fun _ _ => Iff.rfl⟩ hP M.toNat 0 27 st0 I Q (by omega) (by omega) (by omega) (gS_0 hP) fS_r
    ⟨fun c c0 c1 => (hv c c0 c1).1, h2, h1, fun i c i0 i1 _ _ => absurd (show i < 0 from i1) (by omega), h8⟩ ?_
  generalize dfs (sPr most h n wo ρ on fi) M.toNat 0 st0 = r at *
  unfold fnd at hQ
  refine ⟨fun e I' hf hv => ?_, fun e I' hf hv => ?_, fun e I' hf k2 k1 k8 => ?_⟩
  · rw [if_neg (by omega), if_neg (by omega)] at hQ
    exact hQ _ I' hf.1 hv.2.2.1 hv.2.1 hv.2.2.2.2 hv.2.2.2.1
  · rw [if_neg (by omega), if_neg (by omega)] at hQ
    exact hQ _ I' hf.1 hv.2.2.1 hv.2.1 hv.2.2.2.2 hv.2.2.2.1
  · rw [if_pos e, if_pos e] at hQ
    exact hQ _ I' hf.1 k1 k2 k8 (fun i c i0 i1 _ _ => by omega)
/-- whether there is just one solution, a rule left out -/
def jst (M n h wo : Int) (ρ : Int → Int → Int) : Prop := fnd (dfs (sPr 2 h n wo ρ (fun _ => 0) (fun _ => 1)) M.toNat 0 st0) = 1
theorem goP_2 {h n wo most : Int} {ρ : Int → Int → Int} (h1 : 1 ≤ h) (h2 : h ≤ 5) (h3 : 1 ≤ most) (h4 : most ≤ 30) : goP (sPr most h n wo ρ (fun _ => 0) (fun _ => 1)) :=
  ⟨h3, h4, h1, h2, fun c _ _ => ⟨by show (0 : Int) ≤ 0; omega, by show (0 : Int) ≤ h; omega⟩, fun c _ _ => ⟨by show (1 : Int) ≤ 1; omega, by show (1 : Int) ≤ h; omega⟩⟩
theorem c_just {s p : Nat} {I : cI} {R : cR} {M n h wo : Int} {ρ : Int → Int → Int} {Q : Int → cI → cR → Prop} (hs : isS s) (hB : pB p I R M n h ρ)
    (hQ : ∀ I', (∀ a x, (a < s ∨ s + 35 ≤ a) → I' a x = I a x) → Q (b2 (jst M n h wo ρ)) I' R) : wX8_findsJustOne s p wo I R Q := by
  have hs' : s = 10 ∨ s = 45 := hs
  have hB' := hB
  obtain ⟨b1, b2, b3, b4, b5, b6, b7, b8, b9, b10, b11, b12⟩ := hB'
  unfold wX8_findsJustOne
  refine c_begin hs (fun I1 f1 k7 k6 k1 k2 k8 kv => ?_)
  refine c_run (M := M) (n := n) (h := h) (ρ := ρ) (on := fun _ => 0) (fi := fun _ => 1) hs (pB_fr hB (fun a x q => f1 a x (by omega))) (goP_2 b11 b12 (by decide) (by decide)) k7 k6 k1 k2 k8 kv (fun z I2 f2 g1 g2 g8 g3 => ?_)
  have hQ' := hQ I2 (fun a x q => (f2 a x q).trans (f1 a x q))
  obtain ⟨q1, q0⟩ := b2_q (Q := fun z => Q z I2 R) hQ'
  unfold jst at q1 q0
  exact ⟨fun e => q0 (fun w => e (g1.trans w)), fun e => q1 (g1.symm.trans e)⟩
theorem c_find {s p : Nat} {I : cI} {R : cR} {M n h most : Int} {ρ : Int → Int → Int} {g : Int → Int} {Q : Int → cI → cR → Prop} (hs : isS s) (hB : pB p I R M n h ρ) (hm : 1 ≤ most ∧ most ≤ 30) (hg : ∀ c, 0 ≤ c → c < M → I (p + 1) c = g c) (hg0 : ∀ c, M ≤ c → g c = 0) (hgb : ∀ c, 0 ≤ g c ∧ g c ≤ h)
    (hQ : ∀ I', (∀ a x, (a < s ∨ s + 35 ≤ a) → I' a x = I a x) → I' s 1 = fnd (dfs (sPr most h n (-1) ρ g (fun _ => 1)) M.toNat 0 st0) → I' s 2 = (dfs (sPr most h n (-1) ρ g (fun _ => 1)) M.toNat 0 st0).2.2.1 →
      (∀ i c, 0 ≤ i → i < fnd (dfs (sPr most h n (-1) ρ g (fun _ => 1)) M.toNat 0 st0) → 0 ≤ c → c < 25 → I' (s + 5 + i.toNat) c = (dfs (sPr most h n (-1) ρ g (fun _ => 1)) M.toNat 0 st0).2.2.2.2 i c) → Q (rsl (dfs (sPr most h n (-1) ρ g (fun _ => 1)) M.toNat 0 st0)) I' R) : wX8_findInGrid s p most I R Q := by
  have hs' : s = 10 ∨ s = 45 := hs
  have hB' := hB
  obtain ⟨b1, b2, b3, b4, b5, b6, b7, b8, b9, b10, b11, b12⟩ := hB'
  have hp : p = 85 ∨ p = 89 := b1.1
  unfold wX8_findInGrid
  refine c_begin hs (fun I1 f1 k7 k6 k1 k2 k8 kv => ⟨27, ?_⟩)
  have L : ∀ (m : Nat) (x : Int) (I' : cI), 0 ≤ x → x ≤ M → M - x < m → (∀ a x, (a < s ∨ s + 35 ≤ a) → I' a x = I a x) → (∀ y, I' s y = I1 s y) → (∀ c, 0 ≤ c → c < 25 → I' (s + 2) c = 0 ∧ I' (s + 3) c = (if c < x then g c else 0) ∧ I' (s + 4) c = 1) → wX8_findInGrid_8 Q s p most m x I' R := by
    intro m
    induction m with
    | zero => intro x I' h0 h1 h2; omega
    | succ m ih =>
      intro x I' x0 x1 x2 h1 h2 h3
      show wbX8_findInGrid_8 Q s p most (wX8_findInGrid_8 Q s p most m) x I' R
      unfold wbX8_findInGrid_8 wX4_cellCount
      rw [h1 p 0 (by omega), h1 p 1 (by omega), b2]
      refine ⟨by unfold inR; omega, fun e => ?_, fun e => ⟨by omega, by omega, fun J1 f1 => ⟨by unfold inR; omega, fun z hz => ?_⟩⟩⟩
      · refine c_run (M := M) (n := n) (h := h) (ρ := ρ) (most := most) (wo := -1) (on := g) (fi := fun _ => 1) hs (pB_fr hB (fun a x q => h1 a x (by omega))) ⟨hm.1, hm.2, b11, b12, fun c _ _ => hgb c, fun c _ _ => ⟨by show (1 : Int) ≤ 1; omega, by show (1 : Int) ≤ h; omega⟩⟩ ((h2 7).trans k7) ((h2 6).trans k6) ((h2 1).trans k1) ((h2 2).trans k2) ((h2 8).trans k8) (fun c c0 c1 => ⟨(h3 c c0 c1).1, ?_, (h3 c c0 c1).2.2⟩) (fun z I2 f2 g1 g2 g8 g3 => ?_)
        · rw [(h3 c c0 c1).2.1]
          split
          · rfl
          · exact (hg0 c (by omega)).symm
        · have hQ' := hQ I2 (fun a x q => (f2 a x q).trans (h1 a x q)) g1 g2 g3
          unfold rsl at hQ'
          unfold fnd at g1
          refine ⟨fun w => ?_, fun w => ?_⟩
          · rw [g8] at w
            by_cases e2 : (dfs (sPr most h n (-1) ρ g (fun _ => 1)) M.toNat 0 st0).1 = 2
            · rw [if_pos e2] at w; exact absurd w (by decide)
            · rw [if_neg e2] at hQ' g1; rw [g1]; exact hQ'
          · rw [g8] at w
            by_cases e2 : (dfs (sPr most h n (-1) ρ g (fun _ => 1)) M.toNat 0 st0).1 = 2
            · rw [if_pos e2] at hQ'; exact hQ'
            · rw [if_neg e2] at w; exact absurd rfl w
      · subst f1; subst hz
        rw [h1 (p + 1) x (by omega), hg x x0 (by omega)]
        refine ih (x + 1) _ (by omega) (by omega) (by omega) (fun a y q => ?_) (fun y => ?_) (fun c c0 c1 => ⟨?_, ?_, ?_⟩)
        · rw [u2a (by omega)]; exact h1 a y q
        · rw [u2a (by omega)]; exact h2 y
        · rw [u2a (by omega)]; exact (h3 c c0 c1).1
        · by_cases ec : c = x
          · subst ec; rw [u2e, if_pos (by omega)]
          · rw [u2x ec, (h3 c c0 c1).2.1]
            by_cases e3 : c < x
            · rw [if_pos e3, if_pos (by omega)]
            · rw [if_neg e3, if_neg (by omega)]
        · rw [u2a (by omega)]; exact (h3 c c0 c1).2.2
  refine L 27 0 I1 (by omega) (by omega) (by omega) f1 (fun _ => rfl) (fun c c0 c1 => ⟨(kv c c0 c1).1, ?_, (kv c c0 c1).2.2⟩)
  rw [if_neg (by omega)]; exact (kv c c0 c1).2.1
theorem c_one {s p a : Nat} {I : cI} {R : cR} {M n h : Int} {ρ : Int → Int → Int} {g : Int → Int} {Q : Int → cI → cR → Prop} (hs : isS s) (hB : pB p I R M n h ρ) (ha : a < s ∨ s + 35 ≤ a) (hg : ∀ c, 0 ≤ c → c < M → I a c = g c) (hg0 : ∀ c, M ≤ c → g c = 1) (hgb : ∀ c, 1 ≤ g c ∧ g c ≤ h)
    (hQ : ∀ I', (∀ a x, (a < s ∨ s + 35 ≤ a) → I' a x = I a x) →
      (∀ i c, 0 ≤ i → i < fnd (dfs (sPr 1 h n (-1) ρ (fun _ => 0) g) M.toNat 0 st0) → 0 ≤ c → c < 25 → I' (s + 5 + i.toNat) c = (dfs (sPr 1 h n (-1) ρ (fun _ => 0) g) M.toNat 0 st0).2.2.2.2 i c) → Q (b2 (fnd (dfs (sPr 1 h n (-1) ρ (fun _ => 0) g) M.toNat 0 st0) = 1)) I' R) : wX8_findsOneFrom s p a I R Q := by
  have hs' : s = 10 ∨ s = 45 := hs
  have hB' := hB
  obtain ⟨b1, b2, b3, b4, b5, b6, b7, b8, b9, b10, b11, b12⟩ := hB'
  have hp : p = 85 ∨ p = 89 := b1.1
  unfold wX8_findsOneFrom
  refine c_begin hs (fun I1 f1 k7 k6 k1 k2 k8 kv => ⟨27, ?_⟩)
  have L : ∀ (m : Nat) (x : Int) (I' : cI), 0 ≤ x → x ≤ M → M - x < m → (∀ a x, (a < s ∨ s + 35 ≤ a) → I' a x = I a x) → (∀ y, I' s y = I1 s y) → (∀ c, 0 ≤ c → c < 25 → I' (s + 2) c = 0 ∧ I' (s + 3) c = 0 ∧ I' (s + 4) c = (if c < x then g c else 1)) → wX8_findsOneFrom_8 Q s p a m x I' R := by
    intro m
    induction m with
    | zero => intro x I' h0 h1 h2; omega
    | succ m ih =>
      intro x I' x0 x1 x2 h1 h2 h3
      show wbX8_findsOneFrom_8 Q s p a (wX8_findsOneFrom_8 Q s p a m) x I' R
      unfold wbX8_findsOneFrom_8 wX4_cellCount
      rw [h1 p 0 (by omega), h1 p 1 (by omega), b2]
      refine ⟨by unfold inR; omega, fun e => ?_, fun e => ⟨by omega, by omega, fun J1 f1 => ⟨by unfold inR; omega, fun z hz => ?_⟩⟩⟩
      · refine c_run (M := M) (n := n) (h := h) (ρ := ρ) (most := 1) (wo := -1) (on := fun _ => 0) (fi := g) hs (pB_fr hB (fun a x q => h1 a x (by omega))) ⟨by show (1 : Int) ≤ 1; decide, by show (1 : Int) ≤ 30; decide, b11, b12, fun c _ _ => ⟨by show (0 : Int) ≤ 0; omega, by show (0 : Int) ≤ h; omega⟩, fun c _ _ => hgb c⟩ ((h2 7).trans k7) ((h2 6).trans k6) ((h2 1).trans k1) ((h2 2).trans k2) ((h2 8).trans k8) (fun c c0 c1 => ⟨(h3 c c0 c1).1, (h3 c c0 c1).2.1, ?_⟩) (fun z I2 f2 g1 g2 g8 g3 => ?_)
        · rw [(h3 c c0 c1).2.2]
          split
          · rfl
          · exact (hg0 c (by omega)).symm
        · have hQ' := hQ I2 (fun a x q => (f2 a x q).trans (h1 a x q)) g3
          obtain ⟨q1, q0⟩ := b2_q (Q := fun z => Q z I2 R) hQ'
          exact ⟨fun e => q0 (fun w => e (g1.trans w)), fun e => q1 (g1.symm.trans e)⟩
      · subst f1; subst hz
        rw [h1 a x ha, hg x x0 (by omega)]
        refine ih (x + 1) _ (by omega) (by omega) (by omega) (fun a y q => ?_) (fun y => ?_) (fun c c0 c1 => ⟨?_, ?_, ?_⟩)
        · rw [u2a (by omega)]; exact h1 a y q
        · rw [u2a (by omega)]; exact h2 y
        · rw [u2a (by omega)]; exact (h3 c c0 c1).1
        · rw [u2a (by omega)]; exact (h3 c c0 c1).2.1
        · by_cases ec : c = x
          · subst ec; rw [u2e, if_pos (by omega)]
          · rw [u2x ec, (h3 c c0 c1).2.2]
            by_cases e3 : c < x
            · rw [if_pos e3, if_pos (by omega)]
            · rw [if_neg e3, if_neg (by omega)]
  refine L 27 0 I1 (by omega) (by omega) (by omega) f1 (fun _ => rfl) (fun c c0 c1 => ⟨(kv c c0 c1).1, (kv c c0 c1).2.1, ?_⟩)
  rw [if_neg (by omega)]; exact (kv c c0 c1).2.2
/-! the reference -/
