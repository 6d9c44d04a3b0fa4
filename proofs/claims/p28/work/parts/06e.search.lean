/-! ===== searching ===== -/
theorem u2e {α : Type} {I : Nat → Int → α} {a : Nat} {x : Int} {v : α} : up2 I a x v a x = v := if_pos ⟨rfl, rfl⟩
theorem u2n {α : Type} {I : Nat → Int → α} {a b : Nat} {x y : Int} {v : α} (h : ¬ (b = a ∧ y = x)) : up2 I a x v b y = I b y := if_neg h
theorem u2a {α : Type} {I : Nat → Int → α} {a b : Nat} {x y : Int} {v : α} (h : b ≠ a) : up2 I a x v b y = I b y := if_neg (fun w => h w.1)
theorem u2x {α : Type} {I : Nat → Int → α} {a b : Nat} {x y : Int} {v : α} (h : y ≠ x) : up2 I a x v b y = I b y := if_neg (fun w => h w.2)
theorem uFe {f : Int → Int} {x v : Int} : upF f x v x = v := if_pos rfl
theorem uFn {f : Int → Int} {x y v : Int} (h : y ≠ x) : upF f x v y = f y := if_neg h
theorem br_cg {σ : Int → Int} {m h : Int} {v w : Int → Int} (hg : gr m σ) (e : ∀ c, 0 ≤ c → c < m → v c = w c) : br σ h v ↔ br σ h w :=
  brk_cg (fun i h1 h2 => by have := hg.2.2.2.2.2.2.2.2.2.2.2.1 i h1 h2; exact e _ this.1 this.2)
theorem am_cg {ρ : Int → Int → Int} {m n h c wo : Int} {v w : Int → Int} (hg : gp m n ρ) (e : ∀ c, 0 ≤ c → c < m → v c = w c) : am ρ n h c v wo ↔ am ρ n h c w wo :=
  exF_cg (fun i h1 h2 => by rw [br_cg (hg i h1 h2) e])
/-- a state of a search: values, tries, found, solutions -/
abbrev sT : Type := (Int → Int) × Int × Int × (Int → Int → Int)
/-- the values of a cell, one after the other: 0 goes on, 1 has found enough, 2 gives up -/
noncomputable def dlp (bad : (Int → Int) → Prop) (val : Int → Int) (c : Int) (rec : sT → Int × sT) : Nat → Int → sT → Int × sT
  | 0, _, s => (0, (upF s.1 c 0, s.2))
  | k + 1, t, s => @ite _ (5000 ≤ s.2.1) (Classical.propDecidable _) (2, s)
      (@ite _ (bad (upF s.1 c (val t))) (Classical.propDecidable _) (dlp bad val c rec k (t + 1) (upF s.1 c (val t), s.2.1 + 1, s.2.2))
        (@ite _ ((rec (upF s.1 c (val t), s.2.1 + 1, s.2.2)).1 = 0) (Classical.propDecidable _) (dlp bad val c rec k (t + 1) (rec (upF s.1 c (val t), s.2.1 + 1, s.2.2)).2) (rec (upF s.1 c (val t), s.2.1 + 1, s.2.2))))
section DL
variable {bad : (Int → Int) → Prop} {val : Int → Int} {c t : Int} {rec : sT → Int × sT} {k : Nat} {s : sT}
theorem dlp_0 : dlp bad val c rec 0 t s = (0, (upF s.1 c 0, s.2)) := rfl
theorem dlp_g (h : 5000 ≤ s.2.1) : dlp bad val c rec (k + 1) t s = (2, s) := if_pos h
theorem dlp_b (h : ¬ 5000 ≤ s.2.1) (b : bad (upF s.1 c (val t))) : dlp bad val c rec (k + 1) t s = dlp bad val c rec k (t + 1) (upF s.1 c (val t), s.2.1 + 1, s.2.2) := (if_neg h).trans (if_pos b)
theorem dlp_c (h : ¬ 5000 ≤ s.2.1) (b : ¬ bad (upF s.1 c (val t))) (r : (rec (upF s.1 c (val t), s.2.1 + 1, s.2.2)).1 = 0) : dlp bad val c rec (k + 1) t s = dlp bad val c rec k (t + 1) (rec (upF s.1 c (val t), s.2.1 + 1, s.2.2)).2 := (if_neg h).trans ((if_neg b).trans (if_pos r))
theorem dlp_x (h : ¬ 5000 ≤ s.2.1) (b : ¬ bad (upF s.1 c (val t))) (r : ¬ (rec (upF s.1 c (val t), s.2.1 + 1, s.2.2)).1 = 0) : dlp bad val c rec (k + 1) t s = rec (upF s.1 c (val t), s.2.1 + 1, s.2.2) := (if_neg h).trans ((if_neg b).trans (if_neg r))
end DL
/-- what is searched: how many are wanted, the highest value, the only value of a cell or 0, the first value of a cell, what is amiss -/
abbrev sP : Type := Int × Int × (Int → Int) × (Int → Int) × (Int → (Int → Int) → Prop)
def chs (P : sP) (c : Int) : Int := if P.2.2.1 c = 0 then P.2.1 else 1
def vls (P : sP) (c t : Int) : Int := if P.2.2.1 c = 0 then (if P.2.2.2.1 c + t ≤ P.2.1 then P.2.2.2.1 c + t else P.2.2.2.1 c + t - P.2.1) else P.2.2.1 c
def kpt (P : sP) (s : sT) : Int × sT := (if P.1 ≤ s.2.2.1 + 1 then 1 else 0, (s.1, s.2.1, s.2.2.1 + 1, fun i => if i = s.2.2.1 then s.1 else s.2.2.2 i))
noncomputable def dfs (P : sP) : Nat → Int → sT → Int × sT
  | 0, _, s => kpt P s
  | d + 1, c, s => dlp (P.2.2.2.2 c) (vls P c) c (dfs P d (c + 1)) (chs P c).toNat 0 s
/-- a good search -/
def goP (P : sP) : Prop := 1 ≤ P.1 ∧ P.1 ≤ 30 ∧ 1 ≤ P.2.1 ∧ P.2.1 ≤ 5 ∧ (∀ c, 0 ≤ c → c < 25 → 0 ≤ P.2.2.1 c ∧ P.2.2.1 c ≤ P.2.1) ∧ (∀ c, 0 ≤ c → c < 25 → 1 ≤ P.2.2.2.1 c ∧ P.2.2.2.1 c ≤ P.2.1)
def gS (P : sP) (s : sT) : Prop := (∀ c, 0 ≤ c → c < 25 → 0 ≤ s.1 c ∧ s.1 c ≤ 5) ∧ 0 ≤ s.2.1 ∧ s.2.1 ≤ 5000 ∧ 0 ≤ s.2.2.1 ∧ s.2.2.1 < P.1
theorem chs_b {P : sP} (h : goP P) (c : Int) : 1 ≤ chs P c ∧ chs P c ≤ 5 := by
  unfold chs; obtain ⟨_, _, h3, h4, _⟩ := h; split <;> omega
theorem vls_b {P : sP} (h : goP P) {c t : Int} (h0 : 0 ≤ c) (h1 : c < 25) (t0 : 0 ≤ t) (t1 : t < chs P c) : 1 ≤ vls P c t ∧ vls P c t ≤ P.2.1 := by
  have a := h.2.2.2.2.1 c h0 h1
  have b := h.2.2.2.2.2 c h0 h1
  have d := h.2.2.1
  unfold vls; unfold chs at t1
  by_cases e : P.2.2.1 c = 0
  · rw [if_pos e] at t1 ⊢; split <;> omega
  · rw [if_neg e]; omega
theorem gS_up {P : sP} {s : sT} {c x : Int} (h : gS P s) (hx : 0 ≤ x ∧ x ≤ 5) (ht : ¬ 5000 ≤ s.2.1) : gS P (upF s.1 c x, s.2.1 + 1, s.2.2) := by
  obtain ⟨h1, h2, h3, h4, h5⟩ := h
  refine ⟨fun y y0 y1 => ?_, ?_, ?_, h4, h5⟩
  · show 0 ≤ upF s.1 c x y ∧ upF s.1 c x y ≤ 5
    unfold upF; split
    · exact hx
    · exact h1 y y0 y1
  · show 0 ≤ s.2.1 + 1; omega
  · show s.2.1 + 1 ≤ 5000; omega
/-- what comes out is good again -/
def oR (P : sP) (r : Int × sT) : Prop := (r.1 = 0 ∧ gS P r.2) ∨ (r.1 = 1 ∧ r.2.2.2.1 = P.1 ∧ 0 ≤ r.2.2.1 ∧ r.2.2.1 ≤ 5000) ∨ (r.1 = 2 ∧ r.2.2.1 = 5000)
theorem dlp_ok {P : sP} (hP : goP P) {c : Int} (h0 : 0 ≤ c) (h1 : c < 25) {rec : sT → Int × sT} (hr : ∀ s, gS P s → oR P (rec s)) : ∀ (k : Nat) (t : Int) (s : sT), gS P s → 0 ≤ t → t + k = chs P c → oR P (dlp (P.2.2.2.2 c) (vls P c) c rec k t s) := by
  intro k
  induction k with
  | zero =>
    intro t s hs t0 t1
    rw [dlp_0]
    refine Or.inl ⟨rfl, ⟨fun y y0 y1 => ?_, hs.2⟩⟩
    show 0 ≤ upF s.1 c 0 y ∧ upF s.1 c 0 y ≤ 5
    unfold upF; split
    · omega
    · exact hs.1 y y0 y1
  | succ k ih =>
    intro t s hs t0 t1
    by_cases g : 5000 ≤ s.2.1
    · rw [dlp_g g]; have := hs.2.2.1; exact Or.inr (Or.inr ⟨rfl, by show s.2.1 = 5000; omega⟩)
    · have hv := vls_b hP h0 h1 t0 (by omega)
      have hs1 := gS_up (c := c) hs (x := vls P c t) ⟨by omega, by have := hP.2.2.2.1; omega⟩ g
      by_cases b : P.2.2.2.2 c (upF s.1 c (vls P c t))
      · rw [dlp_b g b]; exact ih _ _ hs1 (by omega) (by omega)
      · by_cases r : (rec (upF s.1 c (vls P c t), s.2.1 + 1, s.2.2)).1 = 0
        · rw [dlp_c g b r]
          refine ih _ _ ?_ (by omega) (by omega)
          rcases hr _ hs1 with o | o | o
          · exact o.2
          · omega
          · omega
        · rw [dlp_x g b r]; exact hr _ hs1
theorem dfs_ok {P : sP} (hP : goP P) : ∀ (d : Nat) (c : Int) (s : sT), 0 ≤ c → c + d ≤ 25 → gS P s → oR P (dfs P d c s) := by
  intro d
  induction d with
  | zero =>
    intro c s h0 h1 hs
    show oR P (kpt P s)
    obtain ⟨a1, a2, a3, a4, a5⟩ := hs
    unfold kpt
    by_cases e : P.1 ≤ s.2.2.1 + 1
    · rw [if_pos e]; exact Or.inr (Or.inl ⟨rfl, by show s.2.2.1 + 1 = P.1; omega, a2, a3⟩)
    · rw [if_neg e]; exact Or.inl ⟨rfl, a1, a2, a3, by show 0 ≤ s.2.2.1 + 1; omega, by show s.2.2.1 + 1 < P.1; omega⟩
  | succ d ih =>
    intro c s h0 h1 hs
    have := chs_b hP c
    exact dlp_ok hP h0 (by omega) (fun s hs => ih (c + 1) s (by omega) (by omega) hs) _ _ _ hs (by omega) (by omega)
/-! the class -/
/-- a search of the class holds a state -/
def SV (s : Nat) (I : cI) (σ : sT) : Prop := (∀ c, 0 ≤ c → c < 25 → I (s + 2) c = σ.1 c) ∧ I s 2 = σ.2.1 ∧ I s 1 = σ.2.2.1 ∧ (∀ i c, 0 ≤ i → i < σ.2.2.1 → 0 ≤ c → c < 25 → I (s + 5 + i.toNat) c = σ.2.2.2 i c) ∧ I s 8 = 0
/-- nothing but the search's own state is other than before -/
def fS (s : Nat) (I0 I : cI) : Prop := (∀ a x, (a < s ∨ s + 35 ≤ a) → I a x = I0 a x) ∧ (∀ x, x ≠ 1 → x ≠ 2 → x ≠ 8 → I s x = I0 s x) ∧ (∀ x, I (s + 3) x = I0 (s + 3) x) ∧ (∀ x, I (s + 4) x = I0 (s + 4) x)
theorem fS_r {s : Nat} {I : cI} : fS s I I := ⟨fun _ _ _ => rfl, fun _ _ _ _ => rfl, fun _ => rfl, fun _ => rfl⟩
theorem fS_t {s : Nat} {I J K : cI} (h : fS s I J) (g : fS s J K) : fS s I K := ⟨fun a x e => (g.1 a x e).trans (h.1 a x e), fun x e1 e2 e3 => (g.2.1 x e1 e2 e3).trans (h.2.1 x e1 e2 e3), fun x => (g.2.2.1 x).trans (h.2.2.1 x), fun x => (g.2.2.2 x).trans (h.2.2.2 x)⟩
theorem fS_u {s : Nat} {I0 I : cI} {a : Nat} {x v : Int} (h : fS s I0 I) (e : (a = s ∧ (x = 1 ∨ x = 2 ∨ x = 8)) ∨ a = s + 2 ∨ (s + 5 ≤ a ∧ a < s + 35)) : fS s I0 (up2 I a x v) :=
  ⟨fun b y q => (u2n (by omega)).trans (h.1 b y q), fun y e1 e2 e3 => (u2n (by omega)).trans (h.2.1 y e1 e2 e3), fun y => (u2n (by omega)).trans (h.2.2.1 y), fun y => (u2n (by omega)).trans (h.2.2.2 y)⟩
theorem SV_try {s : Nat} {I0 I : cI} {σ : sT} {c x : Int} (hs : SV s I σ) (hf : fS s I0 I) (h30 : σ.2.2.1 ≤ 30) : SV s (up2 (up2 I s 2 (σ.2.1 + 1)) (s + 2) c x) (upF σ.1 c x, σ.2.1 + 1, σ.2.2) ∧ fS s I0 (up2 (up2 I s 2 (σ.2.1 + 1)) (s + 2) c x) := by
  obtain ⟨h1, h2, h3, h4, h5⟩ := hs
  refine ⟨⟨fun y y0 y1 => ?_, ?_, ?_, fun i y i0 i1 y0 y1 => ?_, ?_⟩, fS_u (fS_u hf (Or.inl ⟨rfl, by omega⟩)) (Or.inr (Or.inl rfl))⟩
  · show _ = upF σ.1 c x y
    by_cases e : y = c
    · subst e; rw [u2e, uFe]
    · rw [u2x e, u2a (by omega), uFn e]; exact h1 y y0 y1
  · rw [u2a (by omega), u2e]
  · rw [u2a (by omega), u2x (by omega)]; exact h3
  · rw [u2a (by omega), u2a (by omega)]; exact h4 i y i0 i1 y0 y1
  · rw [u2a (by omega), u2x (by omega)]; exact h5
theorem SV_end {s : Nat} {I0 I : cI} {σ : sT} {c : Int} (hs : SV s I σ) (hf : fS s I0 I) (h30 : σ.2.2.1 ≤ 30) : SV s (up2 I (s + 2) c 0) (upF σ.1 c 0, σ.2) ∧ fS s I0 (up2 I (s + 2) c 0) := by
  obtain ⟨h1, h2, h3, h4, h5⟩ := hs
  refine ⟨⟨fun y y0 y1 => ?_, ?_, ?_, fun i y i0 i1 y0 y1 => ?_, ?_⟩, fS_u hf (Or.inr (Or.inl rfl))⟩
  · show _ = upF σ.1 c 0 y
    by_cases e : y = c
    · subst e; rw [u2e, uFe]
    · rw [u2x e, uFn e]; exact h1 y y0 y1
  · rw [u2a (by omega)]; exact h2
  · rw [u2a (by omega)]; exact h3
  · rw [u2a (by omega)]; exact h4 i y i0 i1 y0 y1
  · rw [u2a (by omega)]; exact h5
/-- what follows a search, by what came out -/
def dpo (s : Nat) (I0 : cI) (R : cR) (Q : Int → cI → cR → Prop) (r : Int × sT) : Prop :=
  (r.1 = 0 → ∀ I, fS s I0 I → SV s I r.2 → Q 0 I R) ∧ (r.1 = 1 → ∀ I, fS s I0 I → SV s I r.2 → Q 1 I R) ∧ (r.1 = 2 → ∀ I, fS s I0 I → I s 2 = r.2.2.1 → I s 1 = 0 → I s 8 = 1 → Q 1 I R)
/-- the puzzle, as the search finds it -/
def sB (s p : Nat) (I0 : cI) (R : cR) (M n wo : Int) (ρ : Int → Int → Int) (P : sP) : Prop :=
  isS s ∧ okp R p ∧ I0 p 0 * I0 p 1 = M ∧ I0 p 2 = P.2.1 ∧ I0 p 5 = n ∧ pv I0 R p n ρ ∧ gp M n ρ ∧ 0 ≤ n ∧ n ≤ 65 ∧ 1 ≤ M ∧ M ≤ 25 ∧ I0 s 7 = P.1 ∧ I0 s 6 = wo ∧ (∀ c, 0 ≤ c → c < 25 → I0 (s + 3) c = P.2.2.1 c) ∧ (∀ c, 0 ≤ c → c < 25 → I0 (s + 4) c = P.2.2.2.1 c) ∧ (∀ c v, P.2.2.2.2 c v ↔ am ρ n P.2.1 c v wo)
theorem rv_fr {I0 I : cI} {R : cR} {r : Nat} {σ : Int → Int} (h1 : ∀ x, I r x = I0 r x) (h2 : ∀ x, I (r + 130) x = I0 (r + 130) x) (h : rv I0 R r σ) : rv I R r σ := by
  unfold rv at h ⊢
  simp only [h1, h2]
  exact h
theorem okp_isR {R : cR} {p : Nat} (h : okp R p) {j : Int} (h0 : 0 ≤ j) (h1 : j < 65) : 93 ≤ R (p + 2) j ∧ R (p + 2) j < 223 := by
  have := rg_R (h.2.1 j h0 h1); unfold isR at this; omega
theorem pv_fr {I0 I : cI} {R : cR} {p : Nat} {n : Int} {ρ : Int → Int → Int} (hp : okp R p) (hn : n ≤ 65) (hf : ∀ a x, 93 ≤ a → I a x = I0 a x) (h : pv I0 R p n ρ) : pv I R p n ρ := fun i h0 h1 => by
  have := okp_isR hp h0 (by omega)
  exact rv_fr (fun x => hf _ x (by omega)) (fun x => hf _ x (by omega)) (h i h0 h1)
theorem c_dlp {s p : Nat} {I0 : cI} {R : cR} {M n wo c : Int} {ρ : Int → Int → Int} {P : sP} (hB : sB s p I0 R M n wo ρ P) (hP : goP P) (h0 : 0 ≤ c) (h1 : c < M) {rc : Nat → Nat → Int → cI → cR → (Int → cI → cR → Prop) → Prop} {rec : sT → Int × sT} (hok : ∀ σ, gS P σ → oR P (rec σ))
    (hrec : ∀ (σ : sT) (I : cI) (Q : Int → cI → cR → Prop), gS P σ → fS s I0 I → SV s I σ → dpo s I0 R Q (rec σ) → rc s p (c + 1) I R Q) (Q : Int → cI → cR → Prop) :
    ∀ (k : Nat) (t : Int) (σ : sT) (I : cI), gS P σ → 0 ≤ t → t + k = chs P c → fS s I0 I → SV s I σ → dpo s I0 R Q (dlp (P.2.2.2.2 c) (vls P c) c rec k t σ) → wX8_endsFrom_56 rc Q s p c (k + 1) (chs P c) t I R := by
  obtain ⟨b1, b2, b3, b4, b5, b6, b7, b8, b9, b10, b11, b12, b13, b14, b15, b16⟩ := hB
  have hp : p = 85 ∨ p = 89 := b2.1
  have hs : s = 10 ∨ s = 45 := b1
  intro k
  induction k with
  | zero =>
    intro t σ I hg t0 t1 hf hv hQ
    show wbX8_endsFrom_56 rc Q s p c (wX8_endsFrom_56 rc Q s p c 0) (chs P c) t I R
    unfold wbX8_endsFrom_56
    rw [dlp_0] at hQ
    refine ⟨fun _ => ⟨by omega, fun I2 e2 => ?_⟩, fun e => absurd (show chs P c ≤ t by omega) e⟩
    subst e2
    have := SV_end (c := c) hv hf (by have := hg.2.2.2.2; have := hP.2.1; omega)
    exact hQ.1 rfl _ this.2 this.1
  | succ k ih =>
    intro t σ I hg t0 t1 hf hv hQ
    show wbX8_endsFrom_56 rc Q s p c (wX8_endsFrom_56 rc Q s p c (k + 1)) (chs P c) t I R
    unfold wbX8_endsFrom_56
    refine ⟨fun e => absurd e (by omega), fun _ => ⟨fun e => ?_, fun e => ?_⟩⟩
    · rw [hv.2.1] at e ⊢
      have g : ¬ 5000 ≤ σ.2.1 := by omega
      have g0 := hg.2.1
      refine ⟨by unfold inR; omega, fun I6 e6 => ?_⟩
      unfold wX8_choice
      have f2 : I6 p 2 = P.2.1 := by subst e6; rw [u2a (by omega), hf.1 p 2 (by omega)]; exact b4
      have f3 : I6 (s + 3) c = P.2.2.1 c := by subst e6; rw [u2a (by omega), hf.2.2.1 c]; exact b14 c h0 (by omega)
      have f4 : I6 (s + 4) c = P.2.2.2.1 c := by subst e6; rw [u2a (by omega), hf.2.2.2 c]; exact b15 c h0 (by omega)
      rw [f2, f3, f4]
      have hvl := vls_b hP h0 (by omega) t0 (show t < chs P c by omega)
      have hon := hP.2.2.2.2.1 c h0 (by omega)
      have hfi := hP.2.2.2.2.2 c h0 (by omega)
      have hh := hP.2.2.2.1
      have hch := chs_b hP c
      have main : (0 ≤ c ∧ c < 25) ∧ ∀ I15 : cI, I15 = up2 I6 (s + 2) c (vls P c t) → wX4_isBrokenAt p c (s + 2) (I15 s 6) I15 R (fun r18 I19 R20 => (¬ r18 = 0 → inR (t + 1) ∧ ∀ z23 : Int, z23 = t + 1 → wX8_endsFrom_56 rc Q s p c (k + 1) (chs P c) z23 I19 R20) ∧ (r18 = 0 → inR ((c + 1)) ∧ rc s p ((c + 1)) I19 R20 (fun r27 I28 R29 => (r27 = 0 → inR (t + 1) ∧ ∀ z32 : Int, z32 = t + 1 → wX8_endsFrom_56 rc Q s p c (k + 1) (chs P c) z32 I28 R29) ∧ (¬ r27 = 0 → Q 1 I28 R29)))) := by
        refine ⟨by omega, fun I15 e15 => ?_⟩
        subst e6
        have hT := SV_try (c := c) (x := vls P c t) hv hf (by have := hg.2.2.2.2; have := hP.2.1; omega)
        have hg1 := gS_up (c := c) hg (x := vls P c t) ⟨by omega, by omega⟩ g
        rw [← e15] at hT
        obtain ⟨hT1, hT2⟩ := hT
        clear e15
        have k5 : I15 p 5 = n := (hT2.1 p 5 (by omega)).trans b5
        have k2 : I15 p 2 = P.2.1 := (hT2.1 p 2 (by omega)).trans b4
        have k6 : I15 s 6 = wo := (hT2.2.1 6 (by decide) (by decide) (by decide)).trans b13
        rw [k6]
        refine c_amiss (ρ := ρ) (m := M) (by omega) (by rw [k5]; exact pv_fr b2 b9 (fun a x q => hT2.1 a x (by omega)) b6) (by rw [k5]; exact b7) b11 (fun y y0 y1 => by rw [hT1.1 y y0 (by omega)]; exact hg1.1 y y0 (by omega)) (by omega) (by omega) ?_
        rw [k5, k2]
        have ea : am ρ n P.2.1 c (I15 (s + 2)) wo ↔ P.2.2.2.2 c (upF σ.1 c (vls P c t)) := (am_cg b7 (fun y y0 y1 => hT1.1 y y0 (by omega))).trans (b16 c _).symm
        rw [b2_c ea]
        by_cases b : P.2.2.2.2 c (upF σ.1 c (vls P c t))
        · rw [b2_t b]
          rw [dlp_b g b] at hQ
          exact ⟨fun _ => ⟨by unfold inR; omega, fun z hz => by subst hz; exact ih _ _ _ hg1 (by omega) (by omega) hT2 hT1 hQ⟩, fun w => absurd w (by decide)⟩
        · rw [b2_f b]
          refine ⟨fun w => absurd rfl w, fun _ => ⟨by unfold inR; omega, hrec _ _ _ hg1 hT2 hT1 ⟨fun r I2 hf2 hv2 => ⟨fun _ => ⟨by unfold inR; omega, fun z hz => ?_⟩, fun w => absurd rfl w⟩, fun r I2 hf2 hv2 => ⟨fun w => absurd w (by decide), fun _ => ?_⟩, fun r I2 hf2 g1 g2 g3 => ⟨fun w => absurd w (by decide), fun _ => ?_⟩⟩⟩⟩
          · rw [dlp_c g b r] at hQ
            subst hz
            have o := hok _ hg1
            refine ih _ _ _ ?_ (by omega) (by omega) hf2 hv2 hQ
            rcases o with o | o | o
            · exact o.2
            · omega
            · omega
          · rw [dlp_x g b (by omega)] at hQ
            exact hQ.2.1 r I2 hf2 hv2
          · rw [dlp_x g b (by omega)] at hQ
            exact hQ.2.2 r I2 hf2 g1 g2 g3
      refine ⟨by omega, fun eo => ⟨by omega, by unfold inR; unfold chs at t1; rw [if_pos eo] at t1; omega, fun z4 e4 => ⟨fun l => ?_, fun l => ⟨by unfold inR; unfold chs at t1; rw [if_pos eo] at t1; omega, ?_⟩⟩⟩, fun eo => ⟨by omega, ?_⟩⟩
      · have : vls P c t = z4 := by unfold vls; rw [if_pos eo, ← e4, if_pos l]
        rw [← this]; exact main
      · have : vls P c t = z4 - P.2.1 := by unfold vls; rw [if_pos eo, ← e4, if_neg l]
        rw [← this]; exact main
      · have : vls P c t = P.2.2.1 c := by unfold vls; rw [if_neg eo]
        rw [← this]; exact main
    · rw [hv.2.1] at e
      have g : 5000 ≤ σ.2.1 := by omega
      rw [dlp_g g] at hQ
      unfold wX8_giveUp
      intro I1 e1 I4 e4
      subst e1; subst e4
      refine hQ.2.2 rfl _ (fS_u (fS_u hf (Or.inl ⟨rfl, by omega⟩)) (Or.inl ⟨rfl, by omega⟩)) ?_ u2e ?_
      · rw [u2x (by decide), u2x (by decide)]; exact hv.2.1
      · rw [u2x (by decide), u2e]
theorem c_keep {s : Nat} {I0 I : cI} {R : cR} {Q : cI → cR → Prop} {σ : sT} (hf : fS s I0 I) (hv : SV s I σ) (h0 : 0 ≤ σ.2.2.1) (h1 : σ.2.2.1 < 30) (hQ : ∀ I, fS s I0 I → SV s I (σ.1, σ.2.1, σ.2.2.1 + 1, fun i => if i = σ.2.2.1 then σ.1 else σ.2.2.2 i) → Q I R) : wX8_keep s I R Q := by
  unfold wX8_keep
  refine ⟨fun e => by rw [hv.2.2.1] at e; omega, fun _ => ⟨26, ?_⟩⟩
  have L : ∀ (m : Nat) (x : Int) (I : cI), 0 ≤ x → x ≤ 25 → 25 - x < m → fS s I0 I → SV s I σ → (∀ c, 0 ≤ c → c < x → I (s + 5 + σ.2.2.1.toNat) c = σ.1 c) → wX8_keep_14 Q s m x I R := by
    intro m
    induction m with
    | zero => intro x I h0 h1 h2; omega
    | succ m ih =>
      intro x I x0 x1 x2 hf hv hr
      show wbX8_keep_14 Q s (wX8_keep_14 Q s m) x I R
      unfold wbX8_keep_14
      rw [hv.2.2.1]
      refine ⟨fun e => ⟨by unfold inR; omega, fun I2 e2 => ?_⟩, fun e => ⟨by omega, by omega, by omega, fun I8 e8 => ⟨by unfold inR; omega, fun z hz => ?_⟩⟩⟩
      · subst e2
        refine hQ _ (fS_u hf (Or.inl ⟨rfl, by omega⟩)) ⟨fun y y0 y1 => ?_, ?_, u2e, fun i y i0 i1 y0 y1 => ?_, ?_⟩
        · rw [u2a (by omega)]; exact hv.1 y y0 y1
        · rw [u2x (by decide)]; exact hv.2.1
        · rw [u2a (by omega)]
          show _ = (if i = σ.2.2.1 then σ.1 else σ.2.2.2 i) y
          by_cases ei : i = σ.2.2.1
          · rw [if_pos ei, ei]; exact hr y y0 (by omega)
          · rw [if_neg ei]
            have i1' : i < σ.2.2.1 + 1 := i1
            exact hv.2.2.2.1 i y i0 (by omega) y0 y1
        · rw [u2x (by decide)]; exact hv.2.2.2.2
      · subst e8; subst hz
        rw [hv.1 x x0 (by omega)]
        refine ih (x + 1) _ (by omega) (by omega) (by omega) (fS_u hf (Or.inr (Or.inr (by omega)))) ⟨fun y y0 y1 => ?_, ?_, ?_, fun i y i0 i1 y0 y1 => ?_, ?_⟩ (fun y y0 y1 => ?_)
        · rw [u2a (by omega)]; exact hv.1 y y0 y1
        · rw [u2a (by omega)]; exact hv.2.1
        · rw [u2a (by omega)]; exact hv.2.2.1
        · rw [u2a (by omega)]; exact hv.2.2.2.1 i y i0 i1 y0 y1
        · rw [u2a (by omega)]; exact hv.2.2.2.2
        · by_cases ey : y = x
          · subst ey; exact u2e
          · rw [u2x ey]; exact hr y y0 (by omega)
  exact L 26 0 I (by omega) (by omega) (by omega) hf hv (fun c c0 c1 => by omega)
theorem c_dfs {s p : Nat} {I0 : cI} {R : cR} {M n wo : Int} {ρ : Int → Int → Int} {P : sP} (hB : sB s p I0 R M n wo ρ P) (hP : goP P) :
    ∀ (d : Nat) (c : Int) (l : Nat) (σ : sT) (I : cI) (Q : Int → cI → cR → Prop), 0 ≤ c → c + d = M → d < l → gS P σ → fS s I0 I → SV s I σ → dpo s I0 R Q (dfs P d c σ) → wX8_endsFrom l s p c I R Q := by
  have hB0 := hB
  obtain ⟨b1, b2, b3, b4, b5, b6, b7, b8, b9, b10, b11, b12, b13, b14, b15, b16⟩ := hB
  have hp : p = 85 ∨ p = 89 := b2.1
  have hs : s = 10 ∨ s = 45 := b1
  intro d
  induction d with
  | zero =>
    intro c l σ I Q h0 h1 h2 hg hf hv hQ
    obtain ⟨l', rfl⟩ : ∃ l', l = l' + 1 := ⟨l - 1, by omega⟩
    show wbX8_endsFrom (wX8_endsFrom l') s p c I R Q
    unfold wbX8_endsFrom wX4_cellCount wX8_endsFrom_14
    rw [hf.1 p 0 (by omega), hf.1 p 1 (by omega), b3]
    refine ⟨by unfold inR; omega, fun _ => ?_, fun e => absurd (show M ≤ c by omega) e⟩
    refine c_keep hf hv hg.2.2.2.1 (by have := hg.2.2.2.2; have := hP.2.1; omega) (fun I2 hf2 hv2 => ?_)
    have k7 : I2 s 7 = P.1 := (hf2.2.1 7 (by decide) (by decide) (by decide)).trans b12
    rw [hv2.2.2.1, k7]
    have hQ' : dpo s I0 R Q (kpt P σ) := hQ
    unfold kpt at hQ'
    refine ⟨fun e => ?_, fun e => ?_⟩
    · have e' : σ.2.2.1 + 1 < P.1 := e
      rw [if_neg (by omega)] at hQ'
      exact hQ'.1 rfl I2 hf2 hv2
    · have e' : ¬ σ.2.2.1 + 1 < P.1 := e
      rw [if_pos (by omega)] at hQ'
      exact hQ'.2.1 rfl I2 hf2 hv2
  | succ d ih =>
    intro c l σ I Q h0 h1 h2 hg hf hv hQ
    obtain ⟨l', rfl⟩ : ∃ l', l = l' + 1 := ⟨l - 1, by omega⟩
    show wbX8_endsFrom (wX8_endsFrom l') s p c I R Q
    unfold wbX8_endsFrom wX4_cellCount wX8_endsFrom_52
    rw [hf.1 p 0 (by omega), hf.1 p 1 (by omega), b3]
    have hch := chs_b hP c
    have go := c_dlp hB0 hP h0 (by omega) (rc := wX8_endsFrom l') (rec := dfs P d (c + 1)) (fun σ hσ => dfs_ok hP d (c + 1) σ (by omega) (by omega) hσ) (fun σ I Q hg hf hv hQ => ih (c + 1) l' σ I Q (by omega) (by omega) (by omega) hg hf hv hQ) Q (chs P c).toNat 0 σ I hg (by omega) (by omega) hf hv hQ
    refine ⟨by unfold inR; omega, fun e => absurd (show c < M by omega) (by omega), fun _ => ⟨fun _ => ⟨by omega, fun e => ?_, fun e => ?_⟩, fun e => absurd (show c < 25 by omega) e⟩⟩
    · rw [hf.2.2.1 c, b14 c h0 (by omega)] at e
      have ec : chs P c = 1 := by unfold chs; rw [if_neg e]
      rw [ec] at go
      exact ⟨_, go⟩
    · rw [hf.2.2.1 c, b14 c h0 (by omega)] at e
      have ec : chs P c = P.2.1 := by unfold chs; rw [if_pos e]
      rw [ec] at go
      rw [hf.1 p 2 (by omega), b4]
      exact ⟨_, go⟩
