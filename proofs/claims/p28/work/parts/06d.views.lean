/-! ===== bits ===== -/
def tb (m c : Int) : Prop := ¬ iAnd (iShr m c) 1 = 0
theorem sh_k : ∀ k : Nat, k < 32 → ((Int32.ofInt (k : Int) &&& 31).toBitVec.smod 32).toNat = k := by decide
theorem tb_iff {m c : Int} (h0 : 0 ≤ c) (h1 : c < 32) : tb m c ↔ (Int32.ofInt m).toBitVec.getLsbD c.toNat = true := by
  unfold tb iAnd iShr
  rw [Int32.ofInt_toInt]
  have e1 : (Int32.ofInt m >>> (Int32.ofInt c &&& 31) &&& Int32.ofInt 1).toInt = 0 ↔ Int32.ofInt m >>> (Int32.ofInt c &&& 31) &&& Int32.ofInt 1 = 0 := by
    rw [← Int32.toInt_inj]; rfl
  rw [e1]
  have e2 : (Int32.ofInt m >>> (Int32.ofInt c &&& 31)).toBitVec.getLsbD 0 = (Int32.ofInt m).toBitVec.getLsbD c.toNat := by
    have hk := sh_k c.toNat (by omega)
    have hc : ((c.toNat : Nat) : Int) = c := by omega
    rw [hc] at hk
    rw [Int32.toBitVec_shiftRight, BitVec.getLsbD_sshiftRight', hk]
    simp
    omega
  rw [← e2]
  generalize Int32.ofInt m >>> (Int32.ofInt c &&& 31) = y
  rw [← Int32.toBitVec_inj, Int32.toBitVec_and]
  constructor
  · intro h
    rw [← Bool.not_eq_false]
    intro h2
    apply h
    apply BitVec.eq_of_getLsbD_eq
    intro i hi
    rw [BitVec.getLsbD_and]
    by_cases hz : i = 0
    · subst hz; rw [h2]; rfl
    · have : (Int32.ofInt 1).toBitVec.getLsbD i = false := by
        rw [Int32.toBitVec_ofInt, show BitVec.ofInt 32 1 = 1#32 from rfl, BitVec.getLsbD_one]
        simp; omega
      rw [this]; simp
  · intro h h2
    have := congrArg (fun z : BitVec 32 => z.getLsbD 0) h2
    simp only [BitVec.getLsbD_and] at this
    rw [h] at this
    exact absurd this (by decide)
theorem tb_0 {c : Int} (h0 : 0 ≤ c) (h1 : c < 32) : ¬ tb 0 c := by
  rw [tb_iff h0 h1]
  show ¬ (0#32).getLsbD c.toNat = true
  simp
theorem shl_k : ∀ c : Nat, c < 25 → ∀ d : Nat, d < 25 → ((Int32.ofInt 1 <<< (Int32.ofInt (c : Int) &&& 31)).toBitVec.getLsbD d = decide (d = c)) := by decide +kernel
theorem tb_or {m c d : Int} (h0 : 0 ≤ c) (h1 : c < 25) (h2 : 0 ≤ d) (h3 : d < 25) : tb (iOr m (iShl 1 c)) d ↔ (tb m d ∨ d = c) := by
  rw [tb_iff h2 (by omega), tb_iff h2 (by omega)]
  unfold iOr iShl
  rw [Int32.ofInt_toInt, Int32.ofInt_toInt, Int32.toBitVec_or, BitVec.getLsbD_or]
  have := shl_k c.toNat (by omega) d.toNat (by omega)
  rw [show ((c.toNat : Nat) : Int) = c by omega] at this
  rw [this, Bool.or_eq_true, decide_eq_true_eq]
  exact or_congr Iff.rfl (by omega)
theorem or_in (x y : Int) : inR (iOr x y) := ti_rng _
/-! ===== rules and puzzles, as each side holds them ===== -/
/-- a rule of the class is the rule ρ (0 kind, 1 number, 2 times, 3 size, 4.. cells) -/
def rv (I : cI) (R : cR) (r : Nat) (ρ : Int → Int) : Prop :=
  kN (R r 0) = ρ 0 ∧ I r 1 = ρ 1 ∧ I r 2 = ρ 2 ∧ I r 3 = ρ 3 ∧ (∀ i, 0 ≤ i → i < ρ 3 → I (r + 130) i = ρ (4 + i)) ∧ (∀ c, 0 ≤ c → c < 25 → (tb (I r 5) c ↔ ∃ i, 0 ≤ i ∧ i < ρ 3 ∧ ρ (4 + i) = c))
/-- a rule is of use on so many cells -/
def gr (m : Int) (ρ : Int → Int) : Prop :=
  0 ≤ ρ 0 ∧ ρ 0 < 12 ∧ 0 ≤ ρ 1 ∧ ρ 1 ≤ 9999 ∧ 0 ≤ ρ 2 ∧ ρ 2 ≤ 9 ∧ 0 ≤ ρ 3 ∧ ρ 3 ≤ 5 ∧ (ρ 0 = 8 → 1 ≤ ρ 1) ∧ (ρ 0 = 3 → ρ 3 ≤ 2) ∧ (ρ 0 = 9 → ρ 3 = 1 ∧ ρ 1 ≤ 9) ∧
  (∀ i, 0 ≤ i → i < ρ 3 → 0 ≤ ρ (4 + i) ∧ ρ (4 + i) < m) ∧ (∀ i j, 0 ≤ i → i < ρ 3 → 0 ≤ j → j < ρ 3 → ρ (4 + i) = ρ (4 + j) → i = j)
/-- a rule is broken by values of cells -/
def br (ρ : Int → Int) (h : Int) (v : Int → Int) : Prop := brk (ρ 0) (ρ 1) (ρ 2) (ρ 3) h (fun i => v (ρ (4 + i)))
/-- a rule has a cell -/
def hc (ρ : Int → Int) (c : Int) : Prop := ∃ i, 0 ≤ i ∧ i < ρ 3 ∧ ρ (4 + i) = c
/-- rules of the reference, in rows from b on -/
def mr (J : cI) (b : Nat) (i t : Int) : Int := if t = 0 then J b i else if t = 1 then J (b + 1) i else if t = 2 then J (b + 2) i else if t = 3 then J (b + 3) i else J (b + 4) (5 * i + (t - 4))
theorem mr0 {J : cI} {b : Nat} {i : Int} : mr J b i 0 = J b i := by simp [mr]
theorem mr1 {J : cI} {b : Nat} {i : Int} : mr J b i 1 = J (b + 1) i := by simp [mr]
theorem mr2 {J : cI} {b : Nat} {i : Int} : mr J b i 2 = J (b + 2) i := by simp [mr]
theorem mr3 {J : cI} {b : Nat} {i : Int} : mr J b i 3 = J (b + 3) i := by simp [mr]
theorem mr4 {J : cI} {b : Nat} {i t : Int} (h : 0 ≤ t) : mr J b i (4 + t) = J (b + 4) (5 * i + t) := by
  unfold mr
  rw [if_neg (by omega), if_neg (by omega), if_neg (by omega), if_neg (by omega), show 4 + t - 4 = t by omega]
/-- the class's rules below n are the rules ρ -/
def pv (I : cI) (R : cR) (p : Nat) (n : Int) (ρ : Int → Int → Int) : Prop := ∀ i, 0 ≤ i → i < n → rv I R (R (p + 2) i) (ρ i)
def gp (m n : Int) (ρ : Int → Int → Int) : Prop := ∀ i, 0 ≤ i → i < n → gr m (ρ i)
/-- the class's rules lie where they do -/
def rg (p r : Nat) : Prop := (p = 85 ∧ 93 ≤ r ∧ r < 158) ∨ (p = 89 ∧ 158 ≤ r ∧ r < 223)
def okp (R : cR) (p : Nat) : Prop := isP p ∧ (∀ j, 0 ≤ j → j < 65 → rg p (R (p + 2) j)) ∧ (∀ i j, 0 ≤ i → i < 65 → 0 ≤ j → j < 65 → R (p + 2) i = R (p + 2) j → i = j)
theorem rg_R {p r : Nat} (h : rg p r) : isR r := by unfold rg at h; unfold isR; omega
section V1
variable {Q : Int → cI → cR → Prop} {p a : Nat} {w h n k : Int} {I : cI} {R : cR} {ρ : Int → Int → Int}
theorem c_has {r : Nat} {c : Int} {σ : Int → Int} (hv : rv I R r σ) (h0 : 0 ≤ c ∧ c < 25) (hQ : Q (b2 (hc σ c)) I R) : wX7_hasCell r c I R Q := by
  unfold wX7_hasCell
  obtain ⟨q1, q0⟩ := b2_q (Q := fun z => Q z I R) hQ
  have := hv.2.2.2.2.2 c h0.1 h0.2
  unfold tb at this
  exact ⟨fun e => q0 (fun x => (this.mpr x) e), fun e => q1 (this.mp e)⟩
theorem c_brk {r : Nat} {σ : Int → Int} {m : Int} (hv : rv I R r σ) (hg : gr m σ) (hm : m ≤ 25) (hu : ∀ c, 0 ≤ c → c < m → 0 ≤ I a c ∧ I a c ≤ 5) (hk : 0 ≤ k ∧ k ≤ 5) (hQ : Q (b2 (br σ k (I a))) I R) : wX7_isBroken r a k I R Q := by
  obtain ⟨v0, v1, v2, v3, v4, v5⟩ := hv
  obtain ⟨g0, g1, g2, g3, g4, g5, g6, g7, g8, g9, g10, g11, g12⟩ := hg
  have hK : R r 0 < 12 := by unfold kN at v0; omega
  refine sp_brk (n := σ 3) (N := σ 1) (T := σ 2) (u := fun i => I a (σ (4 + i))) g6 g7 v3 v1 v2 (fun i h1 h2 => ?_) (fun i h1 h2 => ?_) (fun i h1 h2 => ?_) ⟨g2, g3⟩ hk hK (fun e => ?_) ?_
  · have := g11 i h1 h2; rw [v4 i h1 h2]; omega
  · show I a _ = I a _; rw [v4 i h1 h2]
  · have := g11 i h1 h2; exact hu _ this.1 this.2
  · refine g8 ?_; rw [← v0, e]; rfl
  · rw [v0]; exact hQ
theorem c_filled (hm : I p 0 * I p 1 ≤ 25) (h0 : 0 ≤ I p 0 * I p 1) (hQ : Q (cF (fun c => ¬ I (p + 1) c = 0) 0 (I p 0 * I p 1)) I R) : wX4_countFilled p I R Q := by
  have L : ∀ (m : Nat) (x s : Int), 0 ≤ x → x ≤ I p 0 * I p 1 → 0 ≤ s → s ≤ x → I p 0 * I p 1 - x < m → s + cF (fun c => ¬ I (p + 1) c = 0) x (I p 0 * I p 1) = cF (fun c => ¬ I (p + 1) c = 0) 0 (I p 0 * I p 1) → wX4_countFilled_4 Q p m s x I R := by
    intro m
    induction m with
    | zero => intro x s h0 h1 h2 h3 h4; omega
    | succ m ih =>
      intro x s h0 h1 h2 h3 h4 h5
      show wbX4_countFilled_4 Q p (wX4_countFilled_4 Q p m) s x I R
      unfold wbX4_countFilled_4 wX4_cellCount
      refine ⟨by unfold inR; omega, fun c => ?_, fun c => ⟨by omega, fun e => ?_, fun e => ?_⟩⟩
      · rw [cF_e c] at h5
        have : s = cF (fun c => ¬ I (p + 1) c = 0) 0 (I p 0 * I p 1) := by omega
        rw [this]; exact hQ
      · rw [cF_f (p := fun c => ¬ I (p + 1) c = 0) (fun w => w e)] at h5
        exact ⟨by unfold inR; omega, fun y hy => by subst hy; exact ih _ _ (by omega) (by omega) h2 (by omega) (by omega) h5⟩
      · rw [cF_t (p := fun c => ¬ I (p + 1) c = 0) (by omega) e] at h5
        exact ⟨by unfold inR; omega, fun y hy => ⟨by unfold inR; omega, fun y2 hy2 => by subst hy; subst hy2; exact ih _ _ (by omega) (by omega) (by omega) (by omega) (by omega) (by omega)⟩⟩
  exact ⟨27, L 27 0 0 (by omega) h0 (by omega) (by omega) (by omega) (by omega)⟩
theorem c_givens (hn : 0 ≤ I p 5 ∧ I p 5 ≤ 65) (hv : pv I R p (I p 5) ρ) (hQ : Q (cF (fun i => ρ i 0 = 9) 0 (I p 5)) I R) : wX4_countGivens p I R Q := by
  have L : ∀ (m : Nat) (x s : Int), 0 ≤ x → x ≤ I p 5 → 0 ≤ s → s ≤ x → I p 5 - x < m → s + cF (fun i => ρ i 0 = 9) x (I p 5) = cF (fun i => ρ i 0 = 9) 0 (I p 5) → wX4_countGivens_4 Q p m s x I R := by
    intro m
    induction m with
    | zero => intro x s h0 h1 h2 h3 h4; omega
    | succ m ih =>
      intro x s h0 h1 h2 h3 h4 h5
      show wbX4_countGivens_4 Q p (wX4_countGivens_4 Q p m) s x I R
      unfold wbX4_countGivens_4
      refine ⟨fun c => ?_, fun c => ⟨by omega, fun e => ?_, fun e => ?_⟩⟩
      · rw [cF_e c] at h5
        have : s = cF (fun i => ρ i 0 = 9) 0 (I p 5) := by omega
        rw [this]; exact hQ
      · have v0 := (hv x h0 (by omega)).1
        unfold kN at v0
        rw [cF_f (p := fun i => ρ i 0 = 9) (show ¬ ρ x 0 = 9 by omega)] at h5
        exact ⟨by unfold inR; omega, fun y hy => by subst hy; exact ih _ _ (by omega) (by omega) h2 (by omega) (by omega) h5⟩
      · have v0 := (hv x h0 (by omega)).1
        unfold kN at v0
        rw [cF_t (p := fun i => ρ i 0 = 9) (by omega) (show ρ x 0 = 9 by omega)] at h5
        exact ⟨by unfold inR; omega, fun y hy => ⟨by unfold inR; omega, fun y2 hy2 => by subst hy; subst hy2; exact ih _ _ (by omega) (by omega) (by omega) (by omega) (by omega) (by omega)⟩⟩
  exact ⟨67, L 67 0 0 (by omega) hn.1 (by omega) (by omega) (by omega) (by omega)⟩
theorem c_broken {m : Int} (hn : 0 ≤ I p 5 ∧ I p 5 ≤ 65) (hv : pv I R p (I p 5) ρ) (hg : gp m (I p 5) ρ) (hm : m ≤ 25) (hu : ∀ c, 0 ≤ c → c < m → 0 ≤ I (p + 1) c ∧ I (p + 1) c ≤ 5) (hk : 0 ≤ I p 2 ∧ I p 2 ≤ 5) (hQ : Q (cF (fun i => br (ρ i) (I p 2) (I (p + 1))) 0 (I p 5)) I R) : wX4_countBroken p I R Q := by
  have L : ∀ (l : Nat) (x s : Int), 0 ≤ x → x ≤ I p 5 → 0 ≤ s → s ≤ x → I p 5 - x < l → s + cF (fun i => br (ρ i) (I p 2) (I (p + 1))) x (I p 5) = cF (fun i => br (ρ i) (I p 2) (I (p + 1))) 0 (I p 5) → wX4_countBroken_4 Q p l s x I R := by
    intro l
    induction l with
    | zero => intro x s h0 h1 h2 h3 h4; omega
    | succ l ih =>
      intro x s h0 h1 h2 h3 h4 h5
      show wbX4_countBroken_4 Q p (wX4_countBroken_4 Q p l) s x I R
      unfold wbX4_countBroken_4
      refine ⟨fun c => ?_, fun c => ⟨by omega, c_brk (hv x h0 (by omega)) (hg x h0 (by omega)) hm hu hk ?_⟩⟩
      · rw [cF_e c] at h5
        have : s = cF (fun i => br (ρ i) (I p 2) (I (p + 1))) 0 (I p 5) := by omega
        rw [this]; exact hQ
      · by_cases b : br (ρ x) (I p 2) (I (p + 1))
        · rw [cF_t (by omega) b] at h5
          rw [b2_t b]
          exact ⟨fun w => absurd w (by decide), fun _ => ⟨by unfold inR; omega, fun y hy => ⟨by unfold inR; omega, fun y2 hy2 => by subst hy; subst hy2; exact ih _ _ (by omega) (by omega) (by omega) (by omega) (by omega) (by omega)⟩⟩⟩
        · rw [cF_f b] at h5
          rw [b2_f b]
          exact ⟨fun _ => ⟨by unfold inR; omega, fun y hy => by subst hy; exact ih _ _ (by omega) (by omega) h2 (by omega) (by omega) h5⟩, fun w => absurd rfl w⟩
  exact ⟨67, L 67 0 0 (by omega) hn.1 (by omega) (by omega) (by omega) (by omega)⟩
/-- values of a cell break a rule with it, one rule left out -/
def am (ρ : Int → Int → Int) (n k : Int) (c : Int) (v : Int → Int) (wo : Int) : Prop := exF (fun i => i ≠ wo ∧ hc (ρ i) c ∧ br (ρ i) k v) 0 n
theorem c_amiss {m c wo : Int} (hn : 0 ≤ I p 5 ∧ I p 5 ≤ 65) (hv : pv I R p (I p 5) ρ) (hg : gp m (I p 5) ρ) (hm : m ≤ 25) (hu : ∀ c, 0 ≤ c → c < m → 0 ≤ I a c ∧ I a c ≤ 5) (hk : 0 ≤ I p 2 ∧ I p 2 ≤ 5) (h0 : 0 ≤ c ∧ c < 25) (hQ : Q (b2 (am ρ (I p 5) (I p 2) c (I a) wo)) I R) : wX4_isBrokenAt p c a wo I R Q := by
  have L : ∀ (l : Nat) (x : Int), 0 ≤ x → x ≤ I p 5 → I p 5 - x < l → Q (b2 (exF (fun i => i ≠ wo ∧ hc (ρ i) c ∧ br (ρ i) (I p 2) (I a)) x (I p 5))) I R → wX4_isBrokenAt_3 Q p c a wo l x I R := by
    intro l
    induction l with
    | zero => intro x h0 h1 h2; omega
    | succ l ih =>
      intro x h0' h1 h2 hq
      show wbX4_isBrokenAt_3 Q p c a wo (wX4_isBrokenAt_3 Q p c a wo l) x I R
      unfold wbX4_isBrokenAt_3
      have nx : ¬ (x ≠ wo ∧ hc (ρ x) c ∧ br (ρ x) (I p 2) (I a)) → x < I p 5 → inR (x + 1) ∧ ∀ z, z = x + 1 → wX4_isBrokenAt_3 Q p c a wo l z I R := by
        intro e1 e2
        rw [exF_m e1] at hq
        exact ⟨by unfold inR; omega, fun z hz => by subst hz; exact ih (x + 1) (by omega) (by omega) (by omega) hq⟩
      refine ⟨fun e => by rw [exF_e e] at hq; exact hq, fun e => ⟨fun e2 => nx (fun z => z.1 e2) (by omega), fun e2 => ⟨by omega, c_has (hv x h0' (by omega)) h0 ?_⟩⟩⟩
      by_cases b1 : hc (ρ x) c
      · rw [b2_t b1]
        refine ⟨fun z => absurd z (by decide), fun _ => ⟨by omega, c_brk (hv x h0' (by omega)) (hg x h0' (by omega)) hm hu hk ?_⟩⟩
        by_cases b : br (ρ x) (I p 2) (I a)
        · rw [b2_t b]
          refine ⟨fun z => absurd z (by decide), fun _ => ?_⟩
          rw [exF_h (by omega) ⟨e2, b1, b⟩] at hq
          exact hq
        · rw [b2_f b]
          exact ⟨fun _ => nx (fun z => b z.2.2) (by omega), fun z => absurd rfl z⟩
      · rw [b2_f b1]
        exact ⟨fun _ => nx (fun z => b1 z.2.1) (by omega), fun z => absurd rfl z⟩
  exact ⟨67, L 67 0 (by omega) hn.1 (by omega) hQ⟩
end V1
section V2
variable {Q : Int → cI → Prop} {a : Nat} {J : cI} {m : Int}
end V2
