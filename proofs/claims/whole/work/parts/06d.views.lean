/-! ===== bits ===== -/
def tb (m c : Int) : Prop := ¬ iAnd (iShr m c) 1 = 0
theorem sh_k : ∀ k : Nat, k < 32 → ((Int32.ofInt (k : Int) &&& 31).toBitVec.smod 32).toNat = k := by decide
theorem tb_iff {m c : Int} (h0 : 0 ≤ c) (h1 : c < 32) : tb m c ↔ (Int32.ofInt m).toBitVec.getLsbD c.toNat = true := by
  unfold tb iAnd iShr
  rw [Int32.ofInt_toInt]
  have e1 : (Int32.ofInt m >>> (Int32.ofInt c &&& 31) &&& Int32.ofInt 1).toInt = 0 ↔ Int32.ofInt m >>> (Int32.ofInt c &&& 31) &&& Int32.ofInt 1 = 0 := by
    rw [← Int32.toInt_inj]; rfl
  rw [e1]
  have e2 : (Int32.ofInt m >>> (Int32.ofInt c &&& 31)).toBitVec.getLsbD 0 = (Int32.ofInt m).toBitVec.getLsbD c.toNat := by
    have hk := sh_k c.toNat (by omega)
    have hc : ((c.toNat : Nat) : Int) = c := by omega
    rw [hc] at hk
    rw [Int32.toBitVec_shiftRight, BitVec.getLsbD_sshiftRight', hk]
    simp
    omega
  rw [← e2]
  generalize Int32.ofInt m >>> (Int32.ofInt c &&& 31) = y
  rw [← Int32.toBitVec_inj, Int32.toBitVec_and]
  constructor
  · intro h
    rw [← Bool.not_eq_false]
    intro h2
    apply h
    apply BitVec.eq_of_getLsbD_eq
    intro i hi
    rw [BitVec.getLsbD_and]
    by_cases hz : i = 0
    · subst hz; rw [h2]; rfl
    · have : (Int32.ofInt 1).toBitVec.getLsbD i = false := by
        rw [Int32.toBitVec_ofInt, show BitVec.ofInt 32 1 = 1#32 from rfl, BitVec.getLsbD_one]
        simp; omega
      rw [this]; simp
  · intro h h2
    have := congrArg (fun z : BitVec 32 => z.getLsbD 0) h2
    simp only [BitVec.getLsbD_and] at this
    rw [h] at this
    exact absurd this (by decide)
theorem tb_0 {c : Int} (h0 : 0 ≤ c) (h1 : c < 32) : ¬ tb 0 c := by
  rw [tb_iff h0 h1]
  show ¬ (0#32).getLsbD c.toNat = true
  simp
theorem shl_k : ∀ c : Nat, c < 25 → ∀ d : Nat, d < 25 → ((Int32.ofInt 1 <<< (Int32.ofInt (c : Int) &&& 31)).toBitVec.getLsbD d = decide (d = c)) := by decide +kernel
theorem tb_or {m c d : Int} (h0 : 0 ≤ c) (h1 : c < 25) (h2 : 0 ≤ d) (h3 : d < 25) : tb (iOr m (iShl 1 c)) d ↔ (tb m d ∨ d = c) := by
  rw [tb_iff h2 (by omega), tb_iff h2 (by omega)]
  unfold iOr iShl
  rw [Int32.ofInt_toInt, Int32.ofInt_toInt, Int32.toBitVec_or, BitVec.getLsbD_or]
  have := shl_k c.toNat (by omega) d.toNat (by omega)
  rw [show ((c.toNat : Nat) : Int) = c by omega] at this
  rw [this, Bool.or_eq_true, decide_eq_true_eq]
  exact or_congr Iff.rfl (by omega)
theorem or_in (x y : Int) : inR (iOr x y) := ti_rng _
/-! ===== rules and puzzles, as each side holds them ===== -/
/-- a rule of the class is the rule ρ (0 kind, 1 number, 2 times, 3 size, 4.. cells) -/
def rv (I : cI) (R : cR) (r : Nat) (ρ : Int → Int) : Prop :=
  kN (R r 0) = ρ 0 ∧ I r 1 = ρ 1 ∧ I r 2 = ρ 2 ∧ I r 3 = ρ 3 ∧ (∀ i, 0 ≤ i → i < ρ 3 → I (r + 130) i = ρ (4 + i)) ∧ (∀ c, 0 ≤ c → c < 25 → (tb (I r 5) c ↔ ∃ i, 0 ≤ i ∧ i < ρ 3 ∧ ρ (4 + i) = c))
/-- a rule is of use on so many cells -/
def gr (m : Int) (ρ : Int → Int) : Prop :=
  0 ≤ ρ 0 ∧ ρ 0 < 12 ∧ 0 ≤ ρ 1 ∧ ρ 1 ≤ 9999 ∧ 0 ≤ ρ 2 ∧ ρ 2 ≤ 9 ∧ 0 ≤ ρ 3 ∧ ρ 3 ≤ 5 ∧ (ρ 0 = 8 → 1 ≤ ρ 1) ∧ (ρ 0 = 3 → ρ 3 ≤ 2) ∧ (ρ 0 = 9 → ρ 3 = 1 ∧ ρ 1 ≤ 9) ∧
  (∀ i, 0 ≤ i → i < ρ 3 → 0 ≤ ρ (4 + i) ∧ ρ (4 + i) < m) ∧ (∀ i j, 0 ≤ i → i < ρ 3 → 0 ≤ j → j < ρ 3 → ρ (4 + i) = ρ (4 + j) → i = j)
/-- a rule is broken by values of cells -/
def br (ρ : Int → Int) (h : Int) (v : Int → Int) : Prop := brk (ρ 0) (ρ 1) (ρ 2) (ρ 3) h (fun i => v (ρ (4 + i)))
/-- a rule has a cell -/
def hc (ρ : Int → Int) (c : Int) : Prop := ∃ i, 0 ≤ i ∧ i < ρ 3 ∧ ρ (4 + i) = c
/-- rules of the reference, in rows from b on -/
def mr (J : cI) (b : Nat) (i t : Int) : Int := if t = 0 then J b i else if t = 1 then J (b + 1) i else if t = 2 then J (b + 2) i else if t = 3 then J (b + 3) i else J (b + 4) (5 * i + (t - 4))
theorem mr0 {J : cI} {b : Nat} {i : Int} : mr J b i 0 = J b i := by simp [mr]
theorem mr1 {J : cI} {b : Nat} {i : Int} : mr J b i 1 = J (b + 1) i := by simp [mr]
theorem mr2 {J : cI} {b : Nat} {i : Int} : mr J b i 2 = J (b + 2) i := by simp [mr]
theorem mr3 {J : cI} {b : Nat} {i : Int} : mr J b i 3 = J (b + 3) i := by simp [mr]
theorem mr4 {J : cI} {b : Nat} {i t : Int} (h : 0 ≤ t) : mr J b i (4 + t) = J (b + 4) (5 * i + t) := by
  unfold mr
  rw [if_neg (by omega), if_neg (by omega), if_neg (by omega), if_neg (by omega), show 4 + t - 4 = t by omega]
/-- the class's rules below n are the rules ρ -/
def pv (I : cI) (R : cR) (p : Nat) (n : Int) (ρ : Int → Int → Int) : Prop := ∀ i, 0 ≤ i → i < n → rv I R (R (p + 2) i) (ρ i)
def gp (m n : Int) (ρ : Int → Int → Int) : Prop := ∀ i, 0 ≤ i → i < n → gr m (ρ i)
/-- the class's rules lie where they do -/
def rg (p r : Nat) : Prop := (p = 85 ∧ 93 ≤ r ∧ r < 158) ∨ (p = 89 ∧ 158 ≤ r ∧ r < 223)
def okp (R : cR) (p : Nat) : Prop := isP p ∧ (∀ j, 0 ≤ j → j < 65 → rg p (R (p + 2) j)) ∧ (∀ i j, 0 ≤ i → i < 65 → 0 ≤ j → j < 65 → R (p + 2) i = R (p + 2) j → i = j)
theorem rg_R {p r : Nat} (h : rg p r) : isR r := by unfold rg at h; unfold isR; omega
section V1
variable {Q : Int → cI → cR → Prop} {p a : Nat} {w h n k : Int} {I : cI} {R : cR} {ρ : Int → Int → Int}
theorem c_has {r : Nat} {c : Int} {σ : Int → Int} (hv : rv I R r σ) (h0 : 0 ≤ c ∧ c < 25) (hQ : Q (b2 (hc σ c)) I R) : wX7_hasCell r c I R Q := by
  unfold wX7_hasCell
  obtain ⟨q1, q0⟩ := b2_q (Q := fun z => Q z I R) hQ
  have := hv.2.2.2.2.2 c h0.1 h0.2
  unfold tb at this
  exact ⟨fun e => q0 (fun x => (this.mpr x) e), fun e => q1 (this.mp e)⟩
theorem c_brk {r : Nat} {σ : Int → Int} {m : Int} (hv : rv I R r σ) (hg : gr m σ) (hm : m ≤ 25) (hu : ∀ c, 0 ≤ c → c < m → 0 ≤ I a c ∧ I a c ≤ 5) (hk : 0 ≤ k ∧ k ≤ 5) (hQ : Q (b2 (br σ k (I a))) I R) : wX7_isBroken r a k I R Q := by
  obtain ⟨v0, v1, v2, v3, v4, v5⟩ := hv
  obtain ⟨g0, g1, g2, g3, g4, g5, g6, g7, g8, g9, g10, g11, g12⟩ := hg
  have hK : R r 0 < 12 := by unfold kN at v0; omega
  refine sp_brk (n := σ 3) (N := σ 1) (T := σ 2) (u := fun i => I a (σ (4 + i))) g6 g7 v3 v1 v2 (fun i h1 h2 => ?_) (fun i h1 h2 => ?_) (fun i h1 h2 => ?_) ⟨g2, g3⟩ hk hK (fun e => ?_) ?_
  · have := g11 i h1 h2; rw [v4 i h1 h2]; omega
  · show I a _ = I a _; rw [v4 i h1 h2]
  · have := g11 i h1 h2; exact hu _ this.1 this.2
  · refine g8 ?_; rw [← v0, e]; rfl
  · rw [v0]; exact hQ
theorem c_filled (hm : I p 0 * I p 1 ≤ 25) (h0 : 0 ≤ I p 0 * I p 1) (hQ : Q (cF (fun c => ¬ I (p + 1) c = 0) 0 (I p 0 * I p 1)) I R) : wX4_countFilled p I R Q := by
  have L : ∀ (m : Nat) (x s : Int), 0 ≤ x → x ≤ I p 0 * I p 1 → 0 ≤ s → s ≤ x → I p 0 * I p 1 - x < m → s + cF (fun c => ¬ I (p + 1) c = 0) x (I p 0 * I p 1) = cF (fun c => ¬ I (p + 1) c = 0) 0 (I p 0 * I p 1) → wX4_countFilled_4 Q p m s x I R := by
    intro m
    induction m with
    | zero => intro x s h0 h1 h2 h3 h4; omega
    | succ m ih =>
      intro x s h0 h1 h2 h3 h4 h5
      show wbX4_countFilled_4 Q p (wX4_countFilled_4 Q p m) s x I R
      unfold wbX4_countFilled_4 wX4_cellCount
      refine ⟨by unfold inR; omega, fun c => ?_, fun c => ⟨by omega, fun e => ?_, fun e => ?_⟩⟩
      · rw [cF_e c] at h5
        have : s = cF (fun c => ¬ I (p + 1) c = 0) 0 (I p 0 * I p 1) := by omega
        rw [this]; exact hQ
      · rw [cF_f (p := fun c => ¬ I (p + 1) c = 0) (fun w => w e)] at h5
        exact ⟨by unfold inR; omega, fun y hy => by subst hy; exact ih _ _ (by omega) (by omega) h2 (by omega) (by omega) h5⟩
      · rw [cF_t (p := fun c => ¬ I (p + 1) c = 0) (by omega) e] at h5
        exact ⟨by unfold inR; omega, fun y hy => ⟨by unfold inR; omega, fun y2 hy2 => by subst hy; subst hy2; exact ih _ _ (by omega) (by omega) (by omega) (by omega) (by omega) (by omega)⟩⟩
  exact ⟨27, L 27 0 0 (by omega) h0 (by omega) (by omega) (by omega) (by omega)⟩
theorem c_givens (hn : 0 ≤ I p 5 ∧ I p 5 ≤ 65) (hv : pv I R p (I p 5) ρ) (hQ : Q (cF (fun i => ρ i 0 = 9) 0 (I p 5)) I R) : wX4_countGivens p I R Q := by
  have L : ∀ (m : Nat) (x s : Int), 0 ≤ x → x ≤ I p 5 → 0 ≤ s → s ≤ x → I p 5 - x < m → s + cF (fun i => ρ i 0 = 9) x (I p 5) = cF (fun i => ρ i 0 = 9) 0 (I p 5) → wX4_countGivens_4 Q p m s x I R := by
    intro m
    induction m with
    | zero => intro x s h0 h1 h2 h3 h4; omega
    | succ m ih =>
      intro x s h0 h1 h2 h3 h4 h5
      show wbX4_countGivens_4 Q p (wX4_countGivens_4 Q p m) s x I R
      unfold wbX4_countGivens_4
      refine ⟨fun c => ?_, fun c => ⟨by omega, fun e => ?_, fun e => ?_⟩⟩
      · rw [cF_e c] at h5
        have : s = cF (fun i => ρ i 0 = 9) 0 (I p 5) := by omega
        rw [this]; exact hQ
      · have v0 := (hv x h0 (by omega)).1
        unfold kN at v0
        rw [cF_f (p := fun i => ρ i 0 = 9) (show ¬ ρ x 0 = 9 by omega)] at h5
        exact ⟨by unfold inR; omega, fun y hy => by subst hy; exact ih _ _ (by omega) (by omega) h2 (by omega) (by omega) h5⟩
      · have v0 := (hv x h0 (by omega)).1
        unfold kN at v0
        rw [cF_t (p := fun i => ρ i 0 = 9) (by omega) (show ρ x 0 = 9 by omega)] at h5
        exact ⟨by unfold inR; omega, fun y hy => ⟨by unfold inR; omega, fun y2 hy2 => by subst hy; subst hy2; exact ih _ _ (by omega) (by omega) (by omega) (by omega) (by omega) (by omega)⟩⟩
  exact ⟨67, L 67 0 0 (by omega) hn.1 (by omega) (by omega) (by omega) (by omega)⟩
theorem c_broken {m : Int} (hn : 0 ≤ I p 5 ∧ I p 5 ≤ 65) (hv : pv I R p (I p 5) ρ) (hg : gp m (I p 5) ρ) (hm : m ≤ 25) (hu : ∀ c, 0 ≤ c → c < m → 0 ≤ I (p + 1) c ∧ I (p + 1) c ≤ 5) (hk : 0 ≤ I p 2 ∧ I p 2 ≤ 5) (hQ : Q (cF (fun i => br (ρ i) (I p 2) (I (p + 1))) 0 (I p 5)) I R) : wX4_countBroken p I R Q := by
  have L : ∀ (l : Nat) (x s : Int), 0 ≤ x → x ≤ I p 5 → 0 ≤ s → s ≤ x → I p 5 - x < l → s + cF (fun i => br (ρ i) (I p 2) (I (p + 1))) x (I p 5) = cF (fun i => br (ρ i) (I p 2) (I (p + 1))) 0 (I p 5) → wX4_countBroken_4 Q p l s x I R := by
    intro l
    induction l with
    | zero => intro x s h0 h1 h2 h3 h4; omega
    | succ l ih =>
      intro x s h0 h1 h2 h3 h4 h5
      show wbX4_countBroken_4 Q p (wX4_countBroken_4 Q p l) s x I R
      unfold wbX4_countBroken_4
      refine ⟨fun c => ?_, fun c => ⟨by omega, c_brk (hv x h0 (by omega)) (hg x h0 (by omega)) hm hu hk ?_⟩⟩
      · rw [cF_e c] at h5
        have : s = cF (fun i => br (ρ i) (I p 2) (I (p + 1))) 0 (I p 5) := by omega
        rw [this]; exact hQ
      · by_cases b : br (ρ x) (I p 2) (I (p + 1))
        · rw [cF_t (by omega) b] at h5
          rw [b2_t b]
          exact ⟨fun w => absurd w (by decide), fun _ => ⟨by unfold inR; omega, fun y hy => ⟨by unfold inR; omega, fun y2 hy2 => by subst hy; subst hy2; exact ih _ _ (by omega) (by omega) (by omega) (by omega) (by omega) (by omega)⟩⟩⟩
        · rw [cF_f b] at h5
          rw [b2_f b]
          exact ⟨fun _ => ⟨by unfold inR; omega, fun y hy => by subst hy; exact ih _ _ (by omega) (by omega) h2 (by omega) (by omega) h5⟩, fun w => absurd rfl w⟩
  exact ⟨67, L 67 0 0 (by omega) hn.1 (by omega) (by omega) (by omega) (by omega)⟩
/-- values of a cell break a rule with it, one rule left out -/
def am (ρ : Int → Int → Int) (n k : Int) (c : Int) (v : Int → Int) (wo : Int) : Prop := exF (fun i => i ≠ wo ∧ hc (ρ i) c ∧ br (ρ i) k v) 0 n
theorem c_amiss {m c wo : Int} (hn : 0 ≤ I p 5 ∧ I p 5 ≤ 65) (hv : pv I R p (I p 5) ρ) (hg : gp m (I p 5) ρ) (hm : m ≤ 25) (hu : ∀ c, 0 ≤ c → c < m → 0 ≤ I a c ∧ I a c ≤ 5) (hk : 0 ≤ I p 2 ∧ I p 2 ≤ 5) (h0 : 0 ≤ c ∧ c < 25) (hQ : Q (b2 (am ρ (I p 5) (I p 2) c (I a) wo)) I R) : wX4_isBrokenAt p c a wo I R Q := by
  have L : ∀ (l : Nat) (x : Int), 0 ≤ x → x ≤ I p 5 → I p 5 - x < l → Q (b2 (exF (fun i => i ≠ wo ∧ hc (ρ i) c ∧ br (ρ i) (I p 2) (I a)) x (I p 5))) I R → wX4_isBrokenAt_3 Q p c a wo l x I R := by
    intro l
    induction l with
    | zero => intro x h0 h1 h2; omega
    | succ l ih =>
      intro x h0' h1 h2 hq
      show wbX4_isBrokenAt_3 Q p c a wo (wX4_isBrokenAt_3 Q p c a wo l) x I R
      unfold wbX4_isBrokenAt_3
      have nx : ¬ (x ≠ wo ∧ hc (ρ x) c ∧ br (ρ x) (I p 2) (I a)) → x < I p 5 → inR (x + 1) ∧ ∀ z, z = x + 1 → wX4_isBrokenAt_3 Q p c a wo l z I R := by
        intro e1 e2
        rw [exF_m e1] at hq
        exact ⟨by unfold inR; omega, fun z hz => by subst hz; exact ih (x + 1) (by omega) (by omega) (by omega) hq⟩
      refine ⟨fun e => by rw [exF_e e] at hq; exact hq, fun e => ⟨fun e2 => nx (fun z => z.1 e2) (by omega), fun e2 => ⟨by omega, c_has (hv x h0' (by omega)) h0 ?_⟩⟩⟩
      by_cases b1 : hc (ρ x) c
      · rw [b2_t b1]
        refine ⟨fun z => absurd z (by decide), fun _ => ⟨by omega, c_brk (hv x h0' (by omega)) (hg x h0' (by omega)) hm hu hk ?_⟩⟩
        by_cases b : br (ρ x) (I p 2) (I a)
        · rw [b2_t b]
          refine ⟨fun z => absurd z (by decide), fun _ => ?_⟩
          rw [exF_h (by omega) ⟨e2, b1, b⟩] at hq
          exact hq
        · rw [b2_f b]
          exact ⟨fun _ => nx (fun z => b z.2.2) (by omega), fun z => absurd rfl z⟩
      · rw [b2_f b1]
        exact ⟨fun _ => nx (fun z => b1 z.2.1) (by omega), fun z => absurd rfl z⟩
  exact ⟨67, L 67 0 (by omega) hn.1 (by omega) hQ⟩
end V1
section V2
variable {Q : Int → cI → Prop} {a : Nat} {J : cI} {m : Int}
theorem m_has {r c : Int} (h : 0 ≤ r ∧ r < 70) (hg : gr m (mr J 1015 r)) (hQ : Q (b2 (hc (mr J 1015 r) c)) J) : wX12_hasCell r c J Q := by
  obtain ⟨q1, q0⟩ := b2_q (Q := fun z => Q z J) hQ
  have g6 := hg.2.2.2.2.2.2.1
  have g7 := hg.2.2.2.2.2.2.2.1
  have e3 : mr J 1015 r 3 = J 1018 r := mr3
  unfold hc at q1 q0
  rw [e3] at g6 g7 q1 q0
  have L : ∀ (l : Nat) (x f : Int), 0 ≤ x → x ≤ J 1018 r → J 1018 r - x < l → (f = 0 ∨ f = 1) → (f = 1 ↔ ∃ i, 0 ≤ i ∧ i < x ∧ mr J 1015 r (4 + i) = c) → wX12_hasCell_5 Q r c l f x J := by
    intro l
    induction l with
    | zero => intro x f h0 h1 h2; omega
    | succ l ih =>
      intro x f h0 h1 h2 hf hh
      show wbX12_hasCell_5 Q r c (wX12_hasCell_5 Q r c l) f x J
      unfold wbX12_hasCell_5
      refine ⟨h, fun e => ⟨hf, ?_⟩, fun e => ⟨fun e1 => ?_, fun e0 => ?_⟩⟩
      · have ex : x = J 1018 r := by omega
        subst ex
        rcases hf with rfl | rfl
        · exact q0 (fun z => absurd (hh.mpr z) (by decide))
        · exact q1 (hh.mp rfl)
      · have e2 : f = 1 := by omega
        refine ⟨by unfold inR; omega, fun z hz => ?_⟩
        subst hz; subst e2
        obtain ⟨i, i1, i2, i3⟩ := hh.mp rfl
        exact ih (x + 1) 1 (by omega) (by omega) (by omega) (Or.inr rfl) ⟨fun _ => ⟨i, i1, by omega, i3⟩, fun _ => rfl⟩
      · unfold wX12_cellOf
        have m4 : mr J 1015 r (4 + x) = J 1019 (5 * r + x) := mr4 h0
        refine ⟨by omega, fun e2 => ⟨by unfold inR; omega, fun z hz => ?_⟩, fun e2 => ⟨by unfold inR; omega, fun z hz => ?_⟩⟩
        · subst hz
          refine ih (x + 1) 0 (by omega) (by omega) (by omega) (Or.inl rfl) ⟨fun z => absurd z (by decide), fun ⟨i, i1, i2, i3⟩ => ?_⟩
          by_cases ei : i = x
          · subst ei; rw [m4] at i3; exact absurd i3 e2
          · exact absurd (hh.mpr ⟨i, i1, by omega, i3⟩) (by omega)
        · subst hz
          exact ih (x + 1) 1 (by omega) (by omega) (by omega) (Or.inr rfl) ⟨fun _ => ⟨x, h0, by omega, by rw [m4]; exact e2⟩, fun _ => rfl⟩
  exact ⟨7, L 7 0 0 (by omega) g6 (by omega) (Or.inl rfl) ⟨fun z => absurd z (by decide), fun ⟨i, i1, i2, _⟩ => by omega⟩⟩
theorem m_brk {r : Int} (h : 0 ≤ r ∧ r < 70) (hg : gr m (mr J 1015 r)) (hm : m ≤ 25) (hu : ∀ c, 0 ≤ c → c < m → 0 ≤ J a c ∧ J a c ≤ 5) (hk : 0 ≤ J 1000 13 ∧ J 1000 13 ≤ 5) (hQ : Q (b2 (br (mr J 1015 r) (J 1000 13) (J a))) J) : wX12_isBroken r a J Q := by
  obtain ⟨g0, g1, g2, g3, g4, g5, g6, g7, g8, g9, g10, g11, g12⟩ := hg
  refine sm_brk (n := mr J 1015 r 3) (κ := mr J 1015 r 0) (N := mr J 1015 r 1) (T := mr J 1015 r 2) (h := J 1000 13) (u := fun i => J a (mr J 1015 r (4 + i))) h g6 g7 mr3.symm mr0.symm mr1.symm mr2.symm rfl (fun i h1 h2 => ?_) (fun i h1 h2 => ?_) (fun i h1 h2 => ?_) hk ⟨g2, g3⟩ ⟨g0, g1⟩ g9 hQ
  · have := g11 i h1 h2; rw [show mr J 1015 r (4 + i) = J 1019 (5 * r + i) from mr4 h1] at this; omega
  · show J a _ = J a _; rw [mr4 h1]
  · have := g11 i h1 h2; exact hu _ this.1 this.2
theorem m_filled (hm : J 1000 11 * J 1000 12 ≤ 25) (h0 : 0 ≤ J 1000 11 * J 1000 12) (hp : ∀ c, 0 ≤ c → c < J 1000 11 * J 1000 12 → 0 ≤ J 1020 c) (hQ : Q (cF (fun c => ¬ J 1020 c = 0) 0 (J 1000 11 * J 1000 12)) J) : wX12_filled J Q := by
  have L : ∀ (l : Nat) (x s : Int), 0 ≤ x → x ≤ J 1000 11 * J 1000 12 → 0 ≤ s → s ≤ x → J 1000 11 * J 1000 12 - x < l → s + cF (fun c => ¬ J 1020 c = 0) x (J 1000 11 * J 1000 12) = cF (fun c => ¬ J 1020 c = 0) 0 (J 1000 11 * J 1000 12) → wX12_filled_4 Q l s x J := by
    intro l
    induction l with
    | zero => intro x s h0 h1 h2 h3 h4; omega
    | succ l ih =>
      intro x s h0 h1 h2 h3 h4 h5
      show wbX12_filled_4 Q (wX12_filled_4 Q l) s x J
      unfold wbX12_filled_4 wX12_cells
      have hpx := hp x h0
      refine ⟨by unfold inR; omega, fun c => ?_, fun c => ⟨by omega, fun e => ?_, fun e => ?_⟩⟩
      · rw [cF_e c] at h5
        have : s = cF (fun c => ¬ J 1020 c = 0) 0 (J 1000 11 * J 1000 12) := by omega
        rw [this]; exact hQ
      · rw [cF_f (p := fun c => ¬ J 1020 c = 0) (fun w => w (by have := hpx (by omega); omega))] at h5
        exact ⟨by unfold inR; omega, fun y hy => ⟨by unfold inR; omega, fun y2 hy2 => by subst hy; subst hy2; exact ih _ _ (by omega) (by omega) (by omega) (by omega) (by omega) (by omega)⟩⟩
      · rw [cF_t (p := fun c => ¬ J 1020 c = 0) (by omega) (fun w => e (by omega))] at h5
        exact ⟨by unfold inR; omega, fun y hy => ⟨by unfold inR; omega, fun y2 hy2 => by subst hy; subst hy2; exact ih _ _ (by omega) (by omega) (by omega) (by omega) (by omega) (by omega)⟩⟩
  exact ⟨27, L 27 0 0 (by omega) h0 (by omega) (by omega) (by omega) (by omega)⟩
theorem m_rulesIs (hn : 0 ≤ J 1000 14 ∧ J 1000 14 ≤ 65) (hQ : Q (cF (fun i => mr J 1015 i 0 = 9) 0 (J 1000 14)) J) : wX12_rulesIs J Q := by
  have L : ∀ (l : Nat) (x s : Int), 0 ≤ x → x ≤ J 1000 14 → 0 ≤ s → s ≤ x → J 1000 14 - x < l → s + cF (fun i => mr J 1015 i 0 = 9) x (J 1000 14) = cF (fun i => mr J 1015 i 0 = 9) 0 (J 1000 14) → wX12_rulesIs_4 Q l s x J := by
    intro l
    induction l with
    | zero => intro x s h0 h1 h2 h3 h4; omega
    | succ l ih =>
      intro x s h0 h1 h2 h3 h4 h5
      show wbX12_rulesIs_4 Q (wX12_rulesIs_4 Q l) s x J
      unfold wbX12_rulesIs_4
      have e0 := mr0 (J := J) (b := 1015) (i := x)
      refine ⟨fun c => ?_, fun c => ⟨by omega, fun e => ?_, fun e => ?_⟩⟩
      · rw [cF_e c] at h5
        have : s = cF (fun i => mr J 1015 i 0 = 9) 0 (J 1000 14) := by omega
        rw [this]; exact hQ
      · rw [cF_f (p := fun i => mr J 1015 i 0 = 9) (show ¬ mr J 1015 x 0 = 9 by omega)] at h5
        exact ⟨by unfold inR; omega, fun y hy => ⟨by unfold inR; omega, fun y2 hy2 => by subst hy; subst hy2; exact ih _ _ (by omega) (by omega) (by omega) (by omega) (by omega) (by omega)⟩⟩
      · rw [cF_t (p := fun i => mr J 1015 i 0 = 9) (by omega) (show mr J 1015 x 0 = 9 by omega)] at h5
        exact ⟨by unfold inR; omega, fun y hy => ⟨by unfold inR; omega, fun y2 hy2 => by subst hy; subst hy2; exact ih _ _ (by omega) (by omega) (by omega) (by omega) (by omega) (by omega)⟩⟩
  exact ⟨67, L 67 0 0 (by omega) hn.1 (by omega) (by omega) (by omega) (by omega)⟩
theorem m_broken (hn : 0 ≤ J 1000 14 ∧ J 1000 14 ≤ 65) (hg : gp m (J 1000 14) (mr J 1015)) (hm : m ≤ 25) (hu : ∀ c, 0 ≤ c → c < m → 0 ≤ J 1020 c ∧ J 1020 c ≤ 5) (hk : 0 ≤ J 1000 13 ∧ J 1000 13 ≤ 5) (hQ : Q (cF (fun i => br (mr J 1015 i) (J 1000 13) (J 1020)) 0 (J 1000 14)) J) : wX12_broken J Q := by
  have L : ∀ (l : Nat) (x s : Int), 0 ≤ x → x ≤ J 1000 14 → 0 ≤ s → s ≤ x → J 1000 14 - x < l → s + cF (fun i => br (mr J 1015 i) (J 1000 13) (J 1020)) x (J 1000 14) = cF (fun i => br (mr J 1015 i) (J 1000 13) (J 1020)) 0 (J 1000 14) → wX12_broken_4 Q l s x J := by
    intro l
    induction l with
    | zero => intro x s h0 h1 h2 h3 h4; omega
    | succ l ih =>
      intro x s h0 h1 h2 h3 h4 h5
      show wbX12_broken_4 Q (wX12_broken_4 Q l) s x J
      unfold wbX12_broken_4
      refine ⟨fun c => ?_, fun c => m_brk (by omega) (hg x h0 (by omega)) hm hu hk ?_⟩
      · rw [cF_e c] at h5
        have : s = cF (fun i => br (mr J 1015 i) (J 1000 13) (J 1020)) 0 (J 1000 14) := by omega
        rw [this]; exact hQ
      · by_cases b : br (mr J 1015 x) (J 1000 13) (J 1020)
        · rw [cF_t (by omega) b] at h5
          rw [b2_t b]
          exact ⟨fun w => absurd w (by decide), fun _ => ⟨by unfold inR; omega, fun y hy => ⟨by unfold inR; omega, fun y2 hy2 => by subst hy; subst hy2; exact ih _ _ (by omega) (by omega) (by omega) (by omega) (by omega) (by omega)⟩⟩⟩
        · rw [cF_f b] at h5
          rw [b2_f b]
          exact ⟨fun _ => ⟨by unfold inR; omega, fun y hy => ⟨by unfold inR; omega, fun y2 hy2 => by subst hy; subst hy2; exact ih _ _ (by omega) (by omega) (by omega) (by omega) (by omega) (by omega)⟩⟩, fun w => absurd rfl w⟩
  exact ⟨67, L 67 0 0 (by omega) hn.1 (by omega) (by omega) (by omega) (by omega)⟩
theorem m_amiss {c wo : Int} (hn : 0 ≤ J 1000 14 ∧ J 1000 14 ≤ 65) (hg : gp m (J 1000 14) (mr J 1015)) (hm : m ≤ 25) (hu : ∀ c, 0 ≤ c → c < m → 0 ≤ J 1021 c ∧ J 1021 c ≤ 5) (hk : 0 ≤ J 1000 13 ∧ J 1000 13 ≤ 5) (hQ : Q (b2 (am (mr J 1015) (J 1000 14) (J 1000 13) c (J 1021) wo)) J) : wX12_isAmiss c wo J Q := by
  have L : ∀ (l : Nat) (x : Int), 0 ≤ x → x ≤ J 1000 14 → J 1000 14 - x < l → Q (b2 (exF (fun i => i ≠ wo ∧ hc (mr J 1015 i) c ∧ br (mr J 1015 i) (J 1000 13) (J 1021)) x (J 1000 14))) J → wX12_isAmiss_2 Q c wo l x J := by
    intro l
    induction l with
    | zero => intro x h0 h1 h2; omega
    | succ l ih =>
      intro x h0 h1 h2 hq
      show wbX12_isAmiss_2 Q c wo (wX12_isAmiss_2 Q c wo l) x J
      unfold wbX12_isAmiss_2
      have nx : ¬ (x ≠ wo ∧ hc (mr J 1015 x) c ∧ br (mr J 1015 x) (J 1000 13) (J 1021)) → x < J 1000 14 → inR (x + 1) ∧ ∀ z, z = x + 1 → wX12_isAmiss_2 Q c wo l z J := by
        intro e1 e2
        rw [exF_m e1] at hq
        exact ⟨by unfold inR; omega, fun z hz => by subst hz; exact ih (x + 1) (by omega) (by omega) (by omega) hq⟩
      refine ⟨fun e => by rw [exF_e e] at hq; exact hq, fun e => ⟨fun e2 => nx (fun z => z.1 e2) (by omega), fun e2 => m_has (by omega) (hg x h0 (by omega)) ?_⟩⟩
      by_cases b1 : hc (mr J 1015 x) c
      · rw [b2_t b1]
        refine ⟨fun z => absurd z (by decide), fun _ => m_brk (by omega) (hg x h0 (by omega)) hm hu hk ?_⟩
        by_cases b : br (mr J 1015 x) (J 1000 13) (J 1021)
        · rw [b2_t b]
          refine ⟨fun z => absurd z (by decide), fun _ => ?_⟩
          rw [exF_h (by omega) ⟨e2, b1, b⟩] at hq
          exact hq
        · rw [b2_f b]
          exact ⟨fun _ => nx (fun z => b z.2.2) (by omega), fun z => absurd rfl z⟩
      · rw [b2_f b1]
        exact ⟨fun _ => nx (fun z => b1 z.2.1) (by omega), fun z => absurd rfl z⟩
  exact ⟨67, L 67 0 (by omega) hn.1 (by omega) hQ⟩
end V2
