/-! ===== one solution, and what keeps it ===== -/
def UQ (n : Int) (ρ : Int → Int → Int) (x : Int → Int) : Prop := ∀ y, SL 4 n (-1) ρ (fun _ => 0) y ↔ y = x
def g3 (n : Int) (ρ : Int → Int → Int) : Prop := ∀ i, 0 ≤ i → i < n → 1 ≤ ρ i 3
theorem br_e9 {ρ σ : Int → Int} {h : Int} {v : Int → Int} (h5 : ρ 3 ≤ 5) (e : e9 ρ σ) : br ρ h v ↔ br σ h v := by
  unfold br
  rw [← e 0 (by decide) (by decide) (Or.inl (by decide)), ← e 1 (by decide) (by decide) (Or.inl (by decide)), ← e 2 (by decide) (by decide) (Or.inl (by decide)), ← e9_3 e]
  refine brk_cg (fun i i0 i1 => ?_)
  show v (ρ (4 + i)) = v (σ (4 + i))
  rw [e (4 + i) (by omega) (by omega) (Or.inr (by omega))]
theorem SL_e9 {h n wo : Int} {ρ σ : Int → Int → Int} {on x : Int → Int} (g : gp 4 n ρ) (e : ∀ i, 0 ≤ i → i < n → e9 (ρ i) (σ i)) : SL h n wo ρ on x ↔ SL h n wo σ on x := by
  unfold SL
  refine and_congr Iff.rfl (and_congr Iff.rfl ⟨fun q i i0 i1 hw hb => q i i0 i1 hw ((br_e9 (g i i0 i1).2.2.2.2.2.2.2.1 (e i i0 i1)).mpr hb), fun q i i0 i1 hw hb => q i i0 i1 hw ((br_e9 (g i i0 i1).2.2.2.2.2.2.2.1 (e i i0 i1)).mp hb)⟩)
theorem UQ_e9 {n : Int} {ρ σ : Int → Int → Int} {x : Int → Int} (g : gp 4 n ρ) (e : ∀ i, 0 ≤ i → i < n → e9 (ρ i) (σ i)) (h : UQ n ρ x) : UQ n σ x := fun y => (SL_e9 g e).symm.trans (h y)
theorem g3_e9 {n : Int} {ρ σ : Int → Int → Int} (e : ∀ i, 0 ≤ i → i < n → e9 (ρ i) (σ i)) (h : g3 n ρ) : g3 n σ := fun i i0 i1 => by rw [← e9_3 (e i i0 i1)]; exact h i i0 i1
theorem SL_dr {h n r : Int} {ρ : Int → Int → Int} {on x : Int → Int} (r0 : 0 ≤ r) (r1 : r < n) : SL h (n - 1) (-1) (dr r ρ) on x ↔ SL h n r ρ on x := by
  unfold SL
  refine and_congr Iff.rfl (and_congr Iff.rfl ⟨fun q i i0 i1 hw => ?_, fun q i i0 i1 _ => ?_⟩)
  · by_cases c : i < r
    · have := q i i0 (by omega) (by omega)
      unfold dr at this
      rw [if_pos c] at this
      exact this
    · have := q (i - 1) (by omega) (by omega) (by omega)
      unfold dr at this
      rw [if_neg (by omega), show i - 1 + 1 = i by omega] at this
      exact this
  · unfold dr
    by_cases c : i < r
    · rw [if_pos c]; exact q i i0 (by omega) (by omega)
    · rw [if_neg c]; exact q (i + 1) (by omega) (by omega) (by omega)
theorem jst_u {n wo : Int} {ρ : Int → Int → Int} {x : Int → Int} (g : gp 4 n ρ) (hj : jst 4 n 4 wo ρ) (hx : SL 4 n wo ρ (fun _ => 0) x) : ∀ y, SL 4 n wo ρ (fun _ => 0) y → y = x := by
  have go := goP_2 (h := 4) (n := n) (wo := wo) (most := 2) (ρ := ρ) (by decide) (by decide) (by decide) (by decide)
  have d := dfs4 go rfl rfl
  have hj' : fnd (dfs (sPr 2 4 n wo ρ (fun _ => 0) (fun _ => 1)) 4 0 st0) = 1 := hj
  rw [hj'] at d
  generalize hL : aS (sPr 2 4 n wo ρ (fun _ => 0) (fun _ => 1)) 4 0 (fun _ => 0) = L at d
  have mem : ∀ y, SL 4 n wo ρ (fun _ => 0) y → y ∈ L := fun y hy => by rw [← hL]; exact SL_mem go g hy
  have d2 := d.2.1
  have e2 : (sPr 2 4 n wo ρ (fun _ => 0) (fun _ => 1)).1 = 2 := rfl
  rw [e2] at d2
  have l1 : L.length = 1 := by
    by_cases q : (L.length : Int) < 2
    · rw [if_pos q] at d2; omega
    · rw [if_neg q] at d2; omega
  obtain ⟨a, rfl⟩ := List.length_eq_one_iff.mp l1
  intro y hy
  rw [List.mem_singleton.mp (mem y hy), List.mem_singleton.mp (mem x hx)]
theorem SL_less {h n wo : Int} {ρ : Int → Int → Int} {on x : Int → Int} (hx : SL h n (-1) ρ on x) : SL h n wo ρ on x := ⟨hx.1, hx.2.1, fun i i0 i1 _ => hx.2.2 i i0 i1 (by omega)⟩
theorem dr_g3 {n r : Int} {ρ : Int → Int → Int} (r0 : 0 ≤ r) (h : g3 n ρ) : g3 (n - 1) (dr r ρ) := fun i i0 i1 => by
  unfold dr
  split
  · exact h i i0 (by omega)
  · exact h (i + 1) (by omega) (by omega)
theorem thS_uq {f c : Int} {k : Nat} {s : tS} {x : Int → Int} (hT : TI 4 f (k + 1) c s) (h3 : g3 s.1 s.2) (hu : UQ s.1 s.2 x) : g3 (thS 4 4 f c s).1 (thS 4 4 f c s).2 ∧ UQ (thS 4 4 f c s).1 (thS 4 4 f c s).2 x := by
  have hr := TI_r hT
  have r0 : 0 ≤ thI f c s := by have := hT.1; omega
  unfold thS
  by_cases q : jst 4 s.1 4 (thI f c s) s.2
  · rw [if_pos q]
    refine ⟨dr_g3 r0 h3, fun y => ?_⟩
    have hx := (hu x).mpr rfl
    show SL 4 (s.1 - 1) (-1) (dr (thI f c s) s.2) _ y ↔ y = x
    rw [SL_dr r0 hr.2.1]
    exact ⟨fun hy => jst_u hT.2.2.2.1 q (SL_less hx) y hy, fun e => by rw [e]; exact SL_less hx⟩
  · rw [if_neg q]
    exact ⟨h3, hu⟩
theorem thn_uq {f : Int} {x : Int → Int} : ∀ (k : Nat) (c : Int) (s : tS), TI 4 f k c s → g3 s.1 s.2 → UQ s.1 s.2 x → g3 (thn 4 4 f k c s).1 (thn 4 4 f k c s).2 ∧ UQ (thn 4 4 f k c s).1 (thn 4 4 f k c s).2 x := by
  intro k
  induction k with
  | zero => intro c s _ h3 hu; exact ⟨h3, hu⟩
  | succ k ih =>
    intro c s hT h3 hu
    have h := thS_uq hT h3 hu
    exact ih ((c + 7) % 4) (thS 4 4 f c s) (TI_s (Or.inl rfl) hT) h.1 h.2
/-- a given that is not broken tells its cell's value -/
theorem gvn_br {c v h : Int} {x : Int → Int} (hx : x c ≠ 0) : ¬ br (gvn c v) h x ↔ x c = v := by
  have e : br (gvn c v) h x ↔ x c ≠ v := by
    have ee : br (gvn c v) h x = brk 9 v 0 1 h (fun i => x (gvn c v (4 + i))) := rfl
    rw [ee]
    constructor
    · intro q
      unfold brk at q
      rcases q with q | q | q | q | q | q | q | q | q | q | q
      · exact absurd q.1 (by decide)
      · exact absurd q.1 (by decide)
      · exact absurd q.1 (by decide)
      · rcases q.1 with q | q <;> exact absurd q (by decide)
      · exact absurd q.1 (by decide)
      · exact absurd q.1 (by decide)
      · exact absurd q.1 (by decide)
      · exact absurd q.1 (by decide)
      · obtain ⟨-, i, i0, i1, -, q2⟩ := q
        have : i = 0 := by omega
        subst this
        exact q2
      · exact absurd q.1 (by decide)
      · exact absurd q.1 (by decide)
    · intro q
      exact Or.inr (Or.inr (Or.inr (Or.inr (Or.inr (Or.inr (Or.inr (Or.inr (Or.inl ⟨rfl, 0, by decide, by decide, hx, q⟩))))))))
  rw [e]
  exact ⟨fun q => by by_cases w : x c = v; exact w; exact absurd w q, fun q w => w q⟩
/-- all cells given -/
theorem fam_uq {f : Int} {σ : Int → Int → Int} {x : Int → Int} (f0 : 0 ≤ f) (hx : SL 4 f (-1) σ (fun _ => 0) x) : UQ (f + 4) (fam σ f x) x := by
  have lo : ∀ i, i < f → fam σ f x i = σ i := fun i q => if_pos q
  have hi : ∀ i, f ≤ i → fam σ f x i = gvn (i - f) (x (i - f)) := fun i q => if_neg (by omega)
  intro y
  constructor
  · intro hy
    funext c
    by_cases q : 0 ≤ c ∧ c < 4
    · have := hy.2.2 (f + c) (by omega) (by omega) (by omega)
      rw [hi _ (by omega), show f + c - f = c by omega] at this
      have y0 := hy.2.1 c q.1 q.2
      exact (gvn_br (by omega)).mp this
    · rw [hy.1 c (by omega), hx.1 c (by omega)]
  · rintro rfl
    refine ⟨hx.1, hx.2.1, fun i i0 i1 hw => ?_⟩
    by_cases q : i < f
    · rw [lo i q]; exact hx.2.2 i i0 q hw
    · rw [hi i (by omega)]
      have y0 := hx.2.1 (i - f) (by omega) (by omega)
      exact (gvn_br (by omega)).mpr rfl
theorem fam_g3 {f : Int} {σ : Int → Int → Int} {x : Int → Int} (h : g3 f σ) : g3 (f + 4) (fam σ f x) := fun i i0 i1 => by
  unfold fam
  by_cases q : i < f
  · rw [if_pos q]; exact h i i0 q
  · rw [if_neg q]; show (1 : Int) ≤ 1; decide
theorem fl_g3 {ρ : Int → Int → Int} : ∀ m : Nat, g3 m ρ → g3 (fl ρ m).1 (fl ρ m).2 := by
  intro m
  induction m with
  | zero => intro _ i i0 i1; exact absurd (show i < 0 from i1) (by omega)
  | succ m ih =>
    intro h
    have h' := ih (fun i i0 i1 => h i i0 (by omega))
    by_cases q : ρ (m : Int) 0 = 9
    · rw [fl_9 q]; exact h'
    · rw [fl_n q]
      intro i i0 i1
      have i1' : i < (fl ρ m).1 + 1 := i1
      show 1 ≤ (if i = (fl ρ m).1 then ρ (m : Int) else (fl ρ m).2 i) 3
      by_cases e : i = (fl ρ m).1
      · rw [if_pos e]; exact h m (by omega) (by omega)
      · rw [if_neg e]; exact h' i i0 (by omega)
/-- moved rules, moved solutions -/
def cpM (y t : Int → Int) : Int → Int := fun c => if 0 ≤ c ∧ c < 4 then y (t c) else 0
def bij4 (t ti : Int → Int) : Prop := ∀ c, 0 ≤ c → c < 4 → 0 ≤ t c ∧ t c < 4 ∧ 0 ≤ ti c ∧ ti c < 4 ∧ ti (t c) = c ∧ t (ti c) = c
theorem br_mv {t : Int → Int} {σ y : Int → Int} {h : Int} (g : gr 4 σ) : br (mv t σ) h y ↔ br σ h (cpM y t) := by
  unfold br
  rw [mv_l (by decide), mv_l (by decide), mv_l (by decide), mv_l (by decide)]
  refine brk_cg (fun i i0 i1 => ?_)
  have hc := g.2.2.2.2.2.2.2.2.2.2.2.1 i i0 i1
  show y (mv t σ (4 + i)) = cpM y t (σ (4 + i))
  rw [mv_c i0 i1]
  unfold cpM
  rw [if_pos hc]
theorem mv_uq {n : Int} {ρ : Int → Int → Int} {t ti x : Int → Int} (hb : bij4 t ti) (g : gp 4 n ρ) (hu : UQ n ρ x) : UQ n (fun i => mv t (ρ i)) (cpM x ti) := by
  have hx := (hu x).mpr rfl
  have key : ∀ y, SL 4 n (-1) (fun i => mv t (ρ i)) (fun _ => 0) y ↔ (∀ c, (c < 0 ∨ 4 ≤ c) → y c = 0) ∧ SL 4 n (-1) ρ (fun _ => 0) (cpM y t) := fun y => by
    constructor
    · rintro ⟨a1, a2, a3⟩
      refine ⟨a1, fun c q => by unfold cpM; rw [if_neg (by omega)], fun c c0 c1 => ?_, fun i i0 i1 hw q => a3 i i0 i1 hw ((br_mv (g i i0 i1)).mpr q)⟩
      have b := hb c c0 c1
      unfold cpM
      rw [if_pos ⟨c0, c1⟩]
      exact ⟨(a2 _ b.1 b.2.1).1, (a2 _ b.1 b.2.1).2.1, fun q => absurd rfl q⟩
    · rintro ⟨a1, -, a2, a3⟩
      refine ⟨a1, fun c c0 c1 => ?_, fun i i0 i1 hw q => a3 i i0 i1 hw ((br_mv (g i i0 i1)).mp q)⟩
      have b := hb c c0 c1
      have a := a2 (ti c) b.2.2.1 b.2.2.2.1
      unfold cpM at a
      rw [if_pos ⟨b.2.2.1, b.2.2.2.1⟩, b.2.2.2.2.2] at a
      exact ⟨a.1, a.2.1, fun q => absurd rfl q⟩
  intro y
  rw [key y]
  constructor
  · rintro ⟨a1, a2⟩
    have e := (hu _).mp a2
    funext c
    unfold cpM
    by_cases q : 0 ≤ c ∧ c < 4
    · have b := hb c q.1 q.2
      rw [if_pos q, ← e]
      unfold cpM
      rw [if_pos ⟨b.2.2.1, b.2.2.2.1⟩, b.2.2.2.2.2]
    · rw [if_neg q]; exact a1 c (by omega)
  · rintro rfl
    refine ⟨fun c q => by unfold cpM; rw [if_neg (by omega)], ?_⟩
    have e : cpM (cpM x ti) t = x := by
      funext c
      unfold cpM
      by_cases q : 0 ≤ c ∧ c < 4
      · have b := hb c q.1 q.2
        rw [if_pos q, if_pos ⟨b.1, b.2.1⟩, b.2.2.2.2.1]
      · rw [if_neg q, hx.1 c (by omega)]
    rw [e]
    exact hx
/-- the two turns of a grid of two by two -/
theorem turn_b {a : Int} (ha : a = 0 ∨ a = 1) : ∃ ti, bij4 (mvT a 2 2) ti := by
  have fin : ∀ (t ti : Int → Int), (∀ k : Fin 4, 0 ≤ t k.val ∧ t k.val < 4 ∧ 0 ≤ ti k.val ∧ ti k.val < 4 ∧ ti (t k.val) = k.val ∧ t (ti k.val) = k.val) → bij4 t ti := fun t ti h c c0 c1 => by
    have := h ⟨c.toNat, by omega⟩
    rw [show ((c.toNat : Nat) : Int) = c by omega] at this
    exact this
  rcases ha with rfl | rfl
  · exact ⟨mvT 0 2 2, fin _ _ (by decide +kernel)⟩
  · exact ⟨fun c => if c = 0 then 2 else if c = 1 then 0 else if c = 2 then 3 else 1, fin _ _ (by decide +kernel)⟩
