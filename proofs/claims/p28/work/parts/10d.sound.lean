/-! ===== reasoning leaves what solutions have ===== -/
/-- x lies in the sets -/
def inS (S x : Int → Int) : Prop := ∀ c, 0 ≤ c → c < 4 → tb (S c) (x c - 1)
theorem hf_ok {σ : Int → Int} {h : Int} {S x : Int → Int} {p0 : Int} (g : gr 4 σ) (hb : ¬ br σ h x) (hx : ∀ c, 0 ≤ c → c < 4 → 1 ≤ x c ∧ x c ≤ h) (hS : inS S x) : ∀ (d : Nat) (p : Int) (v : Int → Int), 0 ≤ p → p + d = σ 3 → (∀ c, v c ≠ 0 → x c = v c) → hf σ h S p0 d p v := by
  have nb : ∀ v : Int → Int, (∀ c, v c ≠ 0 → x c = v c) → ¬ br σ h v := fun v hv q => hb (br_mono g (fun c _ _ z => hv c z) hx q)
  intro d
  induction d with
  | zero => intro p v _ _ hv; exact nb v hv
  | succ d ih =>
    intro p v p0' p1 hv
    refine ⟨nb v hv, fun _ => ih (p + 1) v (by omega) (by omega) hv, fun _ => ?_⟩
    have hc := g.2.2.2.2.2.2.2.2.2.2.2.1 p p0' (by omega)
    have hx' := hx _ hc.1 hc.2
    refine ⟨x (σ (4 + p)), hx'.1, by omega, hS _ hc.1 hc.2, ih (p + 1) _ (by omega) (by omega) (fun c q => ?_)⟩
    by_cases e : c = σ (4 + p)
    · subst e; rw [uFe]
    · rw [uFn e] at q ⊢
      exact hv c q
theorem rf_ne {σ : Int → Int} {h : Int} {S x : Int → Int} {p w : Int} (g : gr 4 σ) (hb : ¬ br σ h x) (hx : ∀ c, 0 ≤ c → c < 4 → 1 ≤ x c ∧ x c ≤ h) (hS : inS S x) (p0 : 0 ≤ p) (p1 : p < σ 3) (hr : rf σ h S p w) : w ≠ x (σ (4 + p)) := by
  intro e
  refine hr.2 (hf_ok g hb hx hS (σ 3).toNat 0 _ (Int.le_refl 0) (by omega) (fun c q => ?_))
  by_cases z : c = σ (4 + p)
  · subst z; rw [uFe]; exact e.symm
  · rw [uFn z] at q
    exact absurd rfl q
theorem tk_keep : ∀ s : Fin 32, ∀ w : Fin 5, ∀ y : Fin 5, (¬ y = w ∧ ¬ iAnd (iShr (s.val : Int) (w.val : Int)) 1 = 0 ∧ ¬ iAnd (iShr (s.val : Int) (y.val : Int)) 1 = 0 → ¬ iAnd (iShr ((s.val : Int) - iShl 1 (w.val : Int)) (y.val : Int)) 1 = 0) := by decide +kernel
theorem tb_keep {s w y : Int} (s0 : 0 ≤ s) (s1 : s < 32) (w0 : 1 ≤ w) (w1 : w ≤ 5) (y0 : 1 ≤ y) (y1 : y ≤ 5) (hn : w ≠ y) (h1 : tb s (w - 1)) (h2 : tb s (y - 1)) : tb (tk s w) (y - 1) := by
  have k := tk_keep ⟨s.toNat, by omega⟩ ⟨(w - 1).toNat, by omega⟩ ⟨(y - 1).toNat, by omega⟩
  dsimp only at k
  rw [Int.toNat_of_nonneg s0, Int.toNat_of_nonneg (show 0 ≤ w - 1 by omega), Int.toNat_of_nonneg (show 0 ≤ y - 1 by omega)] at k
  exact k ⟨fun z => by have := Fin.mk.inj z; omega, h1, h2⟩
section SND
variable {ρ : Int → Int → Int} {n h : Int}
/-- steps that keep something -/
theorem itF_k {α : Type} {f : Int → α → α} {P : α → Prop} {lo hi : Int} (hf : ∀ x s, lo ≤ x → x < hi → P s → P (f x s)) : ∀ (k : Nat) (x : Int) (s : α), lo ≤ x → x + k ≤ hi → P s → P (itF f k x s) := by
  intro k
  induction k with
  | zero => intro x s _ _ hs; exact hs
  | succ k ih => intro x s x0 x1 hs; exact ih (x + 1) (f x s) (by omega) (by omega) (hf x s x0 (by omega) hs)
/-- what one deduction keeps: the solution x in the sets, what stands at other cells, the range -/
def kSs (S0 x : Int → Int) (s : rT) : Prop := gR s ∧ inS s.1 x ∧ ∀ c, 4 ≤ c → s.1 c = S0 c
theorem ded_k {σ : Int → Int} {S0 x : Int → Int} {p w : Int} {s : rT} (g : gr 4 σ) (h5 : h ≤ 5) (hb : ¬ br σ h x) (hx : ∀ c, 0 ≤ c → c < 4 → 1 ≤ x c ∧ x c ≤ h) (p0 : 0 ≤ p) (p1 : p < σ 3) (w0 : 1 ≤ w) (w1 : w ≤ h) (hs : kSs S0 x s) : kSs S0 x (ded σ h p w s) := by
  obtain ⟨a1, a2, a3⟩ := hs
  have hc := g.2.2.2.2.2.2.2.2.2.2.2.1 p p0 p1
  refine ⟨(ded_ok (gr_w (by decide) g) ⟨p0, p1⟩ ⟨w0, by omega⟩ a1).1, ?_⟩
  unfold ded
  by_cases q : rf σ h s.1 p w
  · rw [if_pos q]
    have hn := rf_ne g hb hx a2 p0 p1 q
    refine ⟨fun c c0 c1 => ?_, fun c c0 => ?_⟩
    · show tb (upF s.1 (σ (4 + p)) (tk (s.1 (σ (4 + p))) w) c) (x c - 1)
      by_cases z : c = σ (4 + p)
      · subst z
        rw [uFe]
        have r := a1.1 _ hc.1 (by omega)
        have hx' := hx _ hc.1 hc.2
        exact tb_keep r.1 r.2 w0 (by omega) hx'.1 (by omega) hn q.1 (a2 _ hc.1 hc.2)
      · rw [uFn z]
        exact a2 c c0 c1
    · show upF s.1 (σ (4 + p)) (tk (s.1 (σ (4 + p))) w) c = S0 c
      rw [uFn (by omega)]
      exact a3 c c0
  · rw [if_neg q]
    exact ⟨a2, a3⟩
theorem ddP_k {S0 x : Int → Int} {s : rT} (g : gp 4 n ρ) (n0 : 0 ≤ n) (h0 : 0 ≤ h) (h5 : h ≤ 5) (hb : ∀ i, 0 ≤ i → i < n → ¬ br (ρ i) h x) (hx : ∀ c, 0 ≤ c → c < 4 → 1 ≤ x c ∧ x c ≤ h) (hs : kSs S0 x s) : kSs S0 x (ddP ρ n h s) := by
  unfold ddP
  refine itF_k (P := kSs S0 x) (lo := 0) (hi := n) (fun i s i0 i1 hs => ?_) n.toNat 0 s (Int.le_refl 0) (by omega) hs
  have gi := g i i0 i1
  have g3 := gi.2.2.2.2.2.2.1
  unfold ddR
  refine itF_k (P := kSs S0 x) (lo := 0) (hi := ρ i 3) (fun p s p0 p1 hs => ?_) (ρ i 3).toNat 0 s (Int.le_refl 0) (by omega) hs
  unfold dd1
  exact itF_k (P := kSs S0 x) (lo := 1) (hi := h + 1) (fun w s w0 w1 hs => ded_k gi h5 (hb i i0 i1) hx p0 p1 w0 (by omega) hs) h.toNat 1 s (Int.le_refl 1) (by omega) hs
/-- the same without a solution: what stands at other cells -/
def kO (S0 : Int → Int) (s : rT) : Prop := gR s ∧ ∀ c, 4 ≤ c → s.1 c = S0 c
theorem ddP_o {S0 : Int → Int} {s : rT} (g : gp 4 n ρ) (n0 : 0 ≤ n) (h0 : 0 ≤ h) (h5 : h ≤ 5) (hs : kO S0 s) : kO S0 (ddP ρ n h s) := by
  unfold ddP
  refine itF_k (P := kO S0) (lo := 0) (hi := n) (fun i s i0 i1 hs => ?_) n.toNat 0 s (Int.le_refl 0) (by omega) hs
  have gi := g i i0 i1
  have g3 := gi.2.2.2.2.2.2.1
  unfold ddR
  refine itF_k (P := kO S0) (lo := 0) (hi := ρ i 3) (fun p s p0 p1 hs => ?_) (ρ i 3).toNat 0 s (Int.le_refl 0) (by omega) hs
  unfold dd1
  refine itF_k (P := kO S0) (lo := 1) (hi := h + 1) (fun w s w0 w1 hs => ?_) h.toNat 1 s (Int.le_refl 1) (by omega) hs
  have hc := gi.2.2.2.2.2.2.2.2.2.2.2.1 p p0 p1
  refine ⟨(ded_ok (gr_w (by decide) gi) ⟨p0, p1⟩ ⟨w0, by omega⟩ hs.1).1, fun c c0 => ?_⟩
  unfold ded
  by_cases q : rf (ρ i) h s.1 p w
  · rw [if_pos q]
    show upF s.1 (ρ i (4 + p)) (tk (s.1 (ρ i (4 + p))) w) c = S0 c
    rw [uFn (by omega)]
    exact hs.2 c c0
  · rw [if_neg q]
    exact hs.2 c c0
/-! a pass that takes nothing out changes nothing; it looks at the sets alone -/
def idP (f : rT → rT) : Prop := ∀ s, gR s → stp s (f s) ∧ ((f s).2.2 = s.2.2 → f s = s)
theorem itF_id {f : Int → rT → rT} {lo hi : Int} (hf : ∀ x, lo ≤ x → x < hi → idP (f x)) : ∀ (k : Nat) (x : Int), lo ≤ x → x + k ≤ hi → idP (itF f k x) := by
  intro k
  induction k with
  | zero => intro x _ _ s hs; exact ⟨stp_r hs, fun _ => rfl⟩
  | succ k ih =>
    intro x x0 x1 s hs
    have h1 := hf x x0 (by omega) s hs
    have h2 := ih (x + 1) (by omega) (by omega) (f x s) h1.1.1
    refine ⟨stp_t h1.1 h2.1, fun q => ?_⟩
    have q' : (itF f k (x + 1) (f x s)).2.2 = s.2.2 := q
    have m1 := h1.1.2.1
    have m2 := h2.1.2.1
    show itF f k (x + 1) (f x s) = s
    rw [h2.2 (by omega), h1.2 (by omega)]
theorem ddP_id (g : gp 25 n ρ) (n0 : 0 ≤ n) (h0 : 0 ≤ h) (h5 : h ≤ 5) : idP (ddP ρ n h) := by
  refine itF_id (lo := 0) (hi := n) (fun i i0 i1 => ?_) n.toNat 0 (Int.le_refl 0) (by omega)
  have gi := g i i0 i1
  have g3 := gi.2.2.2.2.2.2.1
  refine itF_id (lo := 0) (hi := ρ i 3) (fun p p0 p1 => ?_) (ρ i 3).toNat 0 (Int.le_refl 0) (by omega)
  refine itF_id (lo := 1) (hi := h + 1) (fun w w0 w1 => ?_) h.toNat 1 (Int.le_refl 1) (by omega)
  intro s hs
  refine ⟨ded_ok gi ⟨p0, p1⟩ ⟨w0, by omega⟩ hs, fun q => ?_⟩
  unfold ded at q ⊢
  by_cases z : rf (ρ i) h s.1 p w
  · rw [if_pos z] at q
    have q' : s.2.2 + 1 = s.2.2 := q
    omega
  · rw [if_neg z]
def blP (f : rT → rT) : Prop := ∀ s t, s.1 = t.1 → (f s).1 = (f t).1 ∧ (f s).2.2 - s.2.2 = (f t).2.2 - t.2.2
theorem itF_bl {f : Int → rT → rT} (hf : ∀ x, blP (f x)) : ∀ (k : Nat) (x : Int), blP (itF f k x) := by
  intro k
  induction k with
  | zero => intro x s t e; exact ⟨e, by show s.2.2 - s.2.2 = t.2.2 - t.2.2; omega⟩
  | succ k ih =>
    intro x s t e
    have h1 := hf x s t e
    have h2 := ih (x + 1) (f x s) (f x t) h1.1
    exact ⟨h2.1, by show (itF f k (x + 1) (f x s)).2.2 - s.2.2 = (itF f k (x + 1) (f x t)).2.2 - t.2.2; omega⟩
theorem ddP_bl : blP (ddP ρ n h) := by
  refine itF_bl (fun i => ?_) n.toNat 0
  refine itF_bl (fun p => ?_) (ρ i 3).toNat 0
  refine itF_bl (fun w => ?_) h.toNat 1
  intro s t e
  unfold ded
  by_cases z : rf (ρ i) h s.1 p w
  · have z2 : rf (ρ i) h t.1 p w := by rw [← e]; exact z
    rw [if_pos z, if_pos z2, e]
    exact ⟨rfl, by show s.2.2 + 1 - s.2.2 = t.2.2 + 1 - t.2.2; omega⟩
  · have z2 : ¬ rf (ρ i) h t.1 p w := by rw [← e]; exact z
    rw [if_neg z, if_neg z2]
    exact ⟨e, by omega⟩
/-- passes end where one takes nothing out -/
theorem rsF_end {f : rT → rT} (hf : idP f) : ∀ (m : Nat) (s : rT) (p : Int), gR s → cnt s.1 < m → stp s (rsF f m s p).1 ∧ f (rsF f m s p).1 = (rsF f m s p).1 ∧ ∀ P : rT → Prop, (∀ t, gR t → P t → P (f t)) → P s → P (rsF f m s p).1 := by
  intro m
  induction m with
  | zero =>
    intro s p hs hc
    have := (cnt_b hs).1
    omega
  | succ m ih =>
    intro s p hs hc
    have h1 := hf s hs
    by_cases e : (f s).2.2 = s.2.2
    · rw [rsF_e e]
      have e2 := h1.2 e
      exact ⟨h1.1, by show f (f s) = f s; rw [e2, e2], fun P k q => k s hs q⟩
    · rw [rsF_n e]
      have m1 := h1.1.2.1
      have m2 := h1.1.2.2
      obtain ⟨a1, a2, a3⟩ := ih (f s) (p + 1) h1.1.1 (by omega)
      exact ⟨stp_t h1.1 a1, a2, fun P k q => a3 P k (k s hs q)⟩
/-- what reasoning leaves -/
theorem rsn_end {S : Int → Int} (g : gp 4 n ρ) (n0 : 0 ≤ n) (h0 : 0 ≤ h) (h5 : h ≤ 5) (hS : ∀ c, 0 ≤ c → c < 25 → 0 ≤ S c ∧ S c < 32) :
    gR (rsn ρ n h S).1 ∧ (∀ c, 4 ≤ c → (rsn ρ n h S).1.1 c = S c) ∧ sF (fun c => bc ((rsn ρ n h S).1.1 c)) 0 4 + (rsn ρ n h S).1.2.2 = sF (fun c => bc (S c)) 0 4 ∧
    (∀ x, (∀ i, 0 ≤ i → i < n → ¬ br (ρ i) h x) → (∀ c, 0 ≤ c → c < 4 → 1 ≤ x c ∧ x c ≤ h) → inS S x → inS (rsn ρ n h S).1.1 x) ∧
    (rsn ρ n h (rsn ρ n h S).1.1).1 = ((rsn ρ n h S).1.1, 0, 0) ∧ (rsn ρ n h (rsn ρ n h S).1.1).2 = 1 := by
  have g25 : gp 25 n ρ := fun i i0 i1 => gr_w (by decide) (g i i0 i1)
  have hid := ddP_id g25 n0 h0 h5
  have hs : gR ((S, 0, 0) : rT) := ⟨hS, Int.le_refl 0, by show (0 : Int) ≤ 5; decide⟩
  have hc := cnt_b hs
  obtain ⟨a1, a2, a3⟩ := rsF_end hid 126 (S, 0, 0) 0 hs (by omega)
  have o := a3 (kO S) (fun t _ q => ddP_o g n0 h0 h5 q) ⟨hs, fun _ _ => rfl⟩
  have snd : ∀ x, (∀ i, 0 ≤ i → i < n → ¬ br (ρ i) h x) → (∀ c, 0 ≤ c → c < 4 → 1 ≤ x c ∧ x c ≤ h) → inS S x → inS (rsF (ddP ρ n h) 126 (S, 0, 0) 0).1.1 x := fun x hb hx hi =>
    (a3 (kSs S x) (fun t _ q => ddP_k g n0 h0 h5 hb hx q) ⟨hs, hi, fun _ _ => rfl⟩).2.1
  show gR (rsF (ddP ρ n h) 126 (S, 0, 0) 0).1 ∧ (∀ c, 4 ≤ c → (rsF (ddP ρ n h) 126 (S, 0, 0) 0).1.1 c = S c) ∧ sF (fun c => bc ((rsF (ddP ρ n h) 126 (S, 0, 0) 0).1.1 c)) 0 4 + (rsF (ddP ρ n h) 126 (S, 0, 0) 0).1.2.2 = sF (fun c => bc (S c)) 0 4 ∧ (∀ x, (∀ i, 0 ≤ i → i < n → ¬ br (ρ i) h x) → (∀ c, 0 ≤ c → c < 4 → 1 ≤ x c ∧ x c ≤ h) → inS S x → inS (rsF (ddP ρ n h) 126 (S, 0, 0) 0).1.1 x) ∧ (rsF (ddP ρ n h) 126 ((rsF (ddP ρ n h) 126 (S, 0, 0) 0).1.1, 0, 0) 0).1 = ((rsF (ddP ρ n h) 126 (S, 0, 0) 0).1.1, 0, 0) ∧ (rsF (ddP ρ n h) 126 ((rsF (ddP ρ n h) 126 (S, 0, 0) 0).1.1, 0, 0) 0).2 = 1
  generalize hr : rsF (ddP ρ n h) 126 (S, 0, 0) 0 = r at *
  have h2 := a1.2.2
  have h2' : cnt r.1.1 + r.1.2.2 = cnt S + 0 := h2
  refine ⟨a1.1, o.2, ?_, snd, ?_⟩
  · unfold cnt at h2'
    rw [sF_split (f := fun c => bc (r.1.1 c)) (n := 25) (r := 4) (by decide) 0 (by decide), sF_split (f := fun c => bc (S c)) (n := 25) (r := 4) (by decide) 0 (by decide), sF_cg (f := fun c => bc (r.1.1 c)) (g := fun c => bc (S c)) 4 (fun c c0 _ => by rw [o.2 c c0])] at h2'
    omega
  · have hs2 : gR ((r.1.1, 0, 0) : rT) := ⟨a1.1.1, Int.le_refl 0, by show (0 : Int) ≤ 5; decide⟩
    have b := ddP_bl (ρ := ρ) (n := n) (h := h) (r.1.1, 0, 0) r.1 rfl
    rw [a2] at b
    have b2 : (ddP ρ n h (r.1.1, 0, 0)).2.2 - 0 = r.1.2.2 - r.1.2.2 := b.2
    have e : (ddP ρ n h (r.1.1, 0, 0)).2.2 = ((r.1.1, 0, 0) : rT).2.2 := by show (ddP ρ n h (r.1.1, 0, 0)).2.2 = 0; omega
    have e2 := (hid _ hs2).2 e
    rw [show (126 : Nat) = 125 + 1 from rfl, rsF_e e]
    exact ⟨e2, rfl⟩
end SND
