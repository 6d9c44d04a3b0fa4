/-! ===== deductions ===== -/
/-- what is left when a value is taken out -/
def tk (s w : Int) : Int := s - iShl 1 (w - 1)
theorem tk_all : ∀ s : Nat, s < 32 → ∀ w : Nat, w < 5 → (¬ iAnd (iShr (s : Int) (w : Int)) 1 = 0 → 0 ≤ (s : Int) - iShl 1 (w : Int) ∧ (s : Int) - iShl 1 (w : Int) < 32 ∧ iAnd (s : Int) (iXor (iShl 1 (w : Int)) (-1)) = (s : Int) - iShl 1 (w : Int) ∧ bc ((s : Int) - iShl 1 (w : Int)) = bc (s : Int) - 1) := by decide +kernel
theorem bc_all : ∀ s : Nat, s < 32 → 0 ≤ bc (s : Int) ∧ bc (s : Int) ≤ 5 := by decide +kernel
theorem tk_b {s w : Int} (s0 : 0 ≤ s) (s1 : s < 32) (w0 : 1 ≤ w) (w1 : w ≤ 5) (t : tb s (w - 1)) : 0 ≤ tk s w ∧ tk s w < 32 ∧ iAnd s (iXor (iShl 1 (w - 1)) (-1)) = tk s w ∧ bc (tk s w) = bc s - 1 := by
  have := tk_all s.toNat (by omega) (w - 1).toNat (by omega)
  rw [show ((s.toNat : Nat) : Int) = s by omega, show (((w - 1).toNat : Nat) : Int) = w - 1 by omega] at this
  exact this t
theorem bc_b {s : Int} (s0 : 0 ≤ s) (s1 : s < 32) : 0 ≤ bc s ∧ bc s ≤ 5 := by
  have := bc_all s.toNat (by omega)
  rw [show ((s.toNat : Nat) : Int) = s by omega] at this
  exact this
/-- the state of reasoning: sets, greatest grade, how many were taken out -/
abbrev rT : Type := (Int → Int) × Int × Int
/-- how many cells of a rule are not sure -/
noncomputable def gd (σ S : Int → Int) : Int := cF (fun i => 1 < bc (S (σ (4 + i)))) 0 (σ 3)
noncomputable def ded (σ : Int → Int) (h x w : Int) (s : rT) : rT := @ite _ (rf σ h s.1 x w) (Classical.propDecidable _) (upF s.1 (σ (4 + x)) (tk (s.1 (σ (4 + x))) w), imax s.2.1 (gd σ s.1), s.2.2 + 1) s
/-- steps, one for each of so many numbers from x on -/
def itF {α : Type} (f : Int → α → α) : Nat → Int → α → α
  | 0, _, s => s
  | k + 1, x, s => itF f k (x + 1) (f x s)
noncomputable def dd1 (σ : Int → Int) (h x : Int) (s : rT) : rT := itF (fun w => ded σ h x w) h.toNat 1 s
noncomputable def ddR (σ : Int → Int) (h : Int) (s : rT) : rT := itF (fun x => dd1 σ h x) (σ 3).toNat 0 s
noncomputable def ddP (ρ : Int → Int → Int) (n h : Int) (s : rT) : rT := itF (fun i => ddR (ρ i) h) n.toNat 0 s
def cnt (S : Int → Int) : Int := sF (fun c => bc (S c)) 0 25
def gR (s : rT) : Prop := (∀ c, 0 ≤ c → c < 25 → 0 ≤ s.1 c ∧ s.1 c < 32) ∧ 0 ≤ s.2.1 ∧ s.2.1 ≤ 5
theorem sF_b {f : Int → Int} {n m : Int} (h : ∀ i, 0 ≤ i → i < n → 0 ≤ f i ∧ f i ≤ m) (hm : 0 ≤ m) : ∀ x, 0 ≤ x → x ≤ n → 0 ≤ sF f x n ∧ sF f x n ≤ m * (n - x) := by
  refine up_ind (n := n) (fun x c _ _ => ?_) (fun x c ih h0 _ => ?_)
  · rw [sF_e c]
    have : n - x = 0 := by omega
    rw [this]; simp
  · rw [sF_s c]
    have a := h x h0 c
    have b := ih (by omega) (by omega)
    have e : m * (n - x) = m + m * (n - (x + 1)) := by rw [show n - x = 1 + (n - (x + 1)) by omega, Int.mul_add, Int.mul_one]
    omega
theorem cnt_b {s : rT} (h : gR s) : 0 ≤ cnt s.1 ∧ cnt s.1 ≤ 125 := by
  have := sF_b (f := fun c => bc (s.1 c)) (n := 25) (m := 5) (fun i i0 i1 => bc_b (h.1 i i0 i1).1 (h.1 i i0 i1).2) (by decide) 0 (by decide) (by decide)
  unfold cnt
  omega
theorem sF_up {f : Int → Int} {F : Int → Int} {c v n : Int} (h1 : c < n) : ∀ x, x ≤ c → sF (fun i => F (upF f c v i)) x n = sF (fun i => F (f i)) x n + (F v - F (f c)) := by
  refine up_ind (n := n) (fun x q q2 => by omega) (fun x q ih q2 => ?_)
  rw [sF_s q, sF_s q]
  by_cases e : x = c
  · subst e
    rw [uFe, sF_cg (f := fun i => F (upF f x v i)) (g := fun i => F (f i)) (x + 1) (fun i i0 _ => by show F (upF f x v i) = _; rw [uFn (by omega)])]
    omega
  · rw [ih (by omega), uFn e]
    omega
/-- what every step keeps -/
def stp (s s' : rT) : Prop := gR s' ∧ s.2.2 ≤ s'.2.2 ∧ cnt s'.1 + s'.2.2 = cnt s.1 + s.2.2
theorem stp_r {s : rT} (h : gR s) : stp s s := ⟨h, Int.le_refl _, rfl⟩
theorem stp_t {s t u : rT} (h : stp s t) (g : stp t u) : stp s u := ⟨g.1, Int.le_trans h.2.1 g.2.1, g.2.2.trans h.2.2⟩
theorem gd_b {σ S : Int → Int} (h : 0 ≤ σ 3 ∧ σ 3 ≤ 5) : 0 ≤ gd σ S ∧ gd σ S ≤ 5 := by
  have := cF_b (p := fun i => 1 < bc (S (σ (4 + i)))) (n := σ 3) 0 h.1
  unfold gd; omega
theorem ded_ok {σ : Int → Int} {h x w : Int} {s : rT} (hg : gr 25 σ) (hx : 0 ≤ x ∧ x < σ 3) (hw : 1 ≤ w ∧ w ≤ 5) (hs : gR s) : stp s (ded σ h x w s) := by
  unfold ded
  by_cases r : rf σ h s.1 x w
  · rw [if_pos r]
    have hc := hg.2.2.2.2.2.2.2.2.2.2.2.1 x hx.1 hx.2
    have hb := hs.1 _ hc.1 hc.2
    have ht := tk_b hb.1 hb.2 hw.1 hw.2 r.1
    have hgd := gd_b (σ := σ) (S := s.1) ⟨hg.2.2.2.2.2.2.1, hg.2.2.2.2.2.2.2.1⟩
    refine ⟨⟨fun c c0 c1 => ?_, ?_, ?_⟩, ?_, ?_⟩
    · show 0 ≤ upF s.1 (σ (4 + x)) (tk (s.1 (σ (4 + x))) w) c ∧ upF s.1 (σ (4 + x)) (tk (s.1 (σ (4 + x))) w) c < 32
      unfold upF; split
      · exact ⟨ht.1, ht.2.1⟩
      · exact hs.1 c c0 c1
    · show 0 ≤ imax s.2.1 (gd σ s.1); have := hs.2; unfold imax; split <;> omega
    · show imax s.2.1 (gd σ s.1) ≤ 5; have := hs.2; unfold imax; split <;> omega
    · show s.2.2 ≤ s.2.2 + 1; omega
    · show cnt (upF s.1 (σ (4 + x)) (tk (s.1 (σ (4 + x))) w)) + (s.2.2 + 1) = cnt s.1 + s.2.2
      unfold cnt
      rw [sF_up (f := s.1) (F := bc) hc.2 0 hc.1, ht.2.2.2]
      omega
  · rw [if_neg r]; exact stp_r hs
theorem itF_ok {f : Int → rT → rT} {lo hi : Int} (hf : ∀ x s, lo ≤ x → x < hi → gR s → stp s (f x s)) : ∀ (k : Nat) (x : Int) (s : rT), lo ≤ x → x + k ≤ hi → gR s → stp s (itF f k x s) := by
  intro k
  induction k with
  | zero => intro x s _ _ hs; exact stp_r hs
  | succ k ih =>
    intro x s h0 h1 hs
    have a := hf x s h0 (by omega) hs
    exact stp_t a (ih (x + 1) _ (by omega) (by omega) a.1)
theorem dd1_ok {σ : Int → Int} {h x : Int} {s : rT} (hg : gr 25 σ) (hx : 0 ≤ x ∧ x < σ 3) (hh : 0 ≤ h ∧ h ≤ 5) (hs : gR s) : stp s (dd1 σ h x s) :=
  itF_ok (lo := 1) (hi := h + 1) (fun w s w0 w1 hs => ded_ok hg hx ⟨w0, by omega⟩ hs) h.toNat 1 s (by decide) (by omega) hs
theorem ddR_ok {σ : Int → Int} {h : Int} {s : rT} (hg : gr 25 σ) (hh : 0 ≤ h ∧ h ≤ 5) (hs : gR s) : stp s (ddR σ h s) :=
  itF_ok (lo := 0) (hi := σ 3) (fun x s x0 x1 hs => dd1_ok hg ⟨x0, x1⟩ hh hs) (σ 3).toNat 0 s (by decide) (by have := hg.2.2.2.2.2.2.1; omega) hs
theorem gr_w {m m' : Int} {σ : Int → Int} (h : m ≤ m') (hg : gr m σ) : gr m' σ := by
  obtain ⟨g0, g1, g2, g3, g4, g5, g6, g7, g8, g9, g10, g11, g12⟩ := hg
  exact ⟨g0, g1, g2, g3, g4, g5, g6, g7, g8, g9, g10, fun i i0 i1 => by have := g11 i i0 i1; omega, g12⟩
theorem ddP_ok {ρ : Int → Int → Int} {n h : Int} {s : rT} (hg : gp 25 n ρ) (hn : 0 ≤ n) (hh : 0 ≤ h ∧ h ≤ 5) (hs : gR s) : stp s (ddP ρ n h s) :=
  itF_ok (lo := 0) (hi := n) (fun i s x0 x1 hs => ddR_ok (hg i x0 x1) hh hs) n.toNat 0 s (by decide) (by omega) hs
/-! the class -/
/-- sets and grade as the class holds them -/
def RV (I : cI) (s : rT) : Prop := (∀ c, 0 ≤ c → c < 25 → I 81 c = s.1 c) ∧ I 80 2 = s.2.1 ∧ (∀ c, 0 ≤ c → c < 25 → 0 ≤ I 82 c ∧ I 82 c ≤ 5)
/-- reasoning changes nothing else -/
def fR (I0 I : cI) : Prop := ∀ a y, ¬ (a = 81 ∨ a = 82 ∨ (a = 80 ∧ y ≠ 1)) → I a y = I0 a y
theorem fR_r {I : cI} : fR I I := fun _ _ _ => rfl
theorem fR_t {I J K : cI} (h : fR I J) (g : fR J K) : fR I K := fun a y q => (g a y q).trans (h a y q)
theorem fR_u {I0 I : cI} {a : Nat} {x v : Int} (h : fR I0 I) (e : a = 81 ∨ a = 82 ∨ (a = 80 ∧ x ≠ 1)) : fR I0 (up2 I a x v) := fun b y q => (u2n (fun w => q (by rw [w.1, w.2]; exact e))).trans (h b y q)
section DC
variable {r : Nat} {h : Int} {σ : Int → Int} {I0 : cI} {R : cR} {Q : Int → cI → cR → Prop}
theorem c_grade {S : Int → Int} (hv : rv I0 R r σ) (hg : gr 25 σ) (hS : ∀ c, 0 ≤ c → c < 25 → I0 81 c = S c) (hQ : Q (gd σ S) I0 R) : wX6_gradeOf r I0 R Q := by
  obtain ⟨g0, g1, g2, g3, g4, g5, g6, g7, g8, g9, g10, g11, g12⟩ := hg
  have L : ∀ (m : Nat) (x s : Int), 0 ≤ x → x ≤ σ 3 → 0 ≤ s → s ≤ x → σ 3 - x < m → s + cF (fun i => 1 < bc (S (σ (4 + i)))) x (σ 3) = gd σ S → wX6_gradeOf_4 Q r m s x I0 R := by
    intro m
    induction m with
    | zero => intro x s h0 h1 h2 h3 h4; omega
    | succ m ih =>
      intro x s h0 h1 h2 h3 h4 h5
      show wbX6_gradeOf_4 Q r (wX6_gradeOf_4 Q r m) s x I0 R
      unfold wbX6_gradeOf_4
      rw [hv.2.2.2.1]
      refine ⟨fun e => ?_, fun e => ⟨by omega, ?_⟩⟩
      · rw [cF_e e] at h5
        have : s = gd σ S := by omega
        rw [this]; exact hQ
      · have hc := g11 x h0 (by omega)
        rw [hv.2.2.2.2.1 x h0 (by omega), hS _ hc.1 hc.2]
        refine ⟨hc, fun b => ?_, fun b => ?_⟩
        · rw [cF_f (p := fun i => 1 < bc (S (σ (4 + i)))) (show ¬ 1 < bc (S (σ (4 + x))) by omega)] at h5
          exact ⟨by unfold inR; omega, fun y hy => by subst hy; exact ih _ _ (by omega) (by omega) h2 (by omega) (by omega) h5⟩
        · rw [cF_t (p := fun i => 1 < bc (S (σ (4 + i)))) (by omega) (show 1 < bc (S (σ (4 + x))) by omega)] at h5
          exact ⟨by unfold inR; omega, fun y hy => ⟨by unfold inR; omega, fun y2 hy2 => by subst hy; subst hy2; exact ih _ _ (by omega) (by omega) (by omega) (by omega) (by omega) (by omega)⟩⟩
  exact ⟨7, L 7 0 0 (by decide) g6 (by decide) (by decide) (by omega) (by unfold gd; omega)⟩
theorem c_ddR (hr : isR r) (hh : 0 ≤ h ∧ h ≤ 5) (hv : rv I0 R r σ) (hg : gr 25 σ) {s0 : rT} (hs0 : gR s0) (k0 : 0 ≤ s0.2.2 ∧ s0.2.2 ≤ 125 ∧ cnt s0.1 + s0.2.2 ≤ 125) (hR : RV I0 s0) (hQ : ∀ I, fR I0 I → RV I (ddR σ h s0) → Q ((ddR σ h s0).2.2 - s0.2.2) I R) : wX6_deduceBy r h I0 R Q := by
  have hr' := hr
  unfold isR at hr'
  have hg' := hg
  obtain ⟨g0, g1, g2, g3, g4, g5, g6, g7, g8, g9, g10, g11, g12⟩ := hg'
  have kb : ∀ t, stp s0 t → 0 ≤ t.2.2 - s0.2.2 ∧ t.2.2 - s0.2.2 ≤ 125 := fun t ht => by
    have := cnt_b ht.1
    have := ht.2.1
    have := ht.2.2
    omega
  have Li : ∀ (K : Int → Int → cI → cR → Prop) (x : Int), 0 ≤ x → x < σ 3 → ∀ (m : Nat) (w k : Int) (t : rT) (I : cI), 1 ≤ w → w ≤ h + 1 → h + 1 - w < m → stp s0 t → k = t.2.2 - s0.2.2 → fR I0 I → RV I t →
      (∀ I, fR I0 I → RV I (itF (fun w => ded σ h x w) (h + 1 - w).toNat w t) → K ((itF (fun w => ded σ h x w) (h + 1 - w).toNat w t).2.2 - s0.2.2) (x + 1) I R) → wX6_deduceBy_17 Q r h K m k x w I R := by
    intro K x x0 x1 m
    induction m with
    | zero => intro w k t I w0 w1 w2; omega
    | succ m ih =>
      intro w k t I w0 w1 w2 ht hk hf hR hK
      show wbX6_deduceBy_17 Q r h K (wX6_deduceBy_17 Q r h K m) k x w I R
      unfold wbX6_deduceBy_17
      have hkb := kb t ht
      refine ⟨fun e => ⟨by unfold inR; omega, fun z hz => ?_⟩, fun e => ?_⟩
      · have e0 : (h + 1 - w).toNat = 0 := by omega
        rw [e0] at hK
        subst hz; subst hk
        exact hK I hf hR
      · have e1 : (h + 1 - w).toNat = (h + 1 - (w + 1)).toNat + 1 := by omega
        rw [e1] at hK
        have hvI : rv I R r σ := rv_fr (fun y => hf r y (by omega)) (fun y => hf _ y (by omega)) hv
        refine c_ref (S := t.1) hr hh hvI hg ⟨x0, x1⟩ ⟨w0, by omega⟩ hR.1 ⟨fun _ _ _ => rfl, hR.2.2⟩ (fun I5 h5 => ?_)
        have hvI5 : rv I5 R r σ := rv_fr (fun y => h5.1 r y (by omega)) (fun y => h5.1 _ y (by omega)) hvI
        have hf5 : fR I0 I5 := fR_t hf (fun a y q => h5.1 a y (by omega))
        have hR5 : RV I5 t := ⟨fun c c0 c1 => (h5.1 81 c (by decide)).trans (hR.1 c c0 c1), (h5.1 80 2 (by decide)).trans hR.2.1, h5.2⟩
        by_cases rr : rf σ h t.1 x w
        · have ed : ded σ h x w t = (upF t.1 (σ (4 + x)) (tk (t.1 (σ (4 + x))) w), imax t.2.1 (gd σ t.1), t.2.2 + 1) := if_pos rr
          rw [b2_t rr]
          refine ⟨fun n => absurd n (by decide), fun _ => c_grade hvI5 hg hR5.1 (fun I17 e17 => ⟨by omega, ?_⟩)⟩
          have hc := g11 x x0 x1
          have hb := ht.1.1 _ hc.1 hc.2
          have htk := tk_b hb.1 hb.2 w0 (by omega) rr.1
          have hst := ded_ok (h := h) (x := x) (w := w) hg ⟨x0, x1⟩ ⟨w0, by omega⟩ ht.1
          have q4 : I17 (r + 130) x = σ (4 + x) := by subst e17; rw [u2a (by omega)]; exact hvI5.2.2.2.2.1 x x0 x1
          have q81 : I17 81 (σ (4 + x)) = t.1 (σ (4 + x)) := by subst e17; rw [u2a (by decide)]; exact hR5.1 _ hc.1 hc.2
          unfold wX6_takeOut wX6_hasValue
          rw [q4, q81]
          refine ⟨hc, fun n => absurd n rr.1, fun _ => ⟨fun n => absurd n (by decide), fun _ => ⟨hc, by unfold tk at htk; unfold inR; omega, hc, fun I9 e9 => ⟨by unfold inR; omega, fun z hz => ⟨by unfold inR; omega, fun z2 hz2 => ?_⟩⟩⟩⟩⟩
          subst hz2
          rw [ed] at hst
          refine ih (w + 1) z (upF t.1 (σ (4 + x)) (tk (t.1 (σ (4 + x))) w), imax t.2.1 (gd σ t.1), t.2.2 + 1) I9 (by omega) (by omega) (by omega) (stp_t ht hst) (by show z = t.2.2 + 1 - s0.2.2; omega) ?_ ⟨fun c c0 c1 => ?_, ?_, fun c c0 c1 => ?_⟩ ?_
          · subst e9; subst e17; exact fR_u (fR_u hf5 (Or.inr (Or.inr ⟨rfl, by decide⟩))) (Or.inl rfl)
          · show I9 81 c = upF t.1 (σ (4 + x)) (tk (t.1 (σ (4 + x))) w) c
            subst e9
            by_cases ec : c = σ (4 + x)
            · subst ec; rw [u2e, uFe, q81]; rfl
            · rw [u2x ec, uFn ec]; subst e17; rw [u2a (by decide)]; exact hR5.1 c c0 c1
          · show I9 80 2 = imax t.2.1 (gd σ t.1)
            subst e9; rw [u2a (by decide)]; subst e17; rw [u2e, hR5.2.1]
          · subst e9; rw [u2a (by decide)]; subst e17; rw [u2a (by decide)]; exact hR5.2.2 c c0 c1
          · rw [← ed]; exact hK
        · have ed : ded σ h x w t = t := if_neg rr
          rw [b2_f rr]
          refine ⟨fun _ => ⟨by unfold inR; omega, fun z hz => ?_⟩, fun n => absurd rfl n⟩
          subst hz
          refine ih (w + 1) k t I5 (by omega) (by omega) (by omega) ht hk hf5 hR5 ?_
          have hK2 : ∀ I, fR I0 I → RV I (itF (fun w => ded σ h x w) (h + 1 - (w + 1)).toNat (w + 1) (ded σ h x w t)) → K ((itF (fun w => ded σ h x w) (h + 1 - (w + 1)).toNat (w + 1) (ded σ h x w t)).2.2 - s0.2.2) (x + 1) I R := hK
          rw [ed] at hK2
          exact hK2
  have L : ∀ (m : Nat) (x k : Int) (t : rT) (I : cI), 0 ≤ x → x ≤ σ 3 → σ 3 - x < m → stp s0 t → k = t.2.2 - s0.2.2 → fR I0 I → RV I t → itF (fun x => dd1 σ h x) (σ 3 - x).toNat x t = ddR σ h s0 → wX6_deduceBy_5 Q r h m k x I R := by
    intro m
    induction m with
    | zero => intro x k t I x0 x1 x2; omega
    | succ m ih =>
      intro x k t I x0 x1 x2 ht hk hf hR he
      show wbX6_deduceBy_5 Q r h (wX6_deduceBy_5 Q r h m) k x I R
      unfold wbX6_deduceBy_5
      have hvI : rv I R r σ := rv_fr (fun y => hf r y (by omega)) (fun y => hf _ y (by omega)) hv
      rw [hvI.2.2.2.1]
      refine ⟨fun e => ?_, fun e => ⟨7, ?_⟩⟩
      · have e0 : (σ 3 - x).toNat = 0 := by omega
        rw [e0] at he
        have he' : t = ddR σ h s0 := he
        subst hk
        rw [he'] at hR ⊢
        exact hQ I hf hR
      · have e1 : (σ 3 - x).toNat = (σ 3 - (x + 1)).toNat + 1 := by omega
        rw [e1] at he
        have h1 := dd1_ok (h := h) (x := x) hg ⟨x0, by omega⟩ hh ht.1
        refine Li _ x x0 (by omega) 7 1 k t I (by decide) (by omega) (by omega) ht hk hf hR (fun I2 hf2 hR2 => ?_)
        rw [show (h + 1 - 1).toNat = h.toNat by omega] at hR2 ⊢
        exact ih (x + 1) _ (dd1 σ h x t) I2 (by omega) (by omega) (by omega) (stp_t ht h1) rfl hf2 hR2 he
  exact ⟨7, L 7 0 0 s0 I0 (by decide) g6 (by omega) (stp_r hs0) (by omega) fR_r hR (by rw [show σ 3 - 0 = σ 3 by omega]; rfl)⟩
end DC
