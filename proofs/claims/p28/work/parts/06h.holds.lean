/-! ===== whether the cells of a rule can be filled ===== -/
/-- from a place on, out of the sets, the place x being fixed -/
def hf (σ : Int → Int) (h : Int) (S : Int → Int) (x : Int) : Nat → Int → (Int → Int) → Prop
  | 0, _, v => ¬ br σ h v
  | d + 1, p, v => ¬ br σ h v ∧ (p = x → hf σ h S x d (p + 1) v) ∧ (p ≠ x → exF (fun w => tb (S (σ (4 + p))) (w - 1) ∧ hf σ h S x d (p + 1) (upF v (σ (4 + p)) w)) 1 (h + 1))
theorem br_cl {σ : Int → Int} {h : Int} {v w : Int → Int} (e : ∀ i, 0 ≤ i → i < σ 3 → v (σ (4 + i)) = w (σ (4 + i))) : br σ h v ↔ br σ h w := brk_cg e
theorem hf_cg {σ : Int → Int} {h x : Int} {S : Int → Int} : ∀ (d : Nat) (p : Int) (v w : Int → Int), (∀ i, 0 ≤ i → i < σ 3 → v (σ (4 + i)) = w (σ (4 + i))) → (hf σ h S x d p v ↔ hf σ h S x d p w) := by
  intro d
  induction d with
  | zero => intro p v w e; exact not_congr (br_cl e)
  | succ d ih =>
    intro p v w e
    show (¬ br σ h v ∧ _ ∧ _) ↔ (¬ br σ h w ∧ _ ∧ _)
    rw [br_cl e, ih (p + 1) v w e, exF_cg (p := fun y => tb (S (σ (4 + p))) (y - 1) ∧ hf σ h S x d (p + 1) (upF v (σ (4 + p)) y)) (q := fun y => tb (S (σ (4 + p))) (y - 1) ∧ hf σ h S x d (p + 1) (upF w (σ (4 + p)) y)) (fun y _ _ => by
      rw [ih (p + 1) (upF v (σ (4 + p)) y) (upF w (σ (4 + p)) y) (fun i i0 i1 => by
        unfold upF; split
        · rfl
        · exact e i i0 i1)])]
/-- nothing but the row of values is other than before -/
def f82 (I0 I : cI) : Prop := (∀ a y, a ≠ 82 → I a y = I0 a y) ∧ (∀ c, 0 ≤ c → c < 25 → 0 ≤ I 82 c ∧ I 82 c ≤ 5)
theorem f82_u {I0 I : cI} {c v : Int} (h : f82 I0 I) (hv : 0 ≤ v ∧ v ≤ 5) : f82 I0 (up2 I 82 c v) := by
  refine ⟨fun a y q => (u2a q).trans (h.1 a y q), fun y y0 y1 => ?_⟩
  by_cases e : y = c
  · subst e; rw [u2e]; exact hv
  · rw [u2x e]; exact h.2 y y0 y1
theorem f82_t {I J K : cI} (h : f82 I J) (g : f82 J K) : f82 I K := ⟨fun a y q => (g.1 a y q).trans (h.1 a y q), g.2⟩
section HF
variable {r : Nat} {h x : Int} {σ S : Int → Int} {I0 : cI} {R : cR}
theorem c_hf (hr : isR r) (hh : 0 ≤ h ∧ h ≤ 5) (hv : rv I0 R r σ) (hg : gr 25 σ) (hx : 0 ≤ x ∧ x < σ 3) (hS : ∀ c, 0 ≤ c → c < 25 → I0 81 c = S c) :
    ∀ (d : Nat) (p : Int) (l : Nat) (v : Int → Int) (I : cI) (Q : Int → cI → cR → Prop), 0 ≤ p → p + d = σ 3 → d < l → f82 I0 I → (∀ c, 0 ≤ c → c < 25 → I 82 c = v c) → (∀ i, p ≤ i → i < σ 3 → i ≠ x → v (σ (4 + i)) = 0) →
      (hf σ h S x d p v → ∀ I', f82 I0 I' → Q 1 I' R) → (¬ hf σ h S x d p v → ∀ I', f82 I0 I' → (∀ c, 0 ≤ c → c < 25 → I' 82 c = v c) → Q 0 I' R) → wX6_holdsFrom l r x p h I R Q := by
  unfold isR at hr
  have hg' := hg
  obtain ⟨g0, g1, g2, g3, g4, g5, g6, g7, g8, g9, g10, g11, g12⟩ := hg'
  intro d
  induction d with
  | zero =>
    intro p l v I Q p0 pd dl hf0 ha hz k1 k0
    obtain ⟨l', rfl⟩ : ∃ l', l = l' + 1 := ⟨l - 1, by omega⟩
    show wbX6_holdsFrom (wX6_holdsFrom l') r x p h I R Q
    unfold wbX6_holdsFrom
    have hvI : rv I R r σ := rv_fr (fun y => hf0.1 r y (by omega)) (fun y => hf0.1 _ y (by omega)) hv
    refine c_brk (m := 25) hvI hg (by decide) hf0.2 hh ?_
    rw [b2_c (br_cg hg (fun c c0 c1 => ha c c0 c1))]
    by_cases b : br σ h v
    · rw [b2_t b]
      exact ⟨fun w => absurd w (by decide), fun _ => k0 (fun w => w b) I hf0 ha⟩
    · rw [b2_f b, hvI.2.2.2.1]
      exact ⟨fun _ => ⟨fun w => absurd w (by omega), fun _ => k1 b I hf0⟩, fun w => absurd rfl w⟩
  | succ d ih =>
    intro p l v I Q p0 pd dl hf0 ha hz k1 k0
    obtain ⟨l', rfl⟩ : ∃ l', l = l' + 1 := ⟨l - 1, by omega⟩
    show wbX6_holdsFrom (wX6_holdsFrom l') r x p h I R Q
    unfold wbX6_holdsFrom
    have hvI : rv I R r σ := rv_fr (fun y => hf0.1 r y (by omega)) (fun y => hf0.1 _ y (by omega)) hv
    refine c_brk (m := 25) hvI hg (by decide) hf0.2 hh ?_
    rw [b2_c (br_cg hg (fun c c0 c1 => ha c c0 c1))]
    by_cases b : br σ h v
    · rw [b2_t b]
      exact ⟨fun w => absurd w (by decide), fun _ => k0 (fun w => w.1 b) I hf0 ha⟩
    · rw [b2_f b, hvI.2.2.2.1]
      refine ⟨fun _ => ⟨fun _ => ⟨fun e => ⟨by omega, fun z hz' => ?_⟩, fun e => ⟨by unfold inR; omega, ?_⟩⟩, fun w => absurd (show p < σ 3 by omega) w⟩, fun w => absurd rfl w⟩
      · rw [hvI.2.2.2.2.1 p p0 (by omega)] at hz'
        have hc := g11 p p0 (by omega)
        rw [← hz'] at hc
        have hzp : v z = 0 := by rw [hz']; exact hz p (by omega) (by omega) e
        have L : ∀ (m : Nat) (w : Int) (I : cI), 1 ≤ w → w ≤ h + 1 → h + 1 - w < m → f82 I0 I → (∀ c, 0 ≤ c → c < 25 → c ≠ z → I 82 c = v c) →
            (exF (fun w => tb (S z) (w - 1) ∧ hf σ h S x d (p + 1) (upF v z w)) w (h + 1) → ∀ I', f82 I0 I' → Q 1 I' R) → (¬ exF (fun w => tb (S z) (w - 1) ∧ hf σ h S x d (p + 1) (upF v z w)) w (h + 1) → ∀ I', f82 I0 I' → (∀ c, 0 ≤ c → c < 25 → I' 82 c = v c) → Q 0 I' R) →
            wX6_holdsFrom_53 (wX6_holdsFrom l') Q r x p h m z w I R := by
          intro m
          induction m with
          | zero => intro w I w0 w1 w2; omega
          | succ m ihm =>
            intro w I w0 w1 w2 hf1 ha1 q1 q0
            show wbX6_holdsFrom_53 (wX6_holdsFrom l') Q r x p h (wX6_holdsFrom_53 (wX6_holdsFrom l') Q r x p h m) z w I R
            unfold wbX6_holdsFrom_53
            refine ⟨fun e2 => ⟨hc, fun I2 e3 => ?_⟩, fun e2 => ?_⟩
            · subst e3
              refine q0 (exF_x (by omega)) _ (f82_u hf1 (by omega)) (fun c c0 c1 => ?_)
              by_cases ec : c = z
              · subst ec; rw [u2e]; exact hzp.symm
              · rw [u2x ec]; exact ha1 c c0 c1 ec
            · unfold wX6_hasValue
              have hs : I 81 z = S z := (hf1.1 81 z (by decide)).trans (hS z hc.1 hc.2)
              rw [hs]
              have nx : ¬ (tb (S z) (w - 1) ∧ hf σ h S x d (p + 1) (upF v z w)) → ∀ I, f82 I0 I → (∀ c, 0 ≤ c → c < 25 → c ≠ z → I 82 c = v c) → inR (w + 1) ∧ ∀ y, y = w + 1 → wX6_holdsFrom_53 (wX6_holdsFrom l') Q r x p h m z y I R := fun n I hfx hax => ⟨by unfold inR; omega, fun y hy => by
                subst hy
                exact ihm (w + 1) I (by omega) (by omega) (by omega) hfx hax (fun t => q1 ((exF_s (p := fun w => tb (S z) (w - 1) ∧ hf σ h S x d (p + 1) (upF v z w)) n).mpr t)) (fun t => q0 (fun t' => t ((exF_s (p := fun w => tb (S z) (w - 1) ∧ hf σ h S x d (p + 1) (upF v z w)) n).mp t')))⟩
              refine ⟨hc, fun t => ⟨fun _ => nx (fun n => n.1 t) I hf1 ha1, fun n => absurd rfl n⟩, fun t => ⟨fun n => absurd n (by decide), fun _ => ⟨hc, fun I14 e14 => ⟨by unfold inR; omega, ?_⟩⟩⟩⟩
              have hf14 : f82 I0 I14 := by subst e14; exact f82_u hf1 (by omega)
              have ha14 : ∀ c, 0 ≤ c → c < 25 → I14 82 c = upF v z w c := fun c c0 c1 => by
                subst e14
                by_cases ec : c = z
                · subst ec; rw [u2e, uFe]
                · rw [u2x ec, uFn ec]; exact ha1 c c0 c1 ec
              refine ih (p + 1) l' (upF v z w) I14 _ (by omega) (by omega) (by omega) hf14 ha14 (fun i i0 i1 i2 => ?_) (fun y I' hf' => ⟨fun n => absurd n (by decide), fun _ => q1 (exF_i (by omega) ⟨t, y⟩) I' hf'⟩) (fun y I' hf' ha' => ⟨fun _ => nx (fun n => y n.2) I' hf' (fun c c0 c1 ec => (ha' c c0 c1).trans (uFn ec)), fun n => absurd rfl n⟩)
              have ne : σ (4 + i) ≠ z := fun n => by
                have := g12 i p (by omega) i1 p0 (by omega) (by rw [n, hz'])
                omega
              rw [uFn ne]
              exact hz i (by omega) i1 i2
        refine ⟨7, L 7 1 I (by decide) (by omega) (by omega) hf0 (fun c c0 c1 _ => ha c c0 c1) (fun t => k1 ⟨b, fun n => absurd n e, fun _ => by rw [← hz']; exact t⟩) (fun t => k0 (fun n => t (by rw [hz']; exact n.2.2 e)))⟩
      · refine ih (p + 1) l' v I _ (by omega) (by omega) (by omega) hf0 ha (fun i i0 i1 i2 => hz i (by omega) i1 i2) (fun y I' hf' => ⟨Or.inr rfl, k1 ⟨b, fun _ => y, fun n => absurd e n⟩ I' hf'⟩) (fun y I' hf' ha' => ⟨Or.inl rfl, k0 (fun n => y (n.2.1 e)) I' hf' ha'⟩)
/-- a value at a place of a rule is not possible -/
def rf (σ : Int → Int) (h : Int) (S : Int → Int) (x w : Int) : Prop := tb (S (σ (4 + x))) (w - 1) ∧ ¬ hf σ h S x (σ 3).toNat 0 (upF (fun _ => 0) (σ (4 + x)) w)
theorem c_ref {w : Int} {Q : Int → cI → cR → Prop} (hr : isR r) (hh : 0 ≤ h ∧ h ≤ 5) (hv : rv I0 R r σ) (hg : gr 25 σ) (hx : 0 ≤ x ∧ x < σ 3) (hw : 1 ≤ w ∧ w ≤ h) (hS : ∀ c, 0 ≤ c → c < 25 → I0 81 c = S c) (h0 : f82 I0 I0) (hQ : ∀ I, f82 I0 I → Q (b2 (rf σ h S x w)) I R) : wX6_isRefuted r x w h I0 R Q := by
  have hr' := hr
  unfold isR at hr'
  have hg' := hg
  obtain ⟨g0, g1, g2, g3, g4, g5, g6, g7, g8, g9, g10, g11, g12⟩ := hg'
  have hc := g11 x hx.1 hx.2
  have ec := hv.2.2.2.2.1 x hx.1 hx.2
  unfold wX6_isRefuted wX6_hasValue
  rw [ec, hS _ hc.1 hc.2]
  refine ⟨by omega, hc, fun t => ⟨fun n => absurd rfl n, fun _ => ?_⟩, fun t => ⟨fun _ => ⟨7, ?_⟩, fun n => absurd n (by decide)⟩⟩
  · have := hQ I0 h0
    rw [b2_f (fun n => n.1 t)] at this
    exact this
  · have L : ∀ (m : Nat) (y : Int) (I : cI), 0 ≤ y → y ≤ σ 3 → σ 3 - y < m → f82 I0 I → (∀ i, 0 ≤ i → i < y → I 82 (σ (4 + i)) = 0) → wX6_isRefuted_19 Q r x w h m y I R := by
      intro m
      induction m with
      | zero => intro y I y0 y1 y2; omega
      | succ m ih =>
        intro y I y0 y1 y2 hf hz
        show wbX6_isRefuted_19 Q r x w h (wX6_isRefuted_19 Q r x w h m) y I R
        unfold wbX6_isRefuted_19
        have hvI : rv I R r σ := rv_fr (fun y => hf.1 r y (by omega)) (fun y => hf.1 _ y (by omega)) hv
        rw [hvI.2.2.2.1]
        refine ⟨fun e => ⟨by omega, ?_⟩, fun e => ⟨by omega, ?_⟩⟩
        · rw [hvI.2.2.2.2.1 x hx.1 hx.2]
          refine ⟨hc, fun I3 e3 => ?_⟩
          have hf3 : f82 I0 I3 := by subst e3; exact f82_u hf (by omega)
          have hz3 : ∀ i, 0 ≤ i → i < σ 3 → I3 82 (σ (4 + i)) = upF (fun _ => 0) (σ (4 + x)) w (σ (4 + i)) := fun i i0 i1 => by
            subst e3
            by_cases ei : σ (4 + i) = σ (4 + x)
            · rw [ei, u2e, uFe]
            · rw [u2x ei, uFn ei]; exact hz i i0 (by omega)
          refine c_hf hr hh hv hg hx hS (σ 3).toNat 0 7 (I3 82) I3 _ (by decide) (by omega) (by omega) hf3 (fun _ _ _ => rfl) (fun i i0 i1 i2 => ?_) (fun y I' hf' => ⟨fun _ => ?_, fun n => absurd n (by decide)⟩) (fun y I' hf' _ => ⟨fun n => absurd rfl n, fun _ => ?_⟩)
          · rw [hz3 i i0 i1, uFn (fun n => i2 (g12 i x i0 i1 hx.1 hx.2 n))]
          · have := hQ I' hf'
            rw [b2_f (fun n => n.2 ((hf_cg _ _ _ _ hz3).mp y))] at this
            exact this
          · have := hQ I' hf'
            rw [b2_t ⟨t, fun n => y ((hf_cg _ _ _ _ hz3).mpr n)⟩] at this
            exact this
        · rw [hvI.2.2.2.2.1 y y0 (by omega)]
          refine ⟨g11 y y0 (by omega), fun I13 e13 => ⟨by unfold inR; omega, fun z hz' => ?_⟩⟩
          subst e13; subst hz'
          refine ih (y + 1) _ (by omega) (by omega) (by omega) (f82_u hf (by omega)) (fun i i0 i1 => ?_)
          by_cases ei : σ (4 + i) = σ (4 + y)
          · rw [ei, u2e]
          · rw [u2x ei]; exact hz i i0 (by
              have : i ≠ y := fun n => ei (by rw [n])
              omega)
    exact L 7 0 I0 (by decide) (by omega) (by omega) h0 (fun i i0 i1 => by omega)
end HF
/-! the reference -/
def f21 (J0 J : cI) : Prop := (∀ a y, a ≠ 1021 → J a y = J0 a y) ∧ (∀ c, 0 ≤ c → c < 25 → 0 ≤ J 1021 c ∧ J 1021 c ≤ 5)
theorem f21_u {J0 J : cI} {c v : Int} (h : f21 J0 J) (hv : 0 ≤ v ∧ v ≤ 5) : f21 J0 (up2 J 1021 c v) := by
  refine ⟨fun a y q => (u2a q).trans (h.1 a y q), fun y y0 y1 => ?_⟩
  by_cases e : y = c
  · subst e; rw [u2e]; exact hv
  · rw [u2x e]; exact h.2 y y0 y1
section HM
variable {r h x : Int} {S : Int → Int} {J0 : cI}
end HM
