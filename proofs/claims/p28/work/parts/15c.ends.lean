/-! ===== the law's end: the change keeps the values ===== -/
def dfV (x f : Int → Int) (v : Int) : Nat → Int
  | 0 => 0
  | k + 1 => dfV x f v k + ((if x (k : Int) = v then 1 else 0) - (if f (k : Int) = v then 1 else 0))
theorem dfV_b {x f : Int → Int} {v : Int} : ∀ k : Nat, -(k : Int) ≤ dfV x f v k ∧ dfV x f v k ≤ k := by
  intro k
  induction k with
  | zero => exact ⟨by show -((0 : Nat) : Int) ≤ 0; decide, by show (0 : Int) ≤ ((0 : Nat) : Int); decide⟩
  | succ k ih =>
    unfold dfV
    split <;> split <;> omega
section EN2
variable {sc : Int → Int} {I Io : cI} {R Ro : cR} {J : cI} {x f : Int → Int} {x13 : Int}
theorem z_898 (h : INV I R J) (eM : vM J = 4) (e28 : J 1000 28 = 1) (hs : ∀ c, 0 ≤ c → c < 4 → J 1029 (25 * 0 + c) = x c) (hc : ∀ v, dfV x f v 4 = 0)
    (hmk : ∀ (Q : Int → cI → cR → Prop) , (∀ I' R', Q x13 I' R') → wX11_make (blw (sc 12) 65536) Io Ro Q (fun _ _ _ => False)) :
    ∀ (n : Nat) (x15 : Int), 1 ≤ x15 → x15 ≤ 5 → 5 - x15 < n → wL_law_898 sc n x13 x15 f I R Io Ro := by
  intro n
  induction n with
  | zero => intro x15 _ _ _; omega
  | succ n ih =>
    intro x15 q0 q1 q2
    show wbL_law_898 sc (wL_law_898 sc n) x13 x15 f I R Io Ro
    unfold wbL_law_898
    refine ⟨fun _ => hmk _ (fun I' R' => ⟨fun w => absurd rfl w, fun _ => trivial⟩), fun c => ⟨5, ?_⟩⟩
    have L : ∀ (m : Nat) (k : Nat) (x17 : Int), x17 = (k : Int) → k ≤ 4 → 4 - k < m → wL_law_910 sc (wL_law_898 sc n) m x13 x15 (dfV x f x15 k) x17 f I R Io Ro := by
      intro m
      induction m with
      | zero => intro k x17 _ _ h0; omega
      | succ m ihm =>
        intro k x17 ek k4 km
        have kb := dfV_b (x := x) (f := f) (v := x15) k
        show wbL_law_910 sc (wL_law_898 sc n) (wL_law_910 sc (wL_law_898 sc n) m) x13 x15 (dfV x f x15 k) x17 f I R Io Ro
        unfold wbL_law_910
        refine ⟨fun c4 => ⟨fun _ => ⟨by unfold inR; omega, fun z ez => ?_⟩, fun w => ?_⟩, fun c4 => k_solution h (by decide) (by omega) (by omega) (by omega) ?_⟩
        · subst ez; exact ih _ (by omega) (by omega) (by omega)
        · have : k = 4 := by omega
          subst this
          exact absurd (hc x15) w
        · rw [hs x17 (by omega) (by omega)]
          have step : ∀ y1, y1 = (if x (k : Int) = x15 then (1 : Int) else 0) → wL_law_935 sc (wL_law_898 sc n) (wL_law_910 sc (wL_law_898 sc n) m) x13 x15 x17 (dfV x f x15 k) y1 f I R Io Ro := fun y1 e1 => by
            have y01 : 0 ≤ y1 ∧ y1 ≤ 1 := by rw [e1]; split <;> omega
            unfold wL_law_935
            refine ⟨by omega, fun nf => ⟨by unfold inR; omega, fun z3 e3 => ⟨by unfold inR; omega, fun z5 e5 => ?_⟩⟩, fun nf => ⟨by unfold inR; omega, fun z3 e3 => ⟨by unfold inR; omega, fun z5 e5 => ?_⟩⟩⟩
            · have e : z3 = dfV x f x15 (k + 1) := by
                show z3 = dfV x f x15 k + ((if x (k : Int) = x15 then 1 else 0) - (if f (k : Int) = x15 then 1 else 0))
                rw [← e1, if_neg (by rw [← ek]; exact nf)]; exact e3
              rw [e]
              exact ihm (k + 1) z5 (by omega) (by omega) (by omega)
            · have e : z3 = dfV x f x15 (k + 1) := by
                show z3 = dfV x f x15 k + ((if x (k : Int) = x15 then 1 else 0) - (if f (k : Int) = x15 then 1 else 0))
                rw [← e1, if_pos (by rw [← ek]; exact nf)]; exact e3
              rw [e]
              exact ihm (k + 1) z5 (by omega) (by omega) (by omega)
          rw [ek] at step ⊢
          exact ⟨fun w => step 0 (by rw [if_neg w]), fun w => step 1 (by rw [if_pos w])⟩
    exact L 5 0 0 rfl (by decide) (by decide)
/-- the inverse of a turn -/
def tiF (a : Int) : Int → Int := if a = 0 then mvT 0 2 2 else fun c => if c = 0 then 2 else if c = 1 then 0 else if c = 2 then 3 else 1
theorem tiF_b {a : Int} (ha : a = 0 ∨ a = 1) : bij4 (mvT a 2 2) (tiF a) := by
  have fin : ∀ (t ti : Int → Int), (∀ k : Fin 4, 0 ≤ t k.val ∧ t k.val < 4 ∧ 0 ≤ ti k.val ∧ ti k.val < 4 ∧ ti (t k.val) = k.val ∧ t (ti k.val) = k.val) → bij4 t ti := fun t ti h c c0 c1 => by
    have := h ⟨c.toNat, by omega⟩
    rw [show ((c.toNat : Nat) : Int) = c by omega] at this
    exact this
  rcases ha with rfl | rfl
  · exact fin _ _ (by decide +kernel)
  · exact fin _ _ (by decide +kernel)
theorem tiF_c {a v : Int} (ha : a = 0 ∨ a = 1) (hf : ∀ c, 0 ≤ c → c < 4 → f c = x c) : dfV (cpM x (tiF a)) f v 4 = 0 := by
  have e : ∀ c, 0 ≤ c → c < 4 → cpM x (tiF a) c = x (tiF a c) := fun c c0 c1 => by unfold cpM; rw [if_pos ⟨c0, c1⟩]
  have e0 := e 0 (by decide) (by decide)
  have e1 := e 1 (by decide) (by decide)
  have e2 := e 2 (by decide) (by decide)
  have e3 := e 3 (by decide) (by decide)
  have f0 := hf 0 (by decide) (by decide)
  have f1 := hf 1 (by decide) (by decide)
  have f2 := hf 2 (by decide) (by decide)
  have f3 := hf 3 (by decide) (by decide)
  have u : dfV (cpM x (tiF a)) f v 4 = 0 + ((if cpM x (tiF a) 0 = v then 1 else 0) - (if f 0 = v then 1 else 0)) + ((if cpM x (tiF a) 1 = v then 1 else 0) - (if f 1 = v then 1 else 0)) + ((if cpM x (tiF a) 2 = v then 1 else 0) - (if f 2 = v then 1 else 0)) + ((if cpM x (tiF a) 3 = v then 1 else 0) - (if f 3 = v then 1 else 0)) := rfl
  rw [u, e0, e1, e2, e3, f0, f1, f2, f3]
  rcases ha with rfl | rfl
  · rw [show tiF 0 0 = 1 by decide +kernel, show tiF 0 1 = 0 by decide +kernel, show tiF 0 2 = 3 by decide +kernel, show tiF 0 3 = 2 by decide +kernel]
    omega
  · rw [show tiF 1 0 = 2 by decide +kernel, show tiF 1 1 = 0 by decide +kernel, show tiF 1 2 = 3 by decide +kernel, show tiF 1 3 = 1 by decide +kernel]
    omega
theorem z_842 (h : INV I R J) (e11 : J 1000 11 = 2) (e12 : J 1000 12 = 2) (e13 : J 1000 13 = 4) (e28 : J 1000 28 = 1) (hs : ∀ c, 0 ≤ c → c < 4 → J 1029 (25 * 0 + c) = x c) (g0 : J 1020 = fun _ => 0) (h3 : g3 (J 1000 14) (mr J 1015)) (hu : UQ (J 1000 14) (mr J 1015) x)
    (hmk : ∀ (Q : Int → cI → cR → Prop) , (∀ I' R', Q x13 I' R') → wX11_make (blw (sc 12) 65536) Io Ro Q (fun _ _ _ => False)) :
    ∀ (n : Nat) (x15 : Int) (f : Int → Int), 0 ≤ x15 → x15 ≤ 4 → 4 - x15 < n → (∀ c, 0 ≤ c → c < x15 → f c = x c) → wL_law_842 sc n x13 x15 f I R Io Ro := by
  have eM : vM J = 4 := by unfold vM; rw [e11, e12]; rfl
  intro n
  induction n with
  | zero => intro x15 f _ _ _; omega
  | succ n ih =>
    intro x15 f q0 q1 q2 hf
    show wbL_law_842 sc (wL_law_842 sc n) x13 x15 f I R Io Ro
    unfold wbL_law_842
    refine ⟨fun c => ?_, fun c => k_solution h (by decide) (by omega) q0 (by omega) ⟨by omega, fun f18 e18 => ⟨by unfold inR; omega, fun z ez => ?_⟩⟩⟩
    · have ba := blw_b (a := sc 13) (b := 2) (by decide)
      have ha : blw (sc 13) 2 = 0 ∨ blw (sc 13) 2 = 1 := by omega
      generalize blw (sc 13) 2 = a at *
      have hct : chT a = 0 ∨ chT a = 1 := by unfold chT; split <;> omega
      refine k_change h (by omega) ha (fun I' R' h' => ?_)
      rw [eM]
      refine ⟨fun w => absurd rfl w, fun _ => ?_⟩
      have hj : ∀ t, jcols t 2 2 = 2 := fun t => by unfold jcols; split <;> rfl
      rw [e11, e12, hj, g0, eM] at h'
      generalize hJ2 : jG J 2 2 (J 1000 13) (J 1000 14) (fun i => mv (mvT (chT a) 2 2) (mr J 1015 i)) (gm (mvT (chT a) 2 2) (fun _ => 0) (4 : Int).toNat) = J2 at h'
      have k11 : J2 1000 11 = 2 := by rw [← hJ2]; rfl
      have k12 : J2 1000 12 = 2 := by rw [← hJ2]; rfl
      have k13 : J2 1000 13 = 4 := by rw [← hJ2]; exact e13
      have k14 : J2 1000 14 = J 1000 14 := by rw [← hJ2]; rfl
      have k20 : ∀ c, J2 1020 c = 0 := fun c => by rw [← hJ2]; exact gm_0 _ c
      have kr : ∀ i, 0 ≤ i → i < J 1000 14 → e9 (mv (mvT (chT a) 2 2) (mr J 1015 i)) (mr J2 1015 i) := fun i _ _ => by rw [← hJ2]; exact e9_s jG_e
      have j11 : jT J2 1000 11 = 2 := by rw [jT_o (by decide) (by decide)]; exact k11
      have j12 : jT J2 1000 12 = 2 := by rw [jT_o (by decide) (by decide)]; exact k12
      have j13 : jT J2 1000 13 = 4 := by rw [jT_o (by decide) (by decide)]; exact k13
      have j14 : jT J2 1000 14 = J 1000 14 := by rw [jT_o (by decide) (by decide)]; exact k14
      have gg := h.2.1.2.2.2.1
      rw [eM] at gg
      have gm2 : gp 4 (J 1000 14) (fun i => mv (mvT (chT a) 2 2) (mr J 1015 i)) := fun i i0 i1 => mv_gr (gg i i0 i1) (fun c c0 c1 => by have := tiF_b hct c c0 c1; exact ⟨this.1, this.2.1⟩) (fun c d c0 c1 d0 d1 q => by
        have b1 := (tiF_b hct c c0 c1).2.2.2.2.1
        have b2 := (tiF_b hct d d0 d1).2.2.2.2.1
        rw [← b1, ← b2, q])
      have u2 := mv_uq (tiF_b hct) gg hu
      have one := s_one (x := cpM x (tiF (chT a))) h' j11 j12 j13 (fun c => by rw [jT_o (by decide) (by omega)]; exact k20 c)
        (by rw [j14, jT_mr]; exact g3_e9 kr (fun i i0 i1 => by rw [mv_l (by decide)]; exact h3 i i0 i1))
        (by rw [j14, jT_mr]; exact UQ_e9 gm2 kr u2)
      refine k_search h' (by rw [j11]; decide) (by decide) (by decide) (fun I3 J3 h3' f3 e3 s3 => ?_)
      rw [one.1]
      refine ⟨fun _ => ⟨6, ?_⟩, fun w => absurd rfl w⟩
      rw [one.2.1] at e3 s3
      have eM3 : vM J3 = 4 := by unfold vM; rw [f3 _ _ (by decide) (by omega), f3 _ _ (by decide) (by omega), j11, j12]; rfl
      exact z_898 (x := cpM x (tiF (chT a))) h3' eM3 e3 (fun c c0 c1 => by rw [s3 0 c (by decide) (by decide) c0 (by omega), one.2.2]) (fun v => tiF_c hct (fun c c0 c1 => hf c c0 (by omega))) hmk 6 1 (by decide) (by decide) (by decide)
    · subst ez
      refine ih _ f18 (by omega) (by omega) (by omega) (fun d d0 d1 => ?_)
      rw [e18]
      by_cases q : d = x15
      · subst q; rw [uFe]; exact hs d d0 (by omega)
      · rw [uFn q]; exact hf d d0 (by omega)
end EN2
