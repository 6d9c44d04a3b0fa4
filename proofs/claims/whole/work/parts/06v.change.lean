/-! ===== change ===== -/
/-- where a cell goes: t 0 mirrored, else turned -/
def mvT (t w h c : Int) : Int := if t = 0 then (w - 1 - c % w) + w * (c / w) else (h - 1 - c / w) + h * (c % w)
theorem mvT_b {t w h c : Int} (w0 : 2 ≤ w) (w1 : w ≤ 5) (h0 : 2 ≤ h) (h1 : h ≤ 5) (c0 : 0 ≤ c) (c1 : c < w * h) : 0 ≤ mvT t w h c ∧ mvT t w h c < w * h := by
  have ew : w = 2 ∨ w = 3 ∨ w = 4 ∨ w = 5 := by omega
  have eh : h = 2 ∨ h = 3 ∨ h = 4 ∨ h = 5 := by omega
  unfold mvT
  rcases ew with rfl | rfl | rfl | rfl <;> rcases eh with rfl | rfl | rfl | rfl <;> split <;> omega
theorem mvT_i {t w h c d : Int} (w0 : 2 ≤ w) (w1 : w ≤ 5) (h0 : 2 ≤ h) (h1 : h ≤ 5) (c0 : 0 ≤ c) (c1 : c < w * h) (d0 : 0 ≤ d) (d1 : d < w * h) (e : mvT t w h c = mvT t w h d) : c = d := by
  have ew : w = 2 ∨ w = 3 ∨ w = 4 ∨ w = 5 := by omega
  have eh : h = 2 ∨ h = 3 ∨ h = 4 ∨ h = 5 := by omega
  unfold mvT at e
  rcases ew with rfl | rfl | rfl | rfl <;> rcases eh with rfl | rfl | rfl | rfl <;> split at e <;> omega
/-- the grid when so many cells have gone to their places -/
def gm (t g : Int → Int) : Nat → Int → Int
  | 0 => fun _ => 0
  | n + 1 => upF (gm t g n) (t n) (g n)
theorem gm_s {t g : Int → Int} {c : Int} (h : 0 ≤ c) : gm t g (c + 1).toNat = upF (gm t g c.toNat) (t c) (g c) := by
  rw [show (c + 1).toNat = c.toNat + 1 by omega]
  show upF (gm t g c.toNat) (t (c.toNat : Int)) (g (c.toNat : Int)) = _
  rw [Int.toNat_of_nonneg h]
theorem gm_b {t g : Int → Int} {k m : Int} (hk : 0 ≤ k) (hg : ∀ c, 0 ≤ c → c < m → 0 ≤ g c ∧ g c ≤ k) : ∀ n : Nat, (n : Int) ≤ m → ∀ c, 0 ≤ gm t g n c ∧ gm t g n c ≤ k := by
  intro n
  induction n with
  | zero => intro _ c; exact ⟨Int.le_refl 0, hk⟩
  | succ n ih =>
    intro hn c
    show 0 ≤ upF (gm t g n) (t n) (g n) c ∧ upF (gm t g n) (t n) (g n) c ≤ k
    by_cases e : c = t n
    · subst e; rw [uFe]; exact hg n (by omega) (by omega)
    · rw [uFn e]; exact ih (by omega) c
theorem gm_cg {t g g' : Int → Int} {m : Int} (e : ∀ c, 0 ≤ c → c < m → g c = g' c) : ∀ n : Nat, (n : Int) ≤ m → gm t g n = gm t g' n := by
  intro n
  induction n with
  | zero => intro _; rfl
  | succ n ih =>
    intro hn
    show upF (gm t g n) (t n) (g n) = upF (gm t g' n) (t n) (g' n)
    rw [ih (by omega), e n (by omega) (by omega)]
theorem rc_d {w x y : Int} (hw : 0 < w) (y0 : 0 ≤ y) (y1 : y < w) : (y + w * x) / w = x ∧ (y + w * x) % w = y := by
  refine ⟨?_, ?_⟩
  · rw [Int.add_mul_ediv_left _ _ (by omega), Int.ediv_eq_zero_of_lt y0 y1]; omega
  · rw [Int.add_mul_emod_self_left, Int.emod_eq_of_lt y0 y1]
section CH
variable {I : cI} {R : cR} {J : cI} {p a : Nat} {t w h k n m : Int} {ρ : Int → Int → Int}
def jcols (t w h : Int) : Int := if t = 0 then w else h
/-- the class: the draft becomes the puzzle, moved -/
theorem c_moved {Q : cI → cR → Prop} (hp : okp R p) (ha : okp R a) (hne : p ≠ a) (ew : I a 0 = w) (eh : I a 1 = h) (ek : I a 2 = k) (e5 : I a 5 = n) (w0 : 2 ≤ w) (w1 : w ≤ 5) (h0 : 2 ≤ h) (h1 : h ≤ 5) (n0 : 0 ≤ n) (n1 : n ≤ 65) (hv : pv I R a n ρ) (hg : gp (w * h) n ρ) (ht : t = 0 ∨ t = 1)
    (hQ : ∀ I' R', okp R' p → okp R' a → R' 0 = R 0 → (∀ b x, b < 85 → I' b x = I b x) → I' p 0 = jcols t w h → I' p 1 = jcols t h w → I' p 2 = k → I' p 5 = n → pv I' R' p n (fun i => mv (mvT t w h) (ρ i)) → (∀ c, 0 ≤ c → c < 25 → I' (p + 1) c = gm (mvT t w h) (I (a + 1)) (w * h).toNat c) → Q I' R') : wX4_becomeMoved p a t I R Q := by
  have hp' : p = 85 ∨ p = 89 := hp.1
  have ha' : a = 85 ∨ a = 89 := ha.1
  have hM := Int.mul_le_mul w1 h1 (by omega) (by decide)
  have hM0 : 0 ≤ w * h := Int.mul_nonneg (by omega) (by omega)
  have tB := fun c c0 c1 => mvT_b (t := t) (c := c) w0 w1 h0 h1 c0 c1
  have tI := fun c d c0 c1 d0 d1 => mvT_i (t := t) (c := c) (d := d) w0 w1 h0 h1 c0 c1 d0 d1
  -- the rules
  have L3 : ∀ (m : Nat) (x : Int) (I' : cI) (R' : cR), 0 ≤ x → x ≤ n → n - x < m → okp R' p → okp R' a → R' 0 = R 0 → (∀ b x, b < 85 → I' b x = I b x) → (∀ b x, b = a → I' b x = I b x) → I' p 0 = jcols t w h → I' p 1 = jcols t h w → I' p 2 = k → I' p 5 = x → (∀ c, 0 ≤ c → c < w * h → I' (p + 3) c = mvT t w h c) → (∀ c, 0 ≤ c → c < 25 → I' (p + 1) c = gm (mvT t w h) (I (a + 1)) (w * h).toNat c) → pv I' R' a n ρ → pv I' R' p x (fun i => mv (mvT t w h) (ρ i)) → wX4_becomeMoved_160 Q p a t m x I' R' := by
    intro m
    induction m with
    | zero => intro x I' R' x0 x1 x2; omega
    | succ m ih =>
      intro x I' R' x0 x1 x2 op oa r0 f1 f2 q0 q1 q2 q5 qp qg va vp
      show wbX4_becomeMoved_160 Q p a t (wX4_becomeMoved_160 Q p a t m) x I' R'
      unfold wbX4_becomeMoved_160
      rw [f2 a 5 rfl, e5]
      refine ⟨fun c => ?_, fun c => ⟨by omega, ?_⟩⟩
      · have ex : x = n := by omega
        subst ex
        exact hQ I' R' op oa r0 f1 q0 q1 q2 q5 vp qg
      · have vx := va x x0 (by omega)
        have gx := hg x x0 (by omega)
        have ra := rg_R (oa.2.1 x x0 (by omega))
        have rp := rg_R (op.2.1 x x0 (by omega))
        have a1 := op.2.1 x x0 (by omega)
        have a2 := oa.2.1 x x0 (by omega)
        have nr : R' (p + 2) x ≠ R' (a + 2) x := by unfold rg at a1 a2; omega
        have ra' : 93 ≤ R' (a + 2) x ∧ R' (a + 2) x < 223 := ra
        have rp' : 93 ≤ R' (p + 2) x ∧ R' (p + 2) x < 223 := rp
        refine c_addRule op q5 x0 (by omega) (fun I3 R4 g1 g2 g3 g4 g5 g6 g7 g8 => ⟨by omega, ?_⟩)
        have ea : R4 (a + 2) x = R' (a + 2) x := g2 _ _ (by omega)
        have v4 : rv I3 R4 (R' (a + 2) x) (ρ x) := rv_fr2 ra rp (Ne.symm nr) (fun b y z1 z2 z3 => g1 b y z2 (by omega)) g2 vx
        rw [ea]
        refine c_takeParts gx (by omega) rp ra nr (by rw [g3]; exact vx.1) g7 g8 v4 (fun I9 f9 v9 => ?_)
        refine c_moveCells (t := mvT t w h) gx (by omega) (by omega) rp v9 (fun c c0 c1 => by rw [f9 _ _ (by omega) (by omega), g1 _ _ (by omega) (by omega)]; exact qp c c0 c1) (fun c c0 c1 => by have := tB c c0 c1; omega) (fun I14 f14 v14 => ⟨by unfold inR; omega, fun z hz => ?_⟩)
        subst hz
        have F : ∀ b y, b ≠ R' (p + 2) x → b ≠ R' (p + 2) x + 130 → ¬ (b = p ∧ y = 5) → I14 b y = I' b y := fun b y z1 z2 z3 => by rw [f14 b y z1 z2, f9 b y z1 z2]; exact g1 b y z1 z3
        refine ih (x + 1) I14 R4 (by omega) (by omega) (by omega) (okp_fr op (fun j => g2 _ _ (by omega))) (okp_fr oa (fun j => g2 _ _ (by omega))) ?_ (fun b y z => by rw [F b y (by omega) (by omega) (by omega)]; exact f1 b y z) (fun b y z => by rw [F b y (by omega) (by omega) (by omega)]; exact f2 b y z) ?_ ?_ ?_ ?_ (fun c c0 c1 => by rw [F _ _ (by omega) (by omega) (by omega)]; exact qp c c0 c1) (fun c c0 c1 => by rw [F _ _ (by omega) (by omega) (by omega)]; exact qg c c0 c1) ?_ ?_
        · rw [← r0]; funext y; exact g2 _ _ (by omega)
        · rw [F _ _ (by omega) (by omega) (by omega)]; exact q0
        · rw [F _ _ (by omega) (by omega) (by omega)]; exact q1
        · rw [F _ _ (by omega) (by omega) (by omega)]; exact q2
        · rw [f14 _ _ (by omega) (by omega), f9 _ _ (by omega) (by omega)]; exact g4
        · exact pv_other op oa hne x0 (by omega) n1 (fun b y z1 z2 z3 => F b y z2 z3 (by omega)) g2 va
        · exact pv_add op x0 (by omega) (fun b y z1 z2 z3 => F b y z2 z3 (by omega)) g2 vp v14
  -- the cells
  have cells : ∀ I4, (∀ b x, b ≠ p → b ≠ p + 1 → I4 b x = I b x) → I4 p 0 = jcols t w h → I4 p 1 = jcols t h w → I4 p 2 = k → I4 p 5 = 0 → (∀ c, 0 ≤ c → c < 25 → I4 (p + 1) c = 0) → wX4_becomeMoved_39 Q p a t I4 R := fun I4 f4 q0 q1 q2 q5 qz => by
    have view : (m : Int) → cI → Prop := fun c I' => (∀ b x, b ≠ p + 1 → b ≠ p + 3 → I' b x = I4 b x) ∧ (∀ d, 0 ≤ d → d < c → I' (p + 3) d = mvT t w h d) ∧ (∀ d, 0 ≤ d → d < 25 → I' (p + 1) d = gm (mvT t w h) (I (a + 1)) c.toNat d)
    clear view
    have L2 : ∀ (K : Int → cI → cR → Prop) (x : Int), 0 ≤ x → x < h → (∀ I', (∀ b x, b ≠ p + 1 → b ≠ p + 3 → I' b x = I4 b x) → (∀ d, 0 ≤ d → d < w * (x + 1) → I' (p + 3) d = mvT t w h d) → (∀ d, 0 ≤ d → d < 25 → I' (p + 1) d = gm (mvT t w h) (I (a + 1)) (w * (x + 1)).toNat d) → K (x + 1) I' R) →
        ∀ (m : Nat) (y c : Int) (I' : cI), 0 ≤ y → y ≤ w → w - y < m → c = y + w * x → (∀ b x, b ≠ p + 1 → b ≠ p + 3 → I' b x = I4 b x) → (∀ d, 0 ≤ d → d < c → I' (p + 3) d = mvT t w h d) → (∀ d, 0 ≤ d → d < 25 → I' (p + 1) d = gm (mvT t w h) (I (a + 1)) c.toNat d) → wX4_becomeMoved_52 Q p a t K m x y I' R := by
      intro K x x0 x1 hK m
      have wx0 : 0 ≤ w * x := Int.mul_nonneg (by omega) x0
      have wx1 : w * (x + 1) ≤ w * h := Int.mul_le_mul_of_nonneg_left (by omega) (by omega)
      have wx2 : w * (x + 1) = w * x + w := by rw [Int.mul_add, Int.mul_one]
      induction m with
      | zero => intro y c I' y0 y1 y2; omega
      | succ m ih =>
        intro y c I' y0 y1 y2 hc v1 v2 v3
        show wbX4_becomeMoved_52 Q p a t K (wX4_becomeMoved_52 Q p a t K m) x y I' R
        unfold wbX4_becomeMoved_52
        have i0 : I' a 0 = w := by rw [v1 _ _ (by omega) (by omega), f4 _ _ (by omega) (by omega)]; exact ew
        have i1 : I' a 1 = h := by rw [v1 _ _ (by omega) (by omega), f4 _ _ (by omega) (by omega)]; exact eh
        have ip : I' p 0 = jcols t w h := by rw [v1 _ _ (by omega) (by omega)]; exact q0
        rw [i0, i1]
        refine ⟨fun e => ⟨by unfold inR; omega, fun z hz => ?_⟩, fun e => ?_⟩
        · subst hz
          have ec : c = w * (x + 1) := by omega
          subst ec
          exact hK I' v1 v2 v3
        · have hd := rc_d (x := x) (show 0 < w by omega) y0 (by omega)
          rw [← hc] at hd
          have cb := tB c (by omega) (by omega)
          have step : ∀ x5 y0', x5 + jcols t w h * y0' = mvT t w h c → inR (x5 + jcols t w h * y0') → wX4_becomeMoved_97 Q p a t K (wX4_becomeMoved_52 Q p a t K m) x y x5 y0' I' R := fun x5 y0' e1 e2 => by
            unfold wX4_becomeMoved_97
            rw [i0, ip, e1]
            rw [e1] at e2
            refine ⟨by unfold inR; omega, fun z2 hz2 => ⟨e2, by omega, fun I6 e6 => ⟨by omega, by omega, ?_⟩⟩⟩
            have ez : z2 = c := by omega
            subst ez
            have e63 : I6 (p + 3) z2 = mvT t w h z2 := by subst e6; exact u2e
            have e6g : I6 (a + 1) z2 = I (a + 1) z2 := by subst e6; rw [u2a (by omega), v1 _ _ (by omega) (by omega)]; exact f4 _ _ (by omega) (by omega)
            rw [e63, e6g]
            refine ⟨by omega, fun I12 e12 => ⟨by unfold inR; omega, fun z15 hz15 => ?_⟩⟩
            subst hz15
            refine ih (y + 1) (z2 + 1) I12 (by omega) (by omega) (by omega) (by omega) (fun b u z1 z2' => ?_) (fun d d0 d1 => ?_) (fun d d0 d1 => ?_)
            · subst e12; rw [u2a z1]; subst e6; rw [u2a z2']; exact v1 b u z1 z2'
            · subst e12; rw [u2a (by omega)]
              by_cases ed : d = z2
              · subst ed; exact e63
              · subst e6; rw [u2x ed]; exact v2 d d0 (by omega)
            · rw [gm_s (by omega)]
              subst e12
              by_cases ed : d = mvT t w h z2
              · subst ed; rw [u2e, uFe]
              · rw [u2x ed, uFn ed]; subst e6; rw [u2a (by omega)]; exact v3 d d0 d1
          have my := mul5 (a := w) (z := x) (by omega) w1 x0 (by omega)
          have my2 := mul5 (a := h) (z := y) (by omega) h1 y0 (by omega)
          refine ⟨fun t0 => ⟨by unfold inR; omega, ⟨fun _ => step _ _ ?_ ?_, fun c => absurd t0 c⟩⟩, fun t0 => ⟨by unfold inR; omega, ⟨fun c => absurd c t0, fun _ => step _ _ ?_ ?_⟩⟩⟩
          · unfold mvT jcols; rw [if_pos t0, if_pos t0, hd.1, hd.2]
          · unfold jcols; rw [if_pos t0]; unfold inR; omega
          · unfold mvT jcols; rw [if_neg t0, if_neg t0, hd.1, hd.2]
          · unfold jcols; rw [if_neg t0]; unfold inR; omega
    have L1 : ∀ (m : Nat) (x : Int) (I' : cI), 0 ≤ x → x ≤ h → h - x < m → (∀ b x, b ≠ p + 1 → b ≠ p + 3 → I' b x = I4 b x) → (∀ d, 0 ≤ d → d < w * x → I' (p + 3) d = mvT t w h d) → (∀ d, 0 ≤ d → d < 25 → I' (p + 1) d = gm (mvT t w h) (I (a + 1)) (w * x).toNat d) → wX4_becomeMoved_41 Q p a t m x I' R := by
      intro m
      induction m with
      | zero => intro x I' x0 x1 x2; omega
      | succ m ih =>
        intro x I' x0 x1 x2 v1 v2 v3
        show wbX4_becomeMoved_41 Q p a t (wX4_becomeMoved_41 Q p a t m) x I' R
        unfold wbX4_becomeMoved_41
        have i1 : I' a 1 = h := by rw [v1 _ _ (by omega) (by omega), f4 _ _ (by omega) (by omega)]; exact eh
        rw [i1]
        refine ⟨fun e => ⟨66, ?_⟩, fun e => ⟨6, ?_⟩⟩
        · have ex : x = h := by omega
          subst ex
          have rid : ∀ (pp : Nat), okp R pp → ∀ i, 0 ≤ i → i < 65 → 93 ≤ R (pp + 2) i := fun pp o i j0 j1 => (rg_R (o.2.1 i j0 j1)).1
          refine L3 66 0 I' R (Int.le_refl 0) n0 (by omega) hp ha rfl (fun b y z => by rw [v1 _ _ (by omega) (by omega)]; exact f4 _ _ (by omega) (by omega)) (fun b y z => by rw [v1 _ _ (by omega) (by omega)]; exact f4 _ _ (by omega) (by omega)) (by rw [v1 _ _ (by omega) (by omega)]; exact q0) (by rw [v1 _ _ (by omega) (by omega)]; exact q1) (by rw [v1 _ _ (by omega) (by omega)]; exact q2) (by rw [v1 _ _ (by omega) (by omega)]; exact q5) v2 v3 (pv_fr ha n1 (fun b y z => by rw [v1 _ _ (by omega) (by omega)]; exact f4 _ _ (by omega) (by omega)) hv) (fun i j0 j1 => by omega)
        · exact L2 _ x x0 (by omega) (fun I2 z1 z2 z3 => ih (x + 1) I2 (by omega) (by omega) (by omega) z1 z2 z3) 6 0 (w * x) I' (Int.le_refl 0) (by omega) (by omega) (by omega) v1 v2 v3
    exact ⟨6, L1 6 0 I4 (Int.le_refl 0) (by omega) (by omega) (fun _ _ _ _ => rfl) (fun d d0 d1 => by rw [Int.mul_zero] at d1; omega) (fun d d0 d1 => by rw [Int.mul_zero]; exact qz d d0 d1)⟩
  unfold wX4_becomeMoved
  rw [ew, eh, ek]
  refine ⟨fun t0 => ?_, fun t0 => ?_⟩
  · intro I1 e1 I2 e2 I3 e3 I5 e5'
    refine c_empty (fun I4 z1 z2 => cells I4 (fun b x y1 y2 => ?_) ?_ ?_ ?_ ?_ z2)
    · rw [z1 _ _ (by omega)]; subst e5'; rw [u2a y1]; subst e3; rw [u2a y1]; subst e2; rw [u2a y1]; subst e1; exact u2a y1
    · rw [z1 _ _ (by omega)]; subst e5'; rw [u2x (by decide)]; subst e3; rw [u2x (by decide)]; subst e2; rw [u2x (by decide)]; subst e1; rw [u2e]; unfold jcols; rw [if_pos t0]
    · rw [z1 _ _ (by omega)]; subst e5'; rw [u2x (by decide)]; subst e3; rw [u2x (by decide)]; subst e2; rw [u2e]; unfold jcols; rw [if_pos t0]
    · rw [z1 _ _ (by omega)]; subst e5'; rw [u2x (by decide)]; subst e3; exact u2e
    · rw [z1 _ _ (by omega)]; subst e5'; exact u2e
  · intro I1 e1 I2 e2 I3 e3 I5 e5'
    refine c_empty (fun I4 z1 z2 => cells I4 (fun b x y1 y2 => ?_) ?_ ?_ ?_ ?_ z2)
    · rw [z1 _ _ (by omega)]; subst e5'; rw [u2a y1]; subst e3; rw [u2a y1]; subst e2; rw [u2a y1]; subst e1; exact u2a y1
    · rw [z1 _ _ (by omega)]; subst e5'; rw [u2x (by decide)]; subst e3; rw [u2x (by decide)]; subst e2; rw [u2x (by decide)]; subst e1; rw [u2e]; unfold jcols; rw [if_neg t0]
    · rw [z1 _ _ (by omega)]; subst e5'; rw [u2x (by decide)]; subst e3; rw [u2x (by decide)]; subst e2; rw [u2e]; unfold jcols; rw [if_neg t0]
    · rw [z1 _ _ (by omega)]; subst e5'; rw [u2x (by decide)]; subst e3; exact u2e
    · rw [z1 _ _ (by omega)]; subst e5'; exact u2e
/-- the reference -/
theorem m_moved {s : Int} {Q : Int → cI → Prop} (e11 : J 1000 11 = w) (e12 : J 1000 12 = h) (e14 : J 1000 14 = n) (w0 : 2 ≤ w) (w1 : w ≤ 5) (h0 : 2 ≤ h) (h1 : h ≤ 5) (n0 : 0 ≤ n) (n1 : n ≤ 65) (hg : gp (w * h) n (mr J 1015)) (hs : (s = 0 ∧ t = 1) ∨ (s = 1 ∧ t = 0))
    (hQ : ∀ J', (∀ b x, ¬ (b = 1019 ∨ b = 1020 ∨ (b = 1000 ∧ (x = 11 ∨ x = 12))) → J' b x = J b x) → J' 1000 11 = jcols t w h → J' 1000 12 = jcols t h w → (∀ c, 0 ≤ c → c < 25 → J' 1020 c = gm (mvT t w h) (J 1020) (w * h).toNat c) → (∀ i, 0 ≤ i → i < n → e9 (mr J' 1015 i) (mv (mvT t w h) (mr J 1015 i))) → ∀ f0 f1, wX12_change_249 Q s f0 f1 J') : ∃ m, wX12_change_46 Q s m 0 (fun _ => 0) (fun _ => 0) J := by
  have hM := Int.mul_le_mul w1 h1 (by omega) (by decide)
  have hM4 := Int.mul_le_mul w0 h0 (by decide) (by omega)
  have tB := fun c c0 c1 => mvT_b (t := t) (c := c) w0 w1 h0 h1 c0 c1
  have L3i : ∀ (K : Int → (Int → Int) → (Int → Int) → cI → Prop) (f0 f1 : Int → Int) (J1 : cI) (x : Int), (∀ c, 0 ≤ c → c < w * h → f0 c = mvT t w h c) → 0 ≤ x → x < n → (∀ b y, ¬ (b = 1019) → J1 b y = J1 b y) → gr (w * h) (mr J1 1015 x) → (∀ J', (∀ b y, ¬ (b = 1019 ∧ 5 * x ≤ y ∧ y < 5 * x + 5) → J' b y = J1 b y) → e9 (mr J' 1015 x) (mv (mvT t w h) (mr J1 1015 x)) → K (x + 1) f0 f1 J') →
      ∀ (m : Nat) (y : Int) (J' : cI), 0 ≤ y → y ≤ mr J1 1015 x 3 → mr J1 1015 x 3 - y < m → (∀ b z, ¬ (b = 1019 ∧ 5 * x ≤ z ∧ z < 5 * x + y) → J' b z = J1 b z) → (∀ i, 0 ≤ i → i < y → J' 1019 (5 * x + i) = mvT t w h (mr J1 1015 x (4 + i))) → wX12_change_179 Q s K m x y f0 f1 J' := by
    intro K f0 f1 J1 x hf x0 x1 _ g hK m
    have n5 := g.2.2.2.2.2.2.2.1
    induction m with
    | zero => intro y J' y0 y1 y2; omega
    | succ m ih =>
      intro y J' y0 y1 y2 v1 v2
      show wbX12_change_179 Q s K (wX12_change_179 Q s K m) x y f0 f1 J'
      unfold wbX12_change_179 wX12_cellOf
      have e18 : J' 1018 x = mr J1 1015 x 3 := by rw [v1 _ _ (by omega)]; exact mr3.symm
      rw [e18]
      refine ⟨by omega, fun c => ⟨by unfold inR; omega, fun z hz => ?_⟩, fun c => ⟨by omega, ?_⟩⟩
      · subst hz
        refine hK J' (fun b z q => v1 b z (by omega)) (fun k k0 k1 _ => ?_)
        by_cases k4 : k < 4
        · rw [mv_l k4]
          have : k = 0 ∨ k = 1 ∨ k = 2 ∨ k = 3 := by omega
          rcases this with rfl | rfl | rfl | rfl
          · rw [mr0, mr0]; exact v1 _ _ (by omega)
          · rw [mr1, mr1]; exact v1 _ _ (by omega)
          · rw [mr2, mr2]; exact v1 _ _ (by omega)
          · rw [mr3, mr3]; exact v1 _ _ (by omega)
        · have ek : k = 4 + (k - 4) := by omega
          rw [ek, mr4 (by omega)]
          by_cases kl : k - 4 < mr J1 1015 x 3
          · rw [mv_c (by omega) kl]; exact v2 (k - 4) (by omega) (by omega)
          · unfold mv; rw [if_neg (by omega), if_neg (by omega), mr4 (by omega)]; exact v1 _ _ (by omega)
      · have e19 : J' 1019 (5 * x + y) = mr J1 1015 x (4 + y) := by rw [v1 _ _ (by omega)]; exact (mr4 y0).symm
        have hc := g.2.2.2.2.2.2.2.2.2.2.2.1 y y0 (by omega)
        rw [e19]
        dsimp only
        rw [hf _ hc.1 hc.2]
        refine ⟨by omega, by omega, fun J11 e => ⟨by unfold inR; omega, fun z hz => ?_⟩⟩
        subst hz
        refine ih (y + 1) J11 (by omega) (by omega) (by omega) (fun b z q => ?_) (fun i i0 i1 => ?_)
        · subst e; rw [u2n (by omega)]; exact v1 b z (by omega)
        · subst e
          by_cases ei : i = y
          · subst ei; exact u2e
          · rw [u2x (by omega)]; exact v2 i i0 (by omega)
  have L3 : ∀ (f0 f1 : Int → Int) (J1 : cI), (∀ c, 0 ≤ c → c < w * h → f0 c = mvT t w h c) → (∀ b x, b ≠ 1020 → J1 b x = J b x) → (∀ c, 0 ≤ c → c < 25 → J1 1020 c = gm (mvT t w h) (J 1020) (w * h).toNat c) → ∀ (m : Nat) (x : Int) (J' : cI), 0 ≤ x → x ≤ n → n - x < m → (∀ b y, ¬ (b = 1019 ∧ y < 5 * x) → J' b y = J1 b y) → (∀ i, 0 ≤ i → i < x → e9 (mr J' 1015 i) (mv (mvT t w h) (mr J 1015 i))) → wX12_change_167 Q s m x f0 f1 J' := by
    intro f0 f1 J1 hf g1 gg m
    induction m with
    | zero => intro x J' x0 x1 x2; omega
    | succ m ih =>
      intro x J' x0 x1 x2 v1 v2
      show wbX12_change_167 Q s (wX12_change_167 Q s m) x f0 f1 J'
      unfold wbX12_change_167
      have e14' : J' 1000 14 = n := by rw [v1 _ _ (by omega), g1 _ _ (by decide)]; exact e14
      have e11' : J' 1000 11 = w := by rw [v1 _ _ (by omega), g1 _ _ (by decide)]; exact e11
      have e12' : J' 1000 12 = h := by rw [v1 _ _ (by omega), g1 _ _ (by decide)]; exact e12
      rw [e14']
      refine ⟨fun c => ?_, fun c => ⟨6, ?_⟩⟩
      · have ex : x = n := by omega
        subst ex
        have fin : ∀ J2, (∀ b y, ¬ (b = 1000 ∧ (y = 11 ∨ y = 12)) → J2 b y = J' b y) → J2 1000 11 = jcols t w h → J2 1000 12 = jcols t h w → wX12_change_249 Q s f0 f1 J2 := fun J2 z1 z2 z3 => hQ J2 (fun b y q => by rw [z1 b y (by omega), v1 b y (by omega), g1 b y (by omega)]) z2 z3 (fun c c0 c1 => by rw [z1 _ _ (by omega), v1 _ _ (by omega)]; exact gg c c0 c1) (fun i i0 i1 => by
          rw [mr_fr (J0 := J') (J := J2) (b := 1015) (fun b y q1 q2 => z1 b y (by omega))]; exact v2 i i0 i1) f0 f1
        refine ⟨fun s0 => ?_, fun s0 z1 hz1 J3 e3 J6 e6 => ?_⟩
        · have t0 : t = 0 := by omega
          refine fin J' (fun _ _ _ => rfl) ?_ ?_
          · unfold jcols; rw [if_pos t0]; exact e11'
          · unfold jcols; rw [if_pos t0]; exact e12'
        · have t0 : ¬ t = 0 := by omega
          refine fin J6 (fun b y q => ?_) ?_ ?_
          · subst e6; rw [u2n (by omega)]; subst e3; exact u2n (by omega)
          · subst e6; rw [u2x (by decide)]; subst e3; rw [u2e, e12']; unfold jcols; rw [if_neg t0]
          · subst e6; rw [u2e, hz1, e11']; unfold jcols; rw [if_neg t0]
      · have em : e9 (mr J' 1015 x) (mr J 1015 x) := fun k k0 k1 _ => by
          have : k = 0 ∨ k = 1 ∨ k = 2 ∨ k = 3 ∨ 4 ≤ k := by omega
          rcases this with rfl | rfl | rfl | rfl | k4
          · rw [mr0, mr0, v1 _ _ (by omega), g1 _ _ (by decide)]
          · rw [mr1, mr1, v1 _ _ (by omega), g1 _ _ (by decide)]
          · rw [mr2, mr2, v1 _ _ (by omega), g1 _ _ (by decide)]
          · rw [mr3, mr3, v1 _ _ (by omega), g1 _ _ (by decide)]
          · rw [show k = 4 + (k - 4) by omega, mr4 (by omega), mr4 (by omega), v1 _ _ (by omega), g1 _ _ (by decide)]
        have gx : gr (w * h) (mr J' 1015 x) := gr_e (e9_s em) (hg x x0 (by omega))
        have n3 := gx.2.2.2.2.2.2.1
        have n5 := gx.2.2.2.2.2.2.2.1
        have emv : e9 (mv (mvT t w h) (mr J' 1015 x)) (mv (mvT t w h) (mr J 1015 x)) := fun k k0 k1 k2 => by
          rw [mv_l (by decide)] at k2
          unfold mv
          rw [em k k0 k1 k2, e9_3 em]
        refine L3i _ f0 f1 J' x hf x0 (by omega) (fun _ _ _ => rfl) gx (fun J2 z1 z2 => ih (x + 1) J2 (by omega) (by omega) (by omega) (fun b y q => by rw [z1 b y (by omega)]; exact v1 b y (by omega)) (fun i i0 i1 => ?_)) 6 0 J' (Int.le_refl 0) n3 (by omega) (fun _ _ _ => rfl) (fun i i0 i1 => by omega)
        by_cases ei : i = x
        · subst ei; exact e9_t z2 emv
        · refine e9_t (fun k k0 k1 _ => ?_) (v2 i i0 (by omega))
          have : k = 0 ∨ k = 1 ∨ k = 2 ∨ k = 3 ∨ 4 ≤ k := by omega
          rcases this with rfl | rfl | rfl | rfl | k4
          · rw [mr0, mr0]; exact z1 _ _ (by omega)
          · rw [mr1, mr1]; exact z1 _ _ (by omega)
          · rw [mr2, mr2]; exact z1 _ _ (by omega)
          · rw [mr3, mr3]; exact z1 _ _ (by omega)
          · rw [show k = 4 + (k - 4) by omega, mr4 (by omega), mr4 (by omega)]; exact z1 _ _ (by omega)
  have L2 : ∀ (f0 f1 : Int → Int), (∀ c, 0 ≤ c → c < w * h → f0 c = mvT t w h c) → (∀ c, f1 c = gm (mvT t w h) (J 1020) (w * h).toNat c) → ∀ (m : Nat) (x : Int) (J' : cI), 0 ≤ x → x ≤ 25 → 25 - x < m → (∀ b y, b ≠ 1020 → J' b y = J b y) → (∀ c, 0 ≤ c → c < x → J' 1020 c = f1 c) → wX12_change_140 Q s m x f0 f1 J' := by
    intro f0 f1 hf hf1 m
    induction m with
    | zero => intro x J' x0 x1 x2; omega
    | succ m ih =>
      intro x J' x0 x1 x2 v1 v2
      show wbX12_change_140 Q s (wX12_change_140 Q s m) x f0 f1 J'
      unfold wbX12_change_140
      refine ⟨fun c => ⟨66, L3 f0 f1 J' hf v1 (fun c c0 c1 => by rw [v2 c c0 (by omega), hf1]) 66 0 J' (Int.le_refl 0) n0 (by omega) (fun _ _ _ => rfl) (fun i i0 i1 => by omega)⟩, fun c => ⟨by omega, by omega, fun J4 e4 => ⟨by unfold inR; omega, fun z hz => ?_⟩⟩⟩
      subst hz
      refine ih (x + 1) J4 (by omega) (by omega) (by omega) (fun b y q => ?_) (fun c c0 c1 => ?_)
      · subst e4; rw [u2a q]; exact v1 b y q
      · subst e4
        by_cases ec : c = x
        · subst ec; exact u2e
        · rw [u2x ec]; exact v2 c c0 (by omega)
  have L1 : ∀ (m : Nat) (x : Int) (f0 f1 : Int → Int), 0 ≤ x → x ≤ w * h → w * h - x < m → (∀ c, 0 ≤ c → c < x → f0 c = mvT t w h c) → (∀ c, f1 c = gm (mvT t w h) (J 1020) x.toNat c) → wX12_change_46 Q s m x f0 f1 J := by
    intro m
    induction m with
    | zero => intro x f0 f1 x0 x1 x2; omega
    | succ m ih =>
      intro x f0 f1 x0 x1 x2 v1 v2
      show wbX12_change_46 Q s (wX12_change_46 Q s m) x f0 f1 J
      unfold wbX12_change_46 wX12_cells
      dsimp only
      rw [e11, e12]
      have d0 : 0 ≤ x / w := Int.ediv_nonneg x0 (by omega)
      have d1 : x / w ≤ x := Int.ediv_le_self w x0
      have m0 := Int.emod_nonneg x (show w ≠ 0 by omega)
      have m1 := Int.emod_lt_of_pos x (show 0 < w by omega)
      have step : ∀ v, v = mvT t w h x → x < w * h → wX12_change_117 Q s (wX12_change_46 Q s m) x x v f0 f1 J := fun v hv xl => by
        have cb := tB x x0 xl
        refine ⟨by omega, fun f2 e2 => ?_⟩
        have ef : f2 x = mvT t w h x := by subst e2; rw [uFe]; exact hv
        rw [ef]
        refine ⟨by omega, by omega, by omega, fun f7 e7 => ⟨by unfold inR; omega, fun z hz => ?_⟩⟩
        subst hz
        refine ih (x + 1) f2 f7 (by omega) (by omega) (by omega) (fun c c0 c1 => ?_) (fun c => ?_)
        · by_cases ec : c = x
          · subst ec; exact ef
          · subst e2; rw [uFn ec]; exact v1 c c0 (by omega)
        · rw [gm_s x0]
          subst e7
          by_cases ec : c = mvT t w h x
          · subst ec; rw [uFe, uFe]
          · rw [uFn ec, uFn ec]; exact v2 c
      refine ⟨by unfold inR; omega, fun c => ⟨26, ?_⟩, fun c => ⟨⟨x0, by omega⟩, by unfold inR; omega, fun z8 e8 => ⟨⟨x0, by omega⟩, by unfold inR; omega, fun z12 e12' => ?_⟩⟩⟩
      · have ex : x = w * h := by omega
        subst ex
        exact L2 f0 f1 v1 v2 26 0 J (Int.le_refl 0) (by decide) (by decide) (fun _ _ _ => rfl) (fun c c0 c1 => by omega)
      · have cb := tB x x0 (by omega)
        subst e8; subst e12'
        refine ⟨fun s0 => ?_, fun s0 => ?_⟩
        · have t0 : t = 0 := by omega
          have e : (w - 1 - x % w) + w * (x / w) = mvT t w h x := by unfold mvT; rw [if_pos t0]
          rw [e]
          exact ⟨by unfold inR; omega, step _ rfl (by omega)⟩
        · have t0 : ¬ t = 0 := by omega
          have e : (h - 1 - x / w) + h * (x % w) = mvT t w h x := by unfold mvT; rw [if_neg t0]
          rw [e]
          exact ⟨by unfold inR; omega, step _ rfl (by omega)⟩
  exact ⟨26, L1 26 0 _ _ (Int.le_refl 0) (by omega) (by omega) (fun c c0 c1 => by omega) (fun c => rfl)⟩
end CH
section ST7
variable {I : cI} {R : cR} {J : cI}
theorem st_change {a : Int} (h : INV I R J) : wX11_change a I R (okN (wX12_change a J)) (okX (xf 2 1 0) (wX12_change a J)) := by
  have h0 := INV_0 (v := 0) h
  have hb := vM_b h.2.1
  have hs := h.2.1.1
  have hn := h.2.1.2
  have hk := INV_k h
  have e11 : up2 J 1000 0 0 1000 11 = J 1000 11 := u2x (by decide)
  have main : (a = 0 ∨ a = 1) → wX11_change_20 (okN (wX12_change a J)) (okX (xf 2 1 0) (wX12_change a J)) a I R := fun ha => by
    refine c_reqPuzzle h (fun hw => ?_) (fun hw => ⟨by decide, fun J1 e1 => m_isIn ?_⟩)
    · have go : ∀ t, (t = 0 ∨ t = 1) → ((a = 0 ∧ t = 1) ∨ (a = 1 ∧ t = 0)) → wX11_change_41 (okN (wX12_change a J)) (okX (xf 2 1 0) (wX12_change a J)) a (R 0 8) (R 0 7) t I R := fun t ht hs' => by
        have eM : vM J = J 1000 11 * J 1000 12 := rfl
        have hg := h.2.1.2.2.2.1
        have hc40 := h.2.1.2.2.2.2
        rw [eM] at hg
        have h9 := h.1.2.2.2.2.2.2.2.2
        have w2 : 2 ≤ J 1000 11 ∧ J 1000 11 ≤ 5 ∧ 2 ≤ J 1000 12 ∧ J 1000 12 ≤ 5 ∧ 2 ≤ J 1000 13 := by omega
        have M25 : J 1000 11 * J 1000 12 ≤ 25 := hb.2.1
        have M0 : 0 ≤ J 1000 11 * J 1000 12 := hb.1
        have eJ : jcols t (J 1000 11) (J 1000 12) * jcols t (J 1000 12) (J 1000 11) = vM J := by
          unfold jcols
          by_cases t0 : t = 0
          · rw [if_pos t0, if_pos t0]; rfl
          · rw [if_neg t0, if_neg t0, Int.mul_comm]; rfl
        refine c_moved (w := J 1000 11) (h := J 1000 12) (k := J 1000 13) h.1.2.1 h.1.1 (Ne.symm h.1.2.2.1) h.1.2.2.2.1 h.1.2.2.2.2.1 h.1.2.2.2.2.2.1 h.1.2.2.2.2.2.2.1 w2.1 w2.2.1 w2.2.2.1 w2.2.2.2.1 hn.1 hn.2.1 h.1.2.2.2.2.2.2.2.1 hg ht (fun I2 R2 op oa r0 f1 q0 q1 q2 q5 vp qg => ?_)
        have e7 : R2 0 7 = R 0 7 := by rw [r0]
        have e8 : R2 0 8 = R 0 8 := by rw [r0]
        have ig := gm_cg (t := mvT t (J 1000 11) (J 1000 12)) (g := I (R 0 7 + 1)) (g' := J 1020) (m := J 1000 11 * J 1000 12) (fun c c0 c1 => (h9 c c0 (by omega)).1) (J 1000 11 * J 1000 12).toNat (by omega)
        have gb := gm_b (t := mvT t (J 1000 11) (J 1000 12)) (g := J 1020) (k := J 1000 13) (m := J 1000 11 * J 1000 12) (by omega) (fun c c0 c1 => (h9 c c0 (by omega)).2) (J 1000 11 * J 1000 12).toNat (by omega)
        rw [ig] at qg
        refine c_take (M := vM J) (k := J 1000 13) (by rw [e8]; exact h.1.2.1.1) (by rw [e8, q0, q1]; exact eJ) hb.1 hb.2.1 (by rw [e8]; exact q2) hk.1 hk.2 (fun c c0 c1 => by rw [e8, qg c c0 (by omega)]; exact gb c) (fun I' z1 z2 z3 z4 z5 => ?_)
        have hp8 : R 0 8 = 85 ∨ R 0 8 = 89 := h.1.2.1.1
        unfold wX4_cellCount
        rw [sw_7, e8, z1 _ 0 (by omega) (by omega) (by omega), z1 _ 1 (by omega) (by omega) (by omega), q0, q1, eJ]
        refine ⟨by unfold inR; omega, fun J1 e1 => m_isIn ?_⟩
        have hJ1 : ∀ b x, ¬ (b = 1000 ∧ x = 0) → J1 b x = J b x := fun b x q => by subst e1; exact u2n q
        have z0 : J1 1000 0 = 0 := by subst e1; exact u2e
        have em : mr J1 1015 = mr J 1015 := mr_fr (fun b x y1 y2 => hJ1 b x (by omega))
        rw [b2_t (by omega)]
        refine ⟨fun _ => ⟨fun _ f9 e9 f12 e12 => ?_, fun w => absurd ((hJ1 _ _ (by omega)).symm.trans w) hw⟩, fun w => absurd w (by decide)⟩
        rw [← e1] at h0
        subst e9; subst e12
        refine m_moved (w := J 1000 11) (h := J 1000 12) (n := J 1000 14) (t := t) (hJ1 _ _ (by omega)) (hJ1 _ _ (by omega)) (hJ1 _ _ (by omega)) w2.1 w2.2.1 w2.2.2.1 w2.2.2.2.1 hn.1 hn.2.1 (by rw [em]; exact hg) hs' (fun J2 k1 k2 k3 k4 k5 f0 f1' J3 e3 => ?_)
        rw [em] at k5
        have g20 : J1 1020 = J 1020 := funext fun x => hJ1 _ _ (by omega)
        rw [g20] at k4
        have j13 : J2 1000 13 = J 1000 13 := by rw [k1 _ _ (by omega)]; exact hJ1 _ _ (by omega)
        have j14 : J2 1000 14 = J 1000 14 := by rw [k1 _ _ (by omega)]; exact hJ1 _ _ (by omega)
        have eM2 : vM J2 = vM J := by unfold vM; rw [k2, k3]; exact eJ
        have gp2 : gp (vM J) (J 1000 14) (mr J2 1015) := fun i i0 i1 => gr_e (e9_s (k5 i i0 i1)) (mv_gr (hg i i0 i1) (fun c c0 c1 => mvT_b w2.1 w2.2.1 w2.2.2.1 w2.2.2.2.1 c0 c1) (fun c d c0 c1 d0 d1 => mvT_i w2.1 w2.2.1 w2.2.2.1 w2.2.2.2.1 c0 c1 d0 d1))
        have ip2 : iP I2 (sw R2) J2 := by
          unfold iP
          rw [sw_7, sw_8, e7, e8, q0, q1, q2, q5, k2, k3, j13, j14]
          refine ⟨okp_sw op, okp_sw oa, Ne.symm h.1.2.2.1, rfl, rfl, rfl, rfl, pv_sw op hn.2.1 (pv_e (gp_e (fun i i0 i1 => k5 i i0 i1) gp2) (fun i i0 i1 => e9_s (k5 i i0 i1)) vp), fun c c0 c1 => ?_⟩
          rw [qg c c0 c1, k4 c c0 c1]
          exact ⟨rfl, gb c⟩
        have vp2 : vP J2 := by
          unfold vP
          rw [k2, k3, j13, j14, eM2]
          refine ⟨Or.inr ?_, hn.1, hn.2.1, gp2, ?_⟩
          · unfold jcols
            split <;> omega
          · rw [cF_cg (q := fun i => ¬ mr J 1015 i 0 = 9) (fun i i0 i1 => by rw [k5 i i0 i1 0 (by decide) (by decide) (Or.inl (by decide)), mv_l (by decide)])]
            exact hc40
        obtain ⟨p, v, s, t', w, k, x⟩ := h0
        have fin : ∀ J', (∀ a x, a ≠ 1030 → ¬ (a = 1000 ∧ (x = 31 ∨ x = 32)) → J' a x = J3 a x) → J' 1000 31 = 0 → J' 1000 32 = 0 → (∀ c, J' 1030 c = lkS (J3 1030) (vM J3) (J3 1000 13) (J3 1020) c) → INV I' (sw R2) J' := fun J' l1 l2 l3 l4 =>
          take_inv ip2 vp2 (iS_fr s (fun y => f1 _ _ (by omega)) (fun y => f1 _ _ (by omega)) (f1 _ _ (by omega)) (f1 _ _ (by omega)) (fun y => k1 _ _ (by omega)) (k1 _ _ (by omega)) (k1 _ _ (by omega)))
            (iT_fr t' (fun y => f1 _ _ (by omega)) (f1 _ _ (by omega)) (fun y => k1 _ _ (by omega)) (k1 _ _ (by omega)))
            (iW_fr w (fun y => f1 _ _ (by omega)) (f1 _ _ (by omega)) (fun y => k1 _ _ (by omega)) (k1 _ _ (by omega)))
            (by rw [f1 _ _ (by omega), k1 _ _ (by omega)]; exact k.2.2.2.1) (iE_fr x (f1 _ _ (by omega)) (k1 _ _ (by omega)))
            z1 z2 z3 z4 (by rw [eM2, j13, e8]; rw [e8] at z5; exact z5) e3 l1 l2 l3 l4
        have e3x : ∀ x, x ≠ 28 → J3 1000 x = J2 1000 x := fun x hx => by subst e3; exact u2x hx
        have e3a : ∀ b x, b ≠ 1000 → J3 b x = J2 b x := fun b x hx => by subst e3; exact u2a hx
        have eM3 : vM J3 = vM J2 := by unfold vM; rw [e3x 11 (by decide), e3x 12 (by decide)]
        refine m_lookAnew (M := vM J3) (k := J3 1000 13) rfl (by rw [eM3, eM2]; exact hb.1) (by rw [eM3, eM2]; exact hb.2.1) rfl (by rw [e3x 13 (by decide), j13]; exact hk.1) (by rw [e3x 13 (by decide), j13]; exact hk.2) (fun c c0 c1 => by rw [eM3, eM2] at c1; rw [e3a _ _ (by decide), e3x 13 (by decide), j13, k4 c c0 (by omega)]; exact gb c) (fun J' l1 l2 l3 l4 => ?_)
        have eM' : J' 1000 11 * J' 1000 12 = vM J := by
          rw [l1 _ _ (by decide) (by omega), l1 _ _ (by decide) (by omega), e3x 11 (by decide), e3x 12 (by decide)]; exact eM2
        unfold wX12_cells
        rw [eM']
        exact ⟨by unfold inR; omega, by rw [l1 _ _ (by decide) (by omega), e3x 0 (by decide), k1 _ _ (by omega)]; exact z0, rfl, fin J' l1 l2 l3 l4⟩
      exact ⟨fun a0 => go 0 (Or.inl rfl) (by omega), fun a0 => go 1 (Or.inr rfl) (by omega)⟩
    · subst e1
      rw [b2_t (by omega)]
      exact ⟨fun _ => ⟨fun w => absurd (e11.trans hw) w, fun _ => m_no ⟨u2e, INV_0 h0⟩⟩, fun w => absurd w (by decide)⟩
  refine ⟨fun a0 => main (Or.inl a0), fun a0 => ⟨fun a1 => main (Or.inr a1), fun a1 => ⟨by decide, fun J1 e1 => m_isIn ?_⟩⟩⟩
  subst e1
  rw [b2_f (by omega)]
  exact ⟨fun w => absurd rfl w, fun _ => m_no ⟨u2e, INV_0 h0⟩⟩
end ST7
