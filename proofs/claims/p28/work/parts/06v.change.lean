/-! ===== change ===== -/
/-- where a cell goes: t 0 mirrored, else turned -/
def mvT (t w h c : Int) : Int := if t = 0 then (w - 1 - c % w) + w * (c / w) else (h - 1 - c / w) + h * (c % w)
theorem mvT_b {t w h c : Int} (w0 : 2 ≤ w) (w1 : w ≤ 5) (h0 : 2 ≤ h) (h1 : h ≤ 5) (c0 : 0 ≤ c) (c1 : c < w * h) : 0 ≤ mvT t w h c ∧ mvT t w h c < w * h := by
  have ew : w = 2 ∨ w = 3 ∨ w = 4 ∨ w = 5 := by omega
  have eh : h = 2 ∨ h = 3 ∨ h = 4 ∨ h = 5 := by omega
  unfold mvT
  rcases ew with rfl | rfl | rfl | rfl <;> rcases eh with rfl | rfl | rfl | rfl <;> split <;> omega
theorem mvT_i {t w h c d : Int} (w0 : 2 ≤ w) (w1 : w ≤ 5) (h0 : 2 ≤ h) (h1 : h ≤ 5) (c0 : 0 ≤ c) (c1 : c < w * h) (d0 : 0 ≤ d) (d1 : d < w * h) (e : mvT t w h c = mvT t w h d) : c = d := by
  have ew : w = 2 ∨ w = 3 ∨ w = 4 ∨ w = 5 := by omega
  have eh : h = 2 ∨ h = 3 ∨ h = 4 ∨ h = 5 := by omega
  unfold mvT at e
  rcases ew with rfl | rfl | rfl | rfl <;> rcases eh with rfl | rfl | rfl | rfl <;> split at e <;> omega
/-- the grid when so many cells have gone to their places -/
def gm (t g : Int → Int) : Nat → Int → Int
  | 0 => fun _ => 0
  | n + 1 => upF (gm t g n) (t n) (g n)
theorem gm_s {t g : Int → Int} {c : Int} (h : 0 ≤ c) : gm t g (c + 1).toNat = upF (gm t g c.toNat) (t c) (g c) := by
  rw [show (c + 1).toNat = c.toNat + 1 by omega]
  show upF (gm t g c.toNat) (t (c.toNat : Int)) (g (c.toNat : Int)) = _
  rw [Int.toNat_of_nonneg h]
theorem gm_b {t g : Int → Int} {k m : Int} (hk : 0 ≤ k) (hg : ∀ c, 0 ≤ c → c < m → 0 ≤ g c ∧ g c ≤ k) : ∀ n : Nat, (n : Int) ≤ m → ∀ c, 0 ≤ gm t g n c ∧ gm t g n c ≤ k := by
  intro n
  induction n with
  | zero => intro _ c; exact ⟨Int.le_refl 0, hk⟩
  | succ n ih =>
    intro hn c
    show 0 ≤ upF (gm t g n) (t n) (g n) c ∧ upF (gm t g n) (t n) (g n) c ≤ k
    by_cases e : c = t n
    · subst e; rw [uFe]; exact hg n (by omega) (by omega)
    · rw [uFn e]; exact ih (by omega) c
theorem gm_cg {t g g' : Int → Int} {m : Int} (e : ∀ c, 0 ≤ c → c < m → g c = g' c) : ∀ n : Nat, (n : Int) ≤ m → gm t g n = gm t g' n := by
  intro n
  induction n with
  | zero => intro _; rfl
  | succ n ih =>
    intro hn
    show upF (gm t g n) (t n) (g n) = upF (gm t g' n) (t n) (g' n)
    rw [ih (by omega), e n (by omega) (by omega)]
theorem rc_d {w x y : Int} (hw : 0 < w) (y0 : 0 ≤ y) (y1 : y < w) : (y + w * x) / w = x ∧ (y + w * x) % w = y := by
  refine ⟨?_, ?_⟩
  · rw [Int.add_mul_ediv_left _ _ (by omega), Int.ediv_eq_zero_of_lt y0 y1]; omega
  · rw [Int.add_mul_emod_self_left, Int.emod_eq_of_lt y0 y1]
section CH
variable {I : cI} {R : cR} {J : cI} {p a : Nat} {t w h k n m : Int} {ρ : Int → Int → Int}
def jcols (t w h : Int) : Int := if t = 0 then w else h
/-- the class: the draft becomes the puzzle, moved -/
theorem c_moved {Q : cI → cR → Prop} (hp : okp R p) (ha : okp R a) (hne : p ≠ a) (ew : I a 0 = w) (eh : I a 1 = h) (ek : I a 2 = k) (e5 : I a 5 = n) (w0 : 2 ≤ w) (w1 : w ≤ 5) (h0 : 2 ≤ h) (h1 : h ≤ 5) (n0 : 0 ≤ n) (n1 : n ≤ 65) (hv : pv I R a n ρ) (hg : gp (w * h) n ρ) (ht : t = 0 ∨ t = 1)
    (hQ : ∀ I' R', okp R' p → okp R' a → R' 0 = R 0 → (∀ b x, b < 85 → I' b x = I b x) → I' p 0 = jcols t w h → I' p 1 = jcols t h w → I' p 2 = k → I' p 5 = n → pv I' R' p n (fun i => mv (mvT t w h) (ρ i)) → (∀ c, 0 ≤ c → c < 25 → I' (p + 1) c = gm (mvT t w h) (I (a + 1)) (w * h).toNat c) → Q I' R') : wX4_becomeMoved p a t I R Q := by
  have hp' : p = 85 ∨ p = 89 := hp.1
  have ha' : a = 85 ∨ a = 89 := ha.1
  have hM := Int.mul_le_mul w1 h1 (by omega) (by decide)
  have hM0 : 0 ≤ w * h := Int.mul_nonneg (by omega) (by omega)
  have tB := fun c c0 c1 => mvT_b (t := t) (c := c) w0 w1 h0 h1 c0 c1
  have tI := fun c d c0 c1 d0 d1 => mvT_i (t := t) (c := c) (d := d) w0 w1 h0 h1 c0 c1 d0 d1
  -- the rules
  have L3 : ∀ (m : Nat) (x : Int) (I' : cI) (R' : cR), 0 ≤ x → x ≤ n → n - x < m → okp R' p → okp R' a → R' 0 = R 0 → (∀ b x, b < 85 → I' b x = I b x) → (∀ b x, b = a → I' b x = I b x) → I' p 0 = jcols t w h → I' p 1 = jcols t h w → I' p 2 = k → I' p 5 = x → (∀ c, 0 ≤ c → c < w * h → I' (p + 3) c = mvT t w h c) → (∀ c, 0 ≤ c → c < 25 → I' (p + 1) c = gm (mvT t w h) (I (a + 1)) (w * h).toNat c) → pv I' R' a n ρ → pv I' R' p x (fun i => mv (mvT t w h) (ρ i)) → wX4_becomeMoved_160 Q p a t m x I' R' := by
    intro m
    induction m with
    | zero => intro x I' R' x0 x1 x2; omega
    | succ m ih =>
      intro x I' R' x0 x1 x2 op oa r0 f1 f2 q0 q1 q2 q5 qp qg va vp
      show wbX4_becomeMoved_160 Q p a t (wX4_becomeMoved_160 Q p a t m) x I' R'
      unfold wbX4_becomeMoved_160
      rw [f2 a 5 rfl, e5]
      refine ⟨fun c => ?_, fun c => ⟨by omega, ?_⟩⟩
      · have ex : x = n := by omega
        subst ex
        exact hQ I' R' op oa r0 f1 q0 q1 q2 q5 vp qg
      · have vx := va x x0 (by omega)
        have gx := hg x x0 (by omega)
        have ra := rg_R (oa.2.1 x x0 (by omega))
        have rp := rg_R (op.2.1 x x0 (by omega))
        have a1 := op.2.1 x x0 (by omega)
        have a2 := oa.2.1 x x0 (by omega)
        have nr : R' (p + 2) x ≠ R' (a + 2) x := by unfold rg at a1 a2; omega
        have ra' : 93 ≤ R' (a + 2) x ∧ R' (a + 2) x < 223 := ra
        have rp' : 93 ≤ R' (p + 2) x ∧ R' (p + 2) x < 223 := rp
        refine c_addRule op q5 x0 (by omega) (fun I3 R4 g1 g2 g3 g4 g5 g6 g7 g8 => ⟨by omega, ?_⟩)
        have ea : R4 (a + 2) x = R' (a + 2) x := g2 _ _ (by omega)
        have v4 : rv I3 R4 (R' (a + 2) x) (ρ x) := rv_fr2 ra rp (Ne.symm nr) (fun b y z1 z2 z3 => g1 b y z2 (by omega)) g2 vx
        rw [ea]
        refine c_takeParts gx (by omega) rp ra nr (by rw [g3]; exact vx.1) g7 g8 v4 (fun I9 f9 v9 => ?_)
        refine c_moveCells (t := mvT t w h) gx (by omega) (by omega) rp v9 (fun c c0 c1 => by rw [f9 _ _ (by omega) (by omega), g1 _ _ (by omega) (by omega)]; exact qp c c0 c1) (fun c c0 c1 => by have := tB c c0 c1; omega) (fun I14 f14 v14 => ⟨by unfold inR; omega, fun z hz => ?_⟩)
        subst hz
        have F : ∀ b y, b ≠ R' (p + 2) x → b ≠ R' (p + 2) x + 130 → ¬ (b = p ∧ y = 5) → I14 b y = I' b y := fun b y z1 z2 z3 => by rw [f14 b y z1 z2, f9 b y z1 z2]; exact g1 b y z1 z3
        refine ih (x + 1) I14 R4 (by omega) (by omega) (by omega) (okp_fr op (fun j => g2 _ _ (by omega))) (okp_fr oa (fun j => g2 _ _ (by omega))) ?_ (fun b y z => by rw [F b y (by omega) (by omega) (by omega)]; exact f1 b y z) (fun b y z => by rw [F b y (by omega) (by omega) (by omega)]; exact f2 b y z) ?_ ?_ ?_ ?_ (fun c c0 c1 => by rw [F _ _ (by omega) (by omega) (by omega)]; exact qp c c0 c1) (fun c c0 c1 => by rw [F _ _ (by omega) (by omega) (by omega)]; exact qg c c0 c1) ?_ ?_
        · rw [← r0]; funext y; exact g2 _ _ (by omega)
        · rw [F _ _ (by omega) (by omega) (by omega)]; exact q0
        · rw [F _ _ (by omega) (by omega) (by omega)]; exact q1
        · rw [F _ _ (by omega) (by omega) (by omega)]; exact q2
        · rw [f14 _ _ (by omega) (by omega), f9 _ _ (by omega) (by omega)]; exact g4
        · exact pv_other op oa hne x0 (by omega) n1 (fun b y z1 z2 z3 => F b y z2 z3 (by omega)) g2 va
        · exact pv_add op x0 (by omega) (fun b y z1 z2 z3 => F b y z2 z3 (by omega)) g2 vp v14
  -- the cells
  have cells : ∀ I4, (∀ b x, b ≠ p → b ≠ p + 1 → I4 b x = I b x) → I4 p 0 = jcols t w h → I4 p 1 = jcols t h w → I4 p 2 = k → I4 p 5 = 0 → (∀ c, 0 ≤ c → c < 25 → I4 (p + 1) c = 0) → wX4_becomeMoved_39 Q p a t I4 R := fun I4 f4 q0 q1 q2 q5 qz => by
    have view : (m : Int) → cI → Prop := fun c I' => (∀ b x, b ≠ p + 1 → b ≠ p + 3 → I' b x = I4 b x) ∧ (∀ d, 0 ≤ d → d < c → I' (p + 3) d = mvT t w h d) ∧ (∀ d, 0 ≤ d → d < 25 → I' (p + 1) d = gm (mvT t w h) (I (a + 1)) c.toNat d)
    clear view
    have L2 : ∀ (K : Int → cI → cR → Prop) (x : Int), 0 ≤ x → x < h → (∀ I', (∀ b x, b ≠ p + 1 → b ≠ p + 3 → I' b x = I4 b x) → (∀ d, 0 ≤ d → d < w * (x + 1) → I' (p + 3) d = mvT t w h d) → (∀ d, 0 ≤ d → d < 25 → I' (p + 1) d = gm (mvT t w h) (I (a + 1)) (w * (x + 1)).toNat d) → K (x + 1) I' R) →
        ∀ (m : Nat) (y c : Int) (I' : cI), 0 ≤ y → y ≤ w → w - y < m → c = y + w * x → (∀ b x, b ≠ p + 1 → b ≠ p + 3 → I' b x = I4 b x) → (∀ d, 0 ≤ d → d < c → I' (p + 3) d = mvT t w h d) → (∀ d, 0 ≤ d → d < 25 → I' (p + 1) d = gm (mvT t w h) (I (a + 1)) c.toNat d) → wX4_becomeMoved_52 Q p a t K m x y I' R := by
      intro K x x0 x1 hK m
      have wx0 : 0 ≤ w * x := Int.mul_nonneg (by omega) x0
      have wx1 : w * (x + 1) ≤ w * h := Int.mul_le_mul_of_nonneg_left (by omega) (by omega)
      have wx2 : w * (x + 1) = w * x + w := by rw [Int.mul_add, Int.mul_one]
      induction m with
      | zero => intro y c I' y0 y1 y2; omega
      | succ m ih =>
        intro y c I' y0 y1 y2 hc v1 v2 v3
        show wbX4_becomeMoved_52 Q p a t K (wX4_becomeMoved_52 Q p a t K m) x y I' R
        unfold wbX4_becomeMoved_52
        have i0 : I' a 0 = w := by rw [v1 _ _ (by omega) (by omega), f4 _ _ (by omega) (by omega)]; exact ew
        have i1 : I' a 1 = h := by rw [v1 _ _ (by omega) (by omega), f4 _ _ (by omega) (by omega)]; exact eh
        have ip : I' p 0 = jcols t w h := by rw [v1 _ _ (by omega) (by omega)]; exact q0
        rw [i0, i1]
        refine ⟨fun e => ⟨by unfold inR; omega, fun z hz => ?_⟩, fun e => ?_⟩
        · subst hz
          have ec : c = w * (x + 1) := by omega
          subst ec
          exact hK I' v1 v2 v3
        · have hd := rc_d (x := x) (show 0 < w by omega) y0 (by omega)
          rw [← hc] at hd
          have cb := tB c (by omega) (by omega)
          have step : ∀ x5 y0', x5 + jcols t w h * y0' = mvT t w h c → inR (x5 + jcols t w h * y0') → wX4_becomeMoved_97 Q p a t K (wX4_becomeMoved_52 Q p a t K m) x y x5 y0' I' R := fun x5 y0' e1 e2 => by
            unfold wX4_becomeMoved_97
            rw [i0, ip, e1]
            rw [e1] at e2
            refine ⟨by unfold inR; omega, fun z2 hz2 => ⟨e2, by omega, fun I6 e6 => ⟨by omega, by omega, ?_⟩⟩⟩
            have ez : z2 = c := by omega
            subst ez
            have e63 : I6 (p + 3) z2 = mvT t w h z2 := by subst e6; exact u2e
            have e6g : I6 (a + 1) z2 = I (a + 1) z2 := by subst e6; rw [u2a (by omega), v1 _ _ (by omega) (by omega)]; exact f4 _ _ (by omega) (by omega)
            rw [e63, e6g]
            refine ⟨by omega, fun I12 e12 => ⟨by unfold inR; omega, fun z15 hz15 => ?_⟩⟩
            subst hz15
            refine ih (y + 1) (z2 + 1) I12 (by omega) (by omega) (by omega) (by omega) (fun b u z1 z2' => ?_) (fun d d0 d1 => ?_) (fun d d0 d1 => ?_)
            · subst e12; rw [u2a z1]; subst e6; rw [u2a z2']; exact v1 b u z1 z2'
            · subst e12; rw [u2a (by omega)]
              by_cases ed : d = z2
              · subst ed; exact e63
              · subst e6; rw [u2x ed]; exact v2 d d0 (by omega)
            · rw [gm_s (by omega)]
              subst e12
              by_cases ed : d = mvT t w h z2
              · subst ed; rw [u2e, uFe]
              · rw [u2x ed, uFn ed]; subst e6; rw [u2a (by omega)]; exact v3 d d0 d1
          have my := mul5 (a := w) (z := x) (by omega) w1 x0 (by omega)
          have my2 := mul5 (a := h) (z := y) (by omega) h1 y0 (by omega)
          refine ⟨fun t0 => ⟨by unfold inR; omega, ⟨fun _ => step _ _ ?_ ?_, fun c => absurd t0 c⟩⟩, fun t0 => ⟨by unfold inR; omega, ⟨fun c => absurd c t0, fun _ => step _ _ ?_ ?_⟩⟩⟩
          · unfold mvT jcols; rw [if_pos t0, if_pos t0, hd.1, hd.2]
          · unfold jcols; rw [if_pos t0]; unfold inR; omega
          · unfold mvT jcols; rw [if_neg t0, if_neg t0, hd.1, hd.2]
          · unfold jcols; rw [if_neg t0]; unfold inR; omega
    have L1 : ∀ (m : Nat) (x : Int) (I' : cI), 0 ≤ x → x ≤ h → h - x < m → (∀ b x, b ≠ p + 1 → b ≠ p + 3 → I' b x = I4 b x) → (∀ d, 0 ≤ d → d < w * x → I' (p + 3) d = mvT t w h d) → (∀ d, 0 ≤ d → d < 25 → I' (p + 1) d = gm (mvT t w h) (I (a + 1)) (w * x).toNat d) → wX4_becomeMoved_41 Q p a t m x I' R := by
      intro m
      induction m with
      | zero => intro x I' x0 x1 x2; omega
      | succ m ih =>
        intro x I' x0 x1 x2 v1 v2 v3
        show wbX4_becomeMoved_41 Q p a t (wX4_becomeMoved_41 Q p a t m) x I' R
        unfold wbX4_becomeMoved_41
        have i1 : I' a 1 = h := by rw [v1 _ _ (by omega) (by omega), f4 _ _ (by omega) (by omega)]; exact eh
        rw [i1]
        refine ⟨fun e => ⟨66, ?_⟩, fun e => ⟨6, ?_⟩⟩
        · have ex : x = h := by omega
          subst ex
          have rid : ∀ (pp : Nat), okp R pp → ∀ i, 0 ≤ i → i < 65 → 93 ≤ R (pp + 2) i := fun pp o i j0 j1 => (rg_R (o.2.1 i j0 j1)).1
          refine L3 66 0 I' R (Int.le_refl 0) n0 (by omega) hp ha rfl (fun b y z => by rw [v1 _ _ (by omega) (by omega)]; exact f4 _ _ (by omega) (by omega)) (fun b y z => by rw [v1 _ _ (by omega) (by omega)]; exact f4 _ _ (by omega) (by omega)) (by rw [v1 _ _ (by omega) (by omega)]; exact q0) (by rw [v1 _ _ (by omega) (by omega)]; exact q1) (by rw [v1 _ _ (by omega) (by omega)]; exact q2) (by rw [v1 _ _ (by omega) (by omega)]; exact q5) v2 v3 (pv_fr ha n1 (fun b y z => by rw [v1 _ _ (by omega) (by omega)]; exact f4 _ _ (by omega) (by omega)) hv) (fun i j0 j1 => by omega)
        · exact L2 _ x x0 (by omega) (fun I2 z1 z2 z3 => ih (x + 1) I2 (by omega) (by omega) (by omega) z1 z2 z3) 6 0 (w * x) I' (Int.le_refl 0) (by omega) (by omega) (by omega) v1 v2 v3
    exact ⟨6, L1 6 0 I4 (Int.le_refl 0) (by omega) (by omega) (fun _ _ _ _ => rfl) (fun d d0 d1 => by rw [Int.mul_zero] at d1; omega) (fun d d0 d1 => by rw [Int.mul_zero]; exact qz d d0 d1)⟩
  unfold wX4_becomeMoved
  rw [ew, eh, ek]
  refine ⟨fun t0 => ?_, fun t0 => ?_⟩
  · intro I1 e1 I2 e2 I3 e3 I5 e5'
    refine c_empty (fun I4 z1 z2 => cells I4 (fun b x y1 y2 => ?_) ?_ ?_ ?_ ?_ z2)
    · rw [z1 _ _ (by omega)]; subst e5'; rw [u2a y1]; subst e3; rw [u2a y1]; subst e2; rw [u2a y1]; subst e1; exact u2a y1
    · rw [z1 _ _ (by omega)]; subst e5'; rw [u2x (by decide)]; subst e3; rw [u2x (by decide)]; subst e2; rw [u2x (by decide)]; subst e1; rw [u2e]; unfold jcols; rw [if_pos t0]
    · rw [z1 _ _ (by omega)]; subst e5'; rw [u2x (by decide)]; subst e3; rw [u2x (by decide)]; subst e2; rw [u2e]; unfold jcols; rw [if_pos t0]
    · rw [z1 _ _ (by omega)]; subst e5'; rw [u2x (by decide)]; subst e3; exact u2e
    · rw [z1 _ _ (by omega)]; subst e5'; exact u2e
  · intro I1 e1 I2 e2 I3 e3 I5 e5'
    refine c_empty (fun I4 z1 z2 => cells I4 (fun b x y1 y2 => ?_) ?_ ?_ ?_ ?_ z2)
    · rw [z1 _ _ (by omega)]; subst e5'; rw [u2a y1]; subst e3; rw [u2a y1]; subst e2; rw [u2a y1]; subst e1; exact u2a y1
    · rw [z1 _ _ (by omega)]; subst e5'; rw [u2x (by decide)]; subst e3; rw [u2x (by decide)]; subst e2; rw [u2x (by decide)]; subst e1; rw [u2e]; unfold jcols; rw [if_neg t0]
    · rw [z1 _ _ (by omega)]; subst e5'; rw [u2x (by decide)]; subst e3; rw [u2x (by decide)]; subst e2; rw [u2e]; unfold jcols; rw [if_neg t0]
    · rw [z1 _ _ (by omega)]; subst e5'; rw [u2x (by decide)]; subst e3; exact u2e
    · rw [z1 _ _ (by omega)]; subst e5'; exact u2e
end CH
section ST7
variable {I : cI} {R : cR} {J : cI}
end ST7
