/-! ===== feed, digest ===== -/
theorem and255 (x : Int) : 0 ≤ iAnd x 255 ∧ iAnd x 255 ≤ 255 := by
  unfold iAnd
  have h1 : (Int32.ofInt x &&& Int32.ofInt 255).toBitVec.toNat ≤ 255 := by
    rw [Int32.toBitVec_and, BitVec.toNat_and]
    exact Nat.le_trans Nat.and_le_right (by decide)
  have h2 : (Int32.ofInt x &&& Int32.ofInt 255).toInt = ((Int32.ofInt x &&& Int32.ofInt 255).toBitVec.toNat : Int) := by
    show (Int32.ofInt x &&& Int32.ofInt 255).toBitVec.toInt = _
    exact BitVec.toInt_eq_toNat_of_lt (by omega)
  omega
def wd (a k : Int) : Int := iAnd (iShr a (24 - 8 * k)) 255
/-- the byte at a place behind what was there: A tells the numbers -/
def fd (A : Int → Int) (p : Int) : Int := wd (A (p / 4)) (p % 4)
section FE
variable {I : cI} {R : cR} {J : cI}
theorem c_four {a n : Int} {Q : cI → cR → Prop} (e : I 1 0 = n) (n0 : 0 ≤ n) (n1 : n + 4 ≤ 1600)
    (hQ : ∀ I', (∀ b x, ¬ (b = 2 ∧ n ≤ x) → ¬ (b = 1 ∧ x = 0) → I' b x = I b x) → I' 1 0 = n + 4 → (∀ k, 0 ≤ k → k < 4 → I' 2 (n + k) = wd a k) → Q I' R) : wX9_appendFour a I R Q := by
  have L : ∀ (m : Nat) (k : Int) (I' : cI), 0 ≤ k → k ≤ 4 → 4 - k < m → (∀ b x, ¬ (b = 2 ∧ n ≤ x) → ¬ (b = 1 ∧ x = 0) → I' b x = I b x) → I' 1 0 = n + k → (∀ j, 0 ≤ j → j < k → I' 2 (n + j) = wd a j) → wX9_appendFour_3 Q a m (24 - 8 * k) I' R := by
    intro m
    induction m with
    | zero => intro k I' k0 k1 k2; omega
    | succ m ih =>
      intro k I' k0 k1 k2 h1 h2 h3
      show wbX9_appendFour_3 Q a (wX9_appendFour_3 Q a m) (24 - 8 * k) I' R
      unfold wbX9_appendFour_3
      rw [h2]
      refine ⟨fun c => ?_, fun c => ⟨fun d => absurd d (by omega), fun d => ⟨by omega, fun I2 e2 => ?_⟩⟩⟩
      · have ek : k = 4 := by omega
        subst ek
        exact hQ I' h1 h2 h3
      · have e21 : I2 1 0 = n + k := by subst e2; rw [u2a (by decide)]; exact h2
        rw [e21]
        refine ⟨by unfold inR; omega, fun I6 e6 => ⟨by unfold inR; omega, fun z hz => ?_⟩⟩
        have ez : z = 24 - 8 * (k + 1) := by omega
        subst ez
        refine ih (k + 1) I6 (by omega) (by omega) (by omega) (fun b x q1 q2 => ?_) ?_ (fun j j0 j1 => ?_)
        · subst e6; rw [u2n (by omega)]; subst e2; rw [u2n (by omega)]; exact h1 b x q1 q2
        · subst e6; rw [u2e]; omega
        · subst e6; rw [u2a (by decide)]; subst e2
          by_cases ej : j = k
          · subst ej; rw [u2e]; rfl
          · rw [u2x (by omega)]; exact h3 j j0 (by omega)
  exact ⟨5, L 5 0 I (by decide) (by decide) (by decide) (fun _ _ _ _ => rfl) (by omega) (fun j j0 j1 => by omega)⟩
theorem c_fours {n j a : Int} {A : Int → Int} {I' : cI} {Q : cI → cR → Prop} (n0 : 0 ≤ n) (n1 : n + 20 ≤ 1600) (j0 : 0 ≤ j) (j1 : j < 5) (eA : A j = a)
    (h1 : ∀ b x, ¬ (b = 2 ∧ n ≤ x) → ¬ (b = 1 ∧ x = 0) → I' b x = I b x) (h2 : I' 1 0 = n + 4 * j) (h3 : ∀ p, 0 ≤ p → p < 4 * j → I' 2 (n + p) = fd A p)
    (hQ : ∀ I', (∀ b x, ¬ (b = 2 ∧ n ≤ x) → ¬ (b = 1 ∧ x = 0) → I' b x = I b x) → I' 1 0 = n + 4 * (j + 1) → (∀ p, 0 ≤ p → p < 4 * (j + 1) → I' 2 (n + p) = fd A p) → Q I' R) : wX9_appendFour a I' R Q := by
  refine c_four h2 (by omega) (by omega) (fun I2 g1 g2 g3 => hQ I2 (fun b x q1 q2 => by rw [g1 b x (by omega) q2]; exact h1 b x q1 q2) (by rw [g2]; omega) (fun p p0 p1 => ?_))
  by_cases c : p < 4 * j
  · rw [g1 _ _ (by omega) (by omega)]; exact h3 p p0 c
  · have g := g3 (p - 4 * j) (by omega) (by omega)
    rw [show n + 4 * j + (p - 4 * j) = n + p by omega] at g
    rw [g]
    unfold fd
    rw [show p / 4 = j by omega, show p % 4 = p - 4 * j by omega, eA]
theorem m_feed {n a1 a2 a3 a4 a5 : Int} {A : Int → Int} {Q : Int → cI → Prop} (e : J 1000 2 = n) (n0 : 0 ≤ n) (n1 : n + 20 ≤ 1600)
    (hQ : ∀ J', (∀ b x, ¬ (b = 1001 ∧ n ≤ x) → ¬ (b = 1000 ∧ x = 2) → J' b x = J b x) → J' 1000 2 = n + 20 → (∀ p, 0 ≤ p → p < 20 → J' 1001 (n + p) = fd A p) → Q (n + 20) J') : ∃ m, wX12_feed_63 Q a1 a2 a3 a4 a5 m 5 0 A J := by
  have L8 : ∀ (K : Int → Int → (Int → Int) → cI → Prop) (j : Int), 0 ≤ j → j < 5 → (∀ J', (∀ b x, ¬ (b = 1001 ∧ n ≤ x) → ¬ (b = 1000 ∧ x = 2) → J' b x = J b x) → J' 1000 2 = n + 4 * (j + 1) → (∀ p, 0 ≤ p → p < 4 * (j + 1) → J' 1001 (n + p) = fd A p) → K 5 (j + 1) A J') →
      ∀ (m : Nat) (k : Int) (J' : cI), 0 ≤ k → k ≤ 4 → 4 - k < m → (∀ b x, ¬ (b = 1001 ∧ n ≤ x) → ¬ (b = 1000 ∧ x = 2) → J' b x = J b x) → J' 1000 2 = n + 4 * j + k → (∀ p, 0 ≤ p → p < 4 * j + k → J' 1001 (n + p) = fd A p) → wX12_feed_80 Q a1 a2 a3 a4 a5 K m 5 j (A j) (3 - k) A J' := by
    intro K j j0 j1 hK m
    induction m with
    | zero => intro k J' k0 k1 k2; omega
    | succ m ih =>
      intro k J' k0 k1 k2 h1 h2 h3
      show wbX12_feed_80 Q a1 a2 a3 a4 a5 K (wX12_feed_80 Q a1 a2 a3 a4 a5 K m) 5 j (A j) (3 - k) A J'
      unfold wbX12_feed_80
      rw [h2]
      refine ⟨fun c => ⟨by unfold inR; omega, fun z hz => ?_⟩, fun c => ⟨by omega, fun J5 e5 => ?_⟩⟩
      · have ek : k = 4 := by omega
        subst ek; subst hz
        exact hK J' h1 (by omega) (fun p p0 p1 => h3 p p0 (by omega))
      · have e21 : J5 1000 2 = n + 4 * j + k := by subst e5; rw [u2a (by decide)]; exact h2
        rw [e21]
        refine ⟨by unfold inR; omega, fun J9 e9 => ⟨by unfold inR; omega, fun z hz => ?_⟩⟩
        have ez : z = 3 - (k + 1) := by omega
        subst ez
        refine ih (k + 1) J9 (by omega) (by omega) (by omega) (fun b x q1 q2 => ?_) ?_ (fun p p0 p1 => ?_)
        · subst e9; rw [u2n (by omega)]; subst e5; rw [u2n (by omega)]; exact h1 b x q1 q2
        · subst e9; rw [u2e]; omega
        · subst e9; rw [u2a (by decide)]; subst e5
          by_cases ej : p = 4 * j + k
          · subst ej
            rw [show n + (4 * j + k) = n + 4 * j + k by omega, u2e]
            unfold fd wd
            rw [show (4 * j + k) / 4 = j by omega, show (4 * j + k) % 4 = k by omega, show 8 * (3 - k) = 24 - 8 * k by omega]
          · rw [u2x (by omega)]; exact h3 p p0 (by omega)
  have L6 : ∀ (m : Nat) (j : Int) (J' : cI), 0 ≤ j → j ≤ 5 → 5 - j < m → (∀ b x, ¬ (b = 1001 ∧ n ≤ x) → ¬ (b = 1000 ∧ x = 2) → J' b x = J b x) → J' 1000 2 = n + 4 * j → (∀ p, 0 ≤ p → p < 4 * j → J' 1001 (n + p) = fd A p) → wX12_feed_63 Q a1 a2 a3 a4 a5 m 5 j A J' := by
    intro m
    induction m with
    | zero => intro k J' k0 k1 k2; omega
    | succ m ih =>
      intro j J' j0 j1 j2 h1 h2 h3
      show wbX12_feed_63 Q a1 a2 a3 a4 a5 (wX12_feed_63 Q a1 a2 a3 a4 a5 m) 5 j A J'
      unfold wbX12_feed_63
      refine ⟨fun c => ?_, fun c => ⟨by omega, fun z hz => ⟨5, ?_⟩⟩⟩
      · have ej : j = 5 := by omega
        subst ej
        rw [h2]
        exact hQ J' h1 (by omega) (fun p p0 p1 => h3 p p0 (by omega))
      · subst hz
        exact L8 _ j j0 (by omega) (fun J2 g1 g2 g3 => ih (j + 1) J2 (by omega) (by omega) (by omega) g1 g2 g3) 5 0 J' (by decide) (by decide) (by decide) h1 (by omega) (fun p p0 p1 => h3 p p0 (by omega))
  exact ⟨6, L6 6 0 J (by decide) (by decide) (by decide) (fun _ _ _ _ => rfl) (by omega) (fun p p0 p1 => by omega)⟩
theorem st_feed {a1 a2 a3 a4 a5 : Int} (h : INV I R J) : wX11_feed a1 a2 a3 a4 a5 I R (okN (wX12_feed a1 a2 a3 a4 a5 J)) (okX (xf 1 0 0) (wX12_feed a1 a2 a3 a4 a5 J)) := by
  have h0 := INV_0 (v := 0) h
  have hT := h.2.2.2.1
  have e2 : up2 J 1000 0 0 1000 2 = J 1000 2 := u2x (by decide)
  have t0 := hT.2.1
  have t1 := hT.2.2.1
  unfold wX11_feed
  rw [hT.1]
  refine ⟨by unfold inR; omega, fun c => ?_, fun c => ⟨by decide, fun J1 e1 => ?_⟩⟩
  · let A : Int → Int := upF (upF (upF (upF (upF (fun _ => 0) 0 a1) 1 a2) 2 a3) 3 a4) 4 a5
    have A0 : A 0 = a1 := rfl
    have A1 : A 1 = a2 := rfl
    have A2 : A 2 = a3 := rfl
    have A3 : A 3 = a4 := rfl
    have A4 : A 4 = a5 := rfl
    refine c_fours (I := I) (A := A) (n := J 1000 2) (j := 0) t0 c (by decide) (by decide) A0 (fun _ _ _ _ => rfl) (by rw [hT.1]; omega) (fun p p0 p1 => by omega) (fun I3 f3 g3 k3 => ?_)
    refine c_fours (I := I) (A := A) (n := J 1000 2) (j := 1) t0 c (by decide) (by decide) A1 f3 (by omega) (fun p p0 p1 => k3 p p0 (by omega)) (fun I8 f8 g8 k8 => ?_)
    refine c_fours (I := I) (A := A) (n := J 1000 2) (j := 2) t0 c (by decide) (by decide) A2 f8 (by omega) (fun p p0 p1 => k8 p p0 (by omega)) (fun I13 f13 g13 k13 => ?_)
    refine c_fours (I := I) (A := A) (n := J 1000 2) (j := 3) t0 c (by decide) (by decide) A3 f13 (by omega) (fun p p0 p1 => k13 p p0 (by omega)) (fun I18 f18 g18 k18 => ?_)
    refine c_fours (I := I) (A := A) (n := J 1000 2) (j := 4) t0 c (by decide) (by decide) A4 f18 (by omega) (fun p p0 p1 => k18 p p0 (by omega)) (fun I' f g k J1 e1 => ?_)
    have e12 : J1 1000 2 = J 1000 2 := by subst e1; exact e2
    have e10 : J1 1000 0 = 0 := by subst e1; exact u2e
    rw [← e1] at h0
    rw [e12]
    refine ⟨by unfold inR; omega, fun _ f6 e6 f8 e8 f10 e10 f12 e12 f14 e14 f16 e16 => ?_, fun w => absurd c w⟩
    have eA : f16 = A := by subst e16; subst e14; subst e12; subst e10; subst e8; subst e6; rfl
    rw [eA]
    refine m_feed (n := J 1000 2) (A := A) (by assumption) t0 c (fun J' q1 q2 q3 => ⟨by rw [q1 _ _ (by omega) (by omega)]; assumption, by omega, ?_⟩)
    obtain ⟨p, v, s, t, w, kk, x⟩ := h0
    have j : smP J1 J' := ⟨fun b y z1 z2 => q1 _ _ (by omega) (by omega), q1 _ _ (by omega) (by omega), q1 _ _ (by omega) (by omega), q1 _ _ (by omega) (by omega), q1 _ _ (by omega) (by omega)⟩
    refine ⟨iP_fr p v (fun b y q => f _ _ (by omega) (by omega)) j, vP_fr v j,
      iS_fr s (fun y => f _ _ (by omega) (by omega)) (fun y => f _ _ (by omega) (by omega)) (f _ _ (by omega) (by omega)) (f _ _ (by omega) (by omega)) (fun y => q1 _ _ (by omega) (by omega)) (q1 _ _ (by omega) (by omega)) (q1 _ _ (by omega) (by omega)), ?_,
      iW_fr w (fun y => f _ _ (by omega) (by omega)) (f _ _ (by omega) (by omega)) (fun y => q1 _ _ (by omega) (by omega)) (q1 _ _ (by omega) (by omega)),
      iK_fr kk (fun b y z1 z2 => f _ _ (by omega) (by omega)) (f _ _ (by omega) (by omega)) (f _ _ (by omega) (by omega)) (fun y => q1 _ _ (by omega) (by omega)) (q1 _ _ (by omega) (by omega)) (q1 _ _ (by omega) (by omega)) (smP_M j),
      iE_fr x (f _ _ (by omega) (by omega)) (q1 _ _ (by omega) (by omega))⟩
    refine ⟨by rw [g, q2]; omega, by rw [q2]; omega, by rw [q2]; exact c, fun y y0 y1 => ?_⟩
    rw [q2] at y1
    by_cases cy : y < J 1000 2
    · rw [f _ _ (by omega) (by omega), q1 _ _ (by omega) (by omega), show J1 1001 y = J 1001 y by subst e1; exact u2a (by decide)]
      exact hT.2.2.2 y y0 cy
    · have z1 := k (y - J 1000 2) (by omega) (by omega)
      have z2 := q3 (y - J 1000 2) (by omega) (by omega)
      rw [show J 1000 2 + (y - J 1000 2) = y by omega] at z1 z2
      rw [z1, z2]
      exact ⟨rfl, and255 _⟩
  · have e12 : J1 1000 2 = J 1000 2 := by subst e1; exact e2
    rw [e12]
    refine ⟨by unfold inR; omega, fun w => absurd w c, fun _ => m_no ⟨u2e, by subst e1; exact INV_0 h0⟩⟩
end FE
/-- a row of steps on one number -/
noncomputable def gF (g : Int → Int → Int) (x n d : Int) : Int := if x < n then gF g (x + 1) n (g x d) else d
termination_by (n - x).toNat
theorem gF_e {g : Int → Int → Int} {x n d : Int} (h : n ≤ x) : gF g x n d = d := by
  rw [gF]; exact if_neg (by omega)
theorem gF_s {g : Int → Int → Int} {x n d : Int} (h : x < n) : gF g x n d = gF g (x + 1) n (g x d) := by
  rw [gF]; exact if_pos h
section DG
variable {I : cI} {R : cR} {J : cI}
noncomputable def d1 (J : cI) (d : Int) : Int := gF (fun a d => d * 31 + cv J a) 0 11 d
noncomputable def d2 (J : cI) (d : Int) : Int := gF (fun r d => gF (fun a d => d * 31 + rl J r a) 0 10 d) 0 (J 1000 14) d
noncomputable def d3 (J : cI) (d : Int) : Int := gF (fun c d => (d * 31 + J 1020 c) * 31 + J 1030 c) 0 (vM J) d
noncomputable def d4 (J : cI) (d : Int) : Int := gF (fun i d => gF (fun c d => d * 31 + J 1029 (25 * i + c)) 0 (vM J) d) 0 (J 1000 28) d
noncomputable def d5 (J : cI) (d : Int) : Int := gF (fun a d => d * 31 + rs J a) 0 4 d
noncomputable def d6 (J : cI) (d : Int) : Int := gF (fun k d => d * 31 + J 1009 k) 0 (J 1000 10) d
theorem c_d6 {Q : Int → cI → cR → Prop} (h : INV I R J) (d : Int) (hQ : Q (d6 J d) I R) : ∃ n, wX11_digest_222 Q n d 0 I R := by
  have hW := h.2.2.2.2.1
  have w0 := hW.2.1
  have w1 := hW.2.2.1
  have L : ∀ (m : Nat) (x d : Int), 0 ≤ x → x ≤ J 1000 10 → J 1000 10 - x < m → Q (gF (fun k d => d * 31 + J 1009 k) x (J 1000 10) d) I R → wX11_digest_222 Q m d x I R := by
    intro m
    induction m with
    | zero => intro x d x0 x1 x2; omega
    | succ m ih =>
      intro x d x0 x1 x2 hq
      show wbX11_digest_222 Q (wX11_digest_222 Q m) d x I R
      unfold wbX11_digest_222
      rw [hW.1]
      refine ⟨fun c => ?_, fun c => ⟨by omega, by unfold inR; omega, fun z hz => ?_⟩⟩
      · rw [gF_e c] at hq; exact hq
      · subst hz
        rw [gF_s (by omega)] at hq
        rw [hW.2.2.2 x x0 (by omega)]
        exact ih (x + 1) _ (by omega) (by omega) (by omega) hq
  exact ⟨2000, L 2000 0 d (Int.le_refl 0) w0 (by omega) hQ⟩
theorem m_d6 {Q : Int → cI → Prop} (h : INV I R J) (d : Int) (hQ : Q (d6 J d) J) : ∃ n, wX12_digest_207 Q n d 0 J := by
  have hW := h.2.2.2.2.1
  have w0 := hW.2.1
  have w1 := hW.2.2.1
  have L : ∀ (m : Nat) (x d : Int), 0 ≤ x → x ≤ J 1000 10 → J 1000 10 - x < m → Q (gF (fun k d => d * 31 + J 1009 k) x (J 1000 10) d) J → wX12_digest_207 Q m d x J := by
    intro m
    induction m with
    | zero => intro x d x0 x1 x2; omega
    | succ m ih =>
      intro x d x0 x1 x2 hq
      show wbX12_digest_207 Q (wX12_digest_207 Q m) d x J
      unfold wbX12_digest_207
      refine ⟨fun c => ?_, fun c => ⟨by omega, by unfold inR; omega, fun z hz => ?_⟩⟩
      · rw [gF_e c] at hq; exact hq
      · subst hz
        rw [gF_s (by omega)] at hq
        exact ih (x + 1) _ (by omega) (by omega) (by omega) hq
  exact ⟨2000, L 2000 0 d (Int.le_refl 0) w0 (by omega) hQ⟩
theorem c_d5 {Q : Int → cI → cR → Prop} (h : INV I R J) (d : Int) (hQ : Q (d6 J (d5 J d)) I R) : ∃ n, wX11_digest_196 Q n d 0 I R := by
  have L : ∀ (m : Nat) (x d : Int), 0 ≤ x → x ≤ 4 → 4 - x < m → Q (d6 J (gF (fun a d => d * 31 + rs J a) x 4 d)) I R → wX11_digest_196 Q m d x I R := by
    intro m
    induction m with
    | zero => intro x d x0 x1 x2; omega
    | succ m ih =>
      intro x d x0 x1 x2 hq
      show wbX11_digest_196 Q (wX11_digest_196 Q m) d x I R
      unfold wbX11_digest_196
      refine ⟨fun c => ?_, fun c => c_reasoned h (fun _ _ => ⟨by unfold inR; omega, fun z hz => ?_⟩) (fun n => n (by omega))⟩
      · rw [gF_e (by omega)] at hq; exact c_d6 h d hq
      · subst hz
        rw [gF_s (by omega)] at hq
        exact ih (x + 1) _ (by omega) (by omega) (by omega) hq
  exact ⟨5, L 5 0 d (Int.le_refl 0) (by decide) (by decide) hQ⟩
theorem m_d5 {Q : Int → cI → Prop} (h : INV I R J) (d : Int) (hQ : Q (d6 J (d5 J d)) J) : ∃ n, wX12_digest_181 Q n d 0 J := by
  have L : ∀ (m : Nat) (x d : Int), 0 ≤ x → x ≤ 4 → 4 - x < m → Q (d6 J (gF (fun a d => d * 31 + rs J a) x 4 d)) J → wX12_digest_181 Q m d x J := by
    intro m
    induction m with
    | zero => intro x d x0 x1 x2; omega
    | succ m ih =>
      intro x d x0 x1 x2 hq
      show wbX12_digest_181 Q (wX12_digest_181 Q m) d x J
      unfold wbX12_digest_181
      refine ⟨fun c => ?_, fun c => m_reasonTold h x0 (by omega) ⟨by unfold inR; omega, fun z hz => ?_⟩⟩
      · rw [gF_e (by omega)] at hq; exact m_d6 h d hq
      · subst hz
        rw [gF_s (by omega)] at hq
        exact ih (x + 1) _ (by omega) (by omega) (by omega) hq
  exact ⟨5, L 5 0 d (Int.le_refl 0) (by decide) (by decide) hQ⟩
theorem c_d4 {Q : Int → cI → cR → Prop} (h : INV I R J) (d : Int) (hQ : Q (d6 J (d5 J (d4 J d))) I R) : ∃ n, wX11_digest_136 Q n d 0 I R := by
  have hb := vM_b h.2.1
  have hM := INV_M h
  have hK := h.2.2.2.2.2.1
  have k0 := hK.2.1
  have k1 := hK.2.2.1
  have L2 : ∀ (K : Int → Int → cI → cR → Prop) (i : Int), 0 ≤ i → i < J 1000 28 → ∀ (m : Nat) (x d : Int), 0 ≤ x → x ≤ vM J → vM J - x < m → K (gF (fun c d => d * 31 + J 1029 (25 * i + c)) x (vM J) d) (i + 1) I R → wX11_digest_150 Q K m d i x I R := by
    intro K i i0 i1 m
    induction m with
    | zero => intro x d x0 x1 x2; omega
    | succ m ih =>
      intro x d x0 x1 x2 hq
      show wbX11_digest_150 Q K (wX11_digest_150 Q K m) d i x I R
      unfold wbX11_digest_150 wX4_cellCount
      rw [hM]
      refine ⟨by unfold inR; omega, fun c => ⟨by unfold inR; omega, fun z hz => ?_⟩, fun c => ⟨by omega, by omega, by unfold inR; omega, fun z hz => ?_⟩⟩
      · subst hz; rw [gF_e c] at hq; exact hq
      · subst hz
        rw [gF_s (by omega)] at hq
        rw [hK.2.2.2.2 i x i0 i1 x0 (by omega)]
        exact ih (x + 1) _ (by omega) (by omega) (by omega) hq
  have L : ∀ (m : Nat) (x d : Int), 0 ≤ x → x ≤ J 1000 28 → J 1000 28 - x < m → Q (d6 J (d5 J (gF (fun i d => gF (fun c d => d * 31 + J 1029 (25 * i + c)) 0 (vM J) d) x (J 1000 28) d))) I R → wX11_digest_136 Q m d x I R := by
    intro m
    induction m with
    | zero => intro x d x0 x1 x2; omega
    | succ m ih =>
      intro x d x0 x1 x2 hq
      show wbX11_digest_136 Q (wX11_digest_136 Q m) d x I R
      unfold wbX11_digest_136
      rw [hK.1]
      refine ⟨fun c => ?_, fun c => ⟨26, ?_⟩⟩
      · rw [gF_e c] at hq; exact c_d5 h d hq
      · rw [gF_s (by omega)] at hq
        exact L2 _ x x0 (by omega) 26 0 d (Int.le_refl 0) hb.1 (by omega) (ih (x + 1) _ (by omega) (by omega) (by omega) hq)
  exact ⟨31, L 31 0 d (Int.le_refl 0) k0 (by omega) hQ⟩
theorem m_d4 {Q : Int → cI → Prop} (h : INV I R J) (d : Int) (hQ : Q (d6 J (d5 J (d4 J d))) J) : ∃ n, wX12_digest_127 Q n d 0 J := by
  have hb := vM_b h.2.1
  have hM : J 1000 11 * J 1000 12 = vM J := rfl
  have hK := h.2.2.2.2.2.1
  have k0 := hK.2.1
  have k1 := hK.2.2.1
  have L2 : ∀ (K : Int → Int → cI → Prop) (i : Int), 0 ≤ i → i < J 1000 28 → ∀ (m : Nat) (x d : Int), 0 ≤ x → x ≤ vM J → vM J - x < m → K (gF (fun c d => d * 31 + J 1029 (25 * i + c)) x (vM J) d) (i + 1) J → wX12_digest_138 Q K m d i x J := by
    intro K i i0 i1 m
    induction m with
    | zero => intro x d x0 x1 x2; omega
    | succ m ih =>
      intro x d x0 x1 x2 hq
      show wbX12_digest_138 Q K (wX12_digest_138 Q K m) d i x J
      unfold wbX12_digest_138 wX12_cells
      rw [hM]
      refine ⟨by unfold inR; omega, fun c => ⟨by unfold inR; omega, fun z hz => ?_⟩, fun c => ⟨by omega, by unfold inR; omega, fun z hz => ?_⟩⟩
      · subst hz; rw [gF_e c] at hq; exact hq
      · subst hz
        rw [gF_s (by omega)] at hq
        exact ih (x + 1) _ (by omega) (by omega) (by omega) hq
  have L : ∀ (m : Nat) (x d : Int), 0 ≤ x → x ≤ J 1000 28 → J 1000 28 - x < m → Q (d6 J (d5 J (gF (fun i d => gF (fun c d => d * 31 + J 1029 (25 * i + c)) 0 (vM J) d) x (J 1000 28) d))) J → wX12_digest_127 Q m d x J := by
    intro m
    induction m with
    | zero => intro x d x0 x1 x2; omega
    | succ m ih =>
      intro x d x0 x1 x2 hq
      show wbX12_digest_127 Q (wX12_digest_127 Q m) d x J
      unfold wbX12_digest_127
      refine ⟨fun c => ?_, fun c => ⟨26, ?_⟩⟩
      · rw [gF_e c] at hq; exact m_d5 h d hq
      · rw [gF_s (by omega)] at hq
        exact L2 _ x x0 (by omega) 26 0 d (Int.le_refl 0) hb.1 (by omega) (ih (x + 1) _ (by omega) (by omega) (by omega) hq)
  exact ⟨31, L 31 0 d (Int.le_refl 0) k0 (by omega) hQ⟩
theorem c_d3 {Q : Int → cI → cR → Prop} (h : INV I R J) (d : Int) (hQ : Q (d6 J (d5 J (d4 J (d3 J d)))) I R) : ∃ n, wX11_digest_83 Q n d 0 I R := by
  have hb := vM_b h.2.1
  have hM := INV_M h
  have L : ∀ (m : Nat) (x d : Int), 0 ≤ x → x ≤ vM J → vM J - x < m → Q (d6 J (d5 J (d4 J (gF (fun c d => (d * 31 + J 1020 c) * 31 + J 1030 c) x (vM J) d)))) I R → wX11_digest_83 Q m d x I R := by
    intro m
    induction m with
    | zero => intro x d x0 x1 x2; omega
    | succ m ih =>
      intro x d x0 x1 x2 hq
      show wbX11_digest_83 Q (wX11_digest_83 Q m) d x I R
      unfold wbX11_digest_83 wX4_cellCount
      rw [hM]
      refine ⟨by unfold inR; omega, fun c => ?_, fun c => ⟨by omega, by omega, by unfold inR; omega, fun z hz => ?_⟩⟩
      · rw [gF_e c] at hq; exact c_d4 h d hq
      · subst hz
        rw [gF_s (by omega)] at hq
        rw [(h.1.2.2.2.2.2.2.2.2 x x0 (by omega)).1, (h.2.2.1.1 x x0 (by omega)).1]
        exact ih (x + 1) _ (by omega) (by omega) (by omega) hq
  exact ⟨26, L 26 0 d (Int.le_refl 0) hb.1 (by omega) hQ⟩
theorem m_d3 {Q : Int → cI → Prop} (h : INV I R J) (d : Int) (hQ : Q (d6 J (d5 J (d4 J (d3 J d)))) J) : ∃ n, wX12_digest_85 Q n d 0 J := by
  have hb := vM_b h.2.1
  have hM : J 1000 11 * J 1000 12 = vM J := rfl
  have L : ∀ (m : Nat) (x d : Int), 0 ≤ x → x ≤ vM J → vM J - x < m → Q (d6 J (d5 J (d4 J (gF (fun c d => (d * 31 + J 1020 c) * 31 + J 1030 c) x (vM J) d)))) J → wX12_digest_85 Q m d x J := by
    intro m
    induction m with
    | zero => intro x d x0 x1 x2; omega
    | succ m ih =>
      intro x d x0 x1 x2 hq
      show wbX12_digest_85 Q (wX12_digest_85 Q m) d x J
      unfold wbX12_digest_85 wX12_cells
      rw [hM]
      refine ⟨by unfold inR; omega, fun c => ?_, fun c => ⟨by omega, by omega, by unfold inR; omega, fun z hz => ?_⟩⟩
      · rw [gF_e c] at hq; exact m_d4 h d hq
      · subst hz
        rw [gF_s (by omega)] at hq
        exact ih (x + 1) _ (by omega) (by omega) (by omega) hq
  exact ⟨26, L 26 0 d (Int.le_refl 0) hb.1 (by omega) hQ⟩
theorem c_d2 {Q : Int → cI → cR → Prop} (h : INV I R J) (d : Int) (hQ : Q (d6 J (d5 J (d4 J (d3 J (d2 J d))))) I R) : ∃ n, wX11_digest_33 Q n d 0 I R := by
  have hn := h.2.1.2
  have n0 := hn.1
  have n1 := hn.2.1
  have e5 := h.1.2.2.2.2.2.2.1
  have L2 : ∀ (K : Int → Int → cI → cR → Prop) (i : Int), 0 ≤ i → i < J 1000 14 → ∀ (m : Nat) (x d : Int), 0 ≤ x → x ≤ 10 → 10 - x < m → K (gF (fun a d => d * 31 + rl J i a) x 10 d) (i + 1) I R → wX11_digest_47 Q K m d i x I R := by
    intro K i i0 i1 m
    induction m with
    | zero => intro x d x0 x1 x2; omega
    | succ m ih =>
      intro x d x0 x1 x2 hq
      show wbX11_digest_47 Q K (wX11_digest_47 Q K m) d i x I R
      unfold wbX11_digest_47
      refine ⟨fun c => ⟨by unfold inR; omega, fun z hz => ?_⟩, fun c => c_rule h (fun _ _ _ _ => ⟨by unfold inR; omega, fun z hz => ?_⟩) (fun n => n (by omega))⟩
      · subst hz; rw [gF_e (by omega)] at hq; exact hq
      · subst hz
        rw [gF_s (by omega)] at hq
        exact ih (x + 1) _ (by omega) (by omega) (by omega) hq
  have L : ∀ (m : Nat) (x d : Int), 0 ≤ x → x ≤ J 1000 14 → J 1000 14 - x < m → Q (d6 J (d5 J (d4 J (d3 J (gF (fun r d => gF (fun a d => d * 31 + rl J r a) 0 10 d) x (J 1000 14) d))))) I R → wX11_digest_33 Q m d x I R := by
    intro m
    induction m with
    | zero => intro x d x0 x1 x2; omega
    | succ m ih =>
      intro x d x0 x1 x2 hq
      show wbX11_digest_33 Q (wX11_digest_33 Q m) d x I R
      unfold wbX11_digest_33
      rw [e5]
      refine ⟨fun c => ?_, fun c => ⟨11, ?_⟩⟩
      · rw [gF_e c] at hq; exact c_d3 h d hq
      · rw [gF_s (by omega)] at hq
        exact L2 _ x x0 (by omega) 11 0 d (Int.le_refl 0) (by decide) (by decide) (ih (x + 1) _ (by omega) (by omega) (by omega) hq)
  exact ⟨66, L 66 0 d (Int.le_refl 0) n0 (by omega) hQ⟩
theorem m_d2 {Q : Int → cI → Prop} (h : INV I R J) (d : Int) (hQ : Q (d6 J (d5 J (d4 J (d3 J (d2 J d))))) J) : ∃ n, wX12_digest_38 Q n d 0 J := by
  have hn := h.2.1.2
  have n0 := hn.1
  have n1 := hn.2.1
  have L2 : ∀ (K : Int → Int → cI → Prop) (i : Int), 0 ≤ i → i < J 1000 14 → ∀ (m : Nat) (x d : Int), 0 ≤ x → x ≤ 10 → 10 - x < m → K (gF (fun a d => d * 31 + rl J i a) x 10 d) (i + 1) J → wX12_digest_49 Q K m d i x J := by
    intro K i i0 i1 m
    induction m with
    | zero => intro x d x0 x1 x2; omega
    | succ m ih =>
      intro x d x0 x1 x2 hq
      show wbX12_digest_49 Q K (wX12_digest_49 Q K m) d i x J
      unfold wbX12_digest_49
      refine ⟨fun c => ⟨by unfold inR; omega, fun z hz => ?_⟩, fun c => m_ruleTold h i0 i1 x0 (by omega) ⟨by unfold inR; omega, fun z hz => ?_⟩⟩
      · subst hz; rw [gF_e (by omega)] at hq; exact hq
      · subst hz
        rw [gF_s (by omega)] at hq
        exact ih (x + 1) _ (by omega) (by omega) (by omega) hq
  have L : ∀ (m : Nat) (x d : Int), 0 ≤ x → x ≤ J 1000 14 → J 1000 14 - x < m → Q (d6 J (d5 J (d4 J (d3 J (gF (fun r d => gF (fun a d => d * 31 + rl J r a) 0 10 d) x (J 1000 14) d))))) J → wX12_digest_38 Q m d x J := by
    intro m
    induction m with
    | zero => intro x d x0 x1 x2; omega
    | succ m ih =>
      intro x d x0 x1 x2 hq
      show wbX12_digest_38 Q (wX12_digest_38 Q m) d x J
      unfold wbX12_digest_38
      refine ⟨fun c => ?_, fun c => ⟨11, ?_⟩⟩
      · rw [gF_e c] at hq; exact m_d3 h d hq
      · rw [gF_s (by omega)] at hq
        exact L2 _ x x0 (by omega) 11 0 d (Int.le_refl 0) (by decide) (by decide) (ih (x + 1) _ (by omega) (by omega) (by omega) hq)
  exact ⟨66, L 66 0 d (Int.le_refl 0) n0 (by omega) hQ⟩
theorem c_dig {Q : Int → cI → cR → Prop} (h : INV I R J) (hQ : Q (d6 J (d5 J (d4 J (d3 J (d2 J (d1 J 457)))))) I R) : wX11_digest I R Q := by
  have L : ∀ (m : Nat) (x d : Int), 0 ≤ x → x ≤ 11 → 11 - x < m → Q (d6 J (d5 J (d4 J (d3 J (d2 J (gF (fun a d => d * 31 + cv J a) x 11 d)))))) I R → wX11_digest_6 Q m d x I R := by
    intro m
    induction m with
    | zero => intro x d x0 x1 x2; omega
    | succ m ih =>
      intro x d x0 x1 x2 hq
      show wbX11_digest_6 Q (wX11_digest_6 Q m) d x I R
      unfold wbX11_digest_6
      refine ⟨fun c => ?_, fun c => c_count h (fun _ _ => ⟨by unfold inR; omega, fun z hz => ?_⟩) (fun n => n (by omega))⟩
      · rw [gF_e (by omega)] at hq; exact c_d2 h d hq
      · subst hz
        rw [gF_s (by omega)] at hq
        exact ih (x + 1) _ (by omega) (by omega) (by omega) hq
  exact ⟨12, L 12 0 457 (Int.le_refl 0) (by decide) (by decide) hQ⟩
theorem m_dig {Q : Int → cI → Prop} (h : INV I R J) (hQ : Q (d6 J (d5 J (d4 J (d3 J (d2 J (d1 J 457)))))) J) : ∃ n, n ≤ 12 ∧ wX12_digest_11 Q n 457 0 J := by
  have L : ∀ (m : Nat) (x d : Int), 0 ≤ x → x ≤ 11 → 11 - x < m → Q (d6 J (d5 J (d4 J (d3 J (d2 J (gF (fun a d => d * 31 + cv J a) x 11 d)))))) J → wX12_digest_11 Q m d x J := by
    intro m
    induction m with
    | zero => intro x d x0 x1 x2; omega
    | succ m ih =>
      intro x d x0 x1 x2 hq
      show wbX12_digest_11 Q (wX12_digest_11 Q m) d x J
      unfold wbX12_digest_11
      refine ⟨fun c => ?_, fun c => m_counted h x0 (by omega) ⟨by unfold inR; omega, fun z hz => ?_⟩⟩
      · rw [gF_e (by omega)] at hq; exact m_d2 h d hq
      · subst hz
        rw [gF_s (by omega)] at hq
        exact ih (x + 1) _ (by omega) (by omega) (by omega) hq
  exact ⟨12, by decide, L 12 0 457 (Int.le_refl 0) (by decide) (by decide) hQ⟩
theorem st_digest (h : INV I R J) : wX11_digest I R (okN (wX12_digest J)) := by
  have h0 := INV_0 (v := 0) h
  refine c_dig h0 (fun J1 e1 => ?_)
  subst e1
  exact m_dig h0 ⟨u2e, rfl, h0⟩
end DG
