/-! ===== feed, digest ===== -/
theorem and255 (x : Int) : 0 ≤ iAnd x 255 ∧ iAnd x 255 ≤ 255 := by
  unfold iAnd
  have h1 : (Int32.ofInt x &&& Int32.ofInt 255).toBitVec.toNat ≤ 255 := by
    rw [Int32.toBitVec_and, BitVec.toNat_and]
    exact Nat.le_trans Nat.and_le_right (by decide)
  have h2 : (Int32.ofInt x &&& Int32.ofInt 255).toInt = ((Int32.ofInt x &&& Int32.ofInt 255).toBitVec.toNat : Int) := by
    show (Int32.ofInt x &&& Int32.ofInt 255).toBitVec.toInt = _
    exact BitVec.toInt_eq_toNat_of_lt (by omega)
  omega
def wd (a k : Int) : Int := iAnd (iShr a (24 - 8 * k)) 255
/-- the byte at a place behind what was there: A tells the numbers -/
def fd (A : Int → Int) (p : Int) : Int := wd (A (p / 4)) (p % 4)
section FE
variable {I : cI} {R : cR} {J : cI}
theorem c_four {a n : Int} {Q : cI → cR → Prop} (e : I 1 0 = n) (n0 : 0 ≤ n) (n1 : n + 4 ≤ 1600)
    (hQ : ∀ I', (∀ b x, ¬ (b = 2 ∧ n ≤ x) → ¬ (b = 1 ∧ x = 0) → I' b x = I b x) → I' 1 0 = n + 4 → (∀ k, 0 ≤ k → k < 4 → I' 2 (n + k) = wd a k) → Q I' R) : wX9_appendFour a I R Q := by
  have L : ∀ (m : Nat) (k : Int) (I' : cI), 0 ≤ k → k ≤ 4 → 4 - k < m → (∀ b x, ¬ (b = 2 ∧ n ≤ x) → ¬ (b = 1 ∧ x = 0) → I' b x = I b x) → I' 1 0 = n + k → (∀ j, 0 ≤ j → j < k → I' 2 (n + j) = wd a j) → wX9_appendFour_3 Q a m (24 - 8 * k) I' R := by
    intro m
    induction m with
    | zero => intro k I' k0 k1 k2; omega
    | succ m ih =>
      intro k I' k0 k1 k2 h1 h2 h3
      show wbX9_appendFour_3 Q a (wX9_appendFour_3 Q a m) (24 - 8 * k) I' R
      unfold wbX9_appendFour_3
      rw [h2]
      refine ⟨fun c => ?_, fun c => ⟨fun d => absurd d (by omega), fun d => ⟨by omega, fun I2 e2 => ?_⟩⟩⟩
      · have ek : k = 4 := by omega
        subst ek
        exact hQ I' h1 h2 h3
      · have e21 : I2 1 0 = n + k := by subst e2; rw [u2a (by decide)]; exact h2
        rw [e21]
        refine ⟨by unfold inR; omega, fun I6 e6 => ⟨by unfold inR; omega, fun z hz => ?_⟩⟩
        have ez : z = 24 - 8 * (k + 1) := by omega
        subst ez
        refine ih (k + 1) I6 (by omega) (by omega) (by omega) (fun b x q1 q2 => ?_) ?_ (fun j j0 j1 => ?_)
        · subst e6; rw [u2n (by omega)]; subst e2; rw [u2n (by omega)]; exact h1 b x q1 q2
        · subst e6; rw [u2e]; omega
        · subst e6; rw [u2a (by decide)]; subst e2
          by_cases ej : j = k
          · subst ej; rw [u2e]; rfl
          · rw [u2x (by omega)]; exact h3 j j0 (by omega)
  exact ⟨5, L 5 0 I (by decide) (by decide) (by decide) (fun _ _ _ _ => rfl) (by omega) (fun j j0 j1 => by omega)⟩
theorem c_fours {n j a : Int} {A : Int → Int} {I' : cI} {Q : cI → cR → Prop} (n0 : 0 ≤ n) (n1 : n + 20 ≤ 1600) (j0 : 0 ≤ j) (j1 : j < 5) (eA : A j = a)
    (h1 : ∀ b x, ¬ (b = 2 ∧ n ≤ x) → ¬ (b = 1 ∧ x = 0) → I' b x = I b x) (h2 : I' 1 0 = n + 4 * j) (h3 : ∀ p, 0 ≤ p → p < 4 * j → I' 2 (n + p) = fd A p)
    (hQ : ∀ I', (∀ b x, ¬ (b = 2 ∧ n ≤ x) → ¬ (b = 1 ∧ x = 0) → I' b x = I b x) → I' 1 0 = n + 4 * (j + 1) → (∀ p, 0 ≤ p → p < 4 * (j + 1) → I' 2 (n + p) = fd A p) → Q I' R) : wX9_appendFour a I' R Q := by
  refine c_four h2 (by omega) (by omega) (fun I2 g1 g2 g3 => hQ I2 (fun b x q1 q2 => by rw [g1 b x (by omega) q2]; exact h1 b x q1 q2) (by rw [g2]; omega) (fun p p0 p1 => ?_))
  by_cases c : p < 4 * j
  · rw [g1 _ _ (by omega) (by omega)]; exact h3 p p0 c
  · have g := g3 (p - 4 * j) (by omega) (by omega)
    rw [show n + 4 * j + (p - 4 * j) = n + p by omega] at g
    rw [g]
    unfold fd
    rw [show p / 4 = j by omega, show p % 4 = p - 4 * j by omega, eA]
end FE
/-- a row of steps on one number -/
noncomputable def gF (g : Int → Int → Int) (x n d : Int) : Int := if x < n then gF g (x + 1) n (g x d) else d
termination_by (n - x).toNat
theorem gF_e {g : Int → Int → Int} {x n d : Int} (h : n ≤ x) : gF g x n d = d := by
  rw [gF]; exact if_neg (by omega)
theorem gF_s {g : Int → Int → Int} {x n d : Int} (h : x < n) : gF g x n d = gF g (x + 1) n (g x d) := by
  rw [gF]; exact if_pos h
section DG
variable {I : cI} {R : cR} {J : cI}
noncomputable def d1 (J : cI) (d : Int) : Int := gF (fun a d => d * 31 + cv J a) 0 11 d
noncomputable def d2 (J : cI) (d : Int) : Int := gF (fun r d => gF (fun a d => d * 31 + rl J r a) 0 10 d) 0 (J 1000 14) d
noncomputable def d3 (J : cI) (d : Int) : Int := gF (fun c d => (d * 31 + J 1020 c) * 31 + J 1030 c) 0 (vM J) d
noncomputable def d4 (J : cI) (d : Int) : Int := gF (fun i d => gF (fun c d => d * 31 + J 1029 (25 * i + c)) 0 (vM J) d) 0 (J 1000 28) d
noncomputable def d5 (J : cI) (d : Int) : Int := gF (fun a d => d * 31 + rs J a) 0 4 d
noncomputable def d6 (J : cI) (d : Int) : Int := gF (fun k d => d * 31 + J 1009 k) 0 (J 1000 10) d
theorem c_d6 {Q : Int → cI → cR → Prop} (h : INV I R J) (d : Int) (hQ : Q (d6 J d) I R) : ∃ n, wX11_digest_222 Q n d 0 I R := by
  have hW := h.2.2.2.2.1
  have w0 := hW.2.1
  have w1 := hW.2.2.1
  have L : ∀ (m : Nat) (x d : Int), 0 ≤ x → x ≤ J 1000 10 → J 1000 10 - x < m → Q (gF (fun k d => d * 31 + J 1009 k) x (J 1000 10) d) I R → wX11_digest_222 Q m d x I R := by
    intro m
    induction m with
    | zero => intro x d x0 x1 x2; omega
    | succ m ih =>
      intro x d x0 x1 x2 hq
      show wbX11_digest_222 Q (wX11_digest_222 Q m) d x I R
      unfold wbX11_digest_222
      rw [hW.1]
      refine ⟨fun c => ?_, fun c => ⟨by omega, by unfold inR; omega, fun z hz => ?_⟩⟩
      · rw [gF_e c] at hq; exact hq
      · subst hz
        rw [gF_s (by omega)] at hq
        rw [hW.2.2.2 x x0 (by omega)]
        exact ih (x + 1) _ (by omega) (by omega) (by omega) hq
  exact ⟨2000, L 2000 0 d (Int.le_refl 0) w0 (by omega) hQ⟩
theorem c_d5 {Q : Int → cI → cR → Prop} (h : INV I R J) (d : Int) (hQ : Q (d6 J (d5 J d)) I R) : ∃ n, wX11_digest_196 Q n d 0 I R := by
  have L : ∀ (m : Nat) (x d : Int), 0 ≤ x → x ≤ 4 → 4 - x < m → Q (d6 J (gF (fun a d => d * 31 + rs J a) x 4 d)) I R → wX11_digest_196 Q m d x I R := by
    intro m
    induction m with
    | zero => intro x d x0 x1 x2; omega
    | succ m ih =>
      intro x d x0 x1 x2 hq
      show wbX11_digest_196 Q (wX11_digest_196 Q m) d x I R
      unfold wbX11_digest_196
      refine ⟨fun c => ?_, fun c => c_reasoned h (fun _ _ => ⟨by unfold inR; omega, fun z hz => ?_⟩) (fun n => n (by omega))⟩
      · rw [gF_e (by omega)] at hq; exact c_d6 h d hq
      · subst hz
        rw [gF_s (by omega)] at hq
        exact ih (x + 1) _ (by omega) (by omega) (by omega) hq
  exact ⟨5, L 5 0 d (Int.le_refl 0) (by decide) (by decide) hQ⟩
theorem c_d4 {Q : Int → cI → cR → Prop} (h : INV I R J) (d : Int) (hQ : Q (d6 J (d5 J (d4 J d))) I R) : ∃ n, wX11_digest_136 Q n d 0 I R := by
  have hb := vM_b h.2.1
  have hM := INV_M h
  have hK := h.2.2.2.2.2.1
  have k0 := hK.2.1
  have k1 := hK.2.2.1
  have L2 : ∀ (K : Int → Int → cI → cR → Prop) (i : Int), 0 ≤ i → i < J 1000 28 → ∀ (m : Nat) (x d : Int), 0 ≤ x → x ≤ vM J → vM J - x < m → K (gF (fun c d => d * 31 + J 1029 (25 * i + c)) x (vM J) d) (i + 1) I R → wX11_digest_150 Q K m d i x I R := by
    intro K i i0 i1 m
    induction m with
    | zero => intro x d x0 x1 x2; omega
    | succ m ih =>
      intro x d x0 x1 x2 hq
      show wbX11_digest_150 Q K (wX11_digest_150 Q K m) d i x I R
      unfold wbX11_digest_150 wX4_cellCount
      rw [hM]
      refine ⟨by unfold inR; omega, fun c => ⟨by unfold inR; omega, fun z hz => ?_⟩, fun c => ⟨by omega, by omega, by unfold inR; omega, fun z hz => ?_⟩⟩
      · subst hz; rw [gF_e c] at hq; exact hq
      · subst hz
        rw [gF_s (by omega)] at hq
        rw [hK.2.2.2.2 i x i0 i1 x0 (by omega)]
        exact ih (x + 1) _ (by omega) (by omega) (by omega) hq
  have L : ∀ (m : Nat) (x d : Int), 0 ≤ x → x ≤ J 1000 28 → J 1000 28 - x < m → Q (d6 J (d5 J (gF (fun i d => gF (fun c d => d * 31 + J 1029 (25 * i + c)) 0 (vM J) d) x (J 1000 28) d))) I R → wX11_digest_136 Q m d x I R := by
    intro m
    induction m with
    | zero => intro x d x0 x1 x2; omega
    | succ m ih =>
      intro x d x0 x1 x2 hq
      show wbX11_digest_136 Q (wX11_digest_136 Q m) d x I R
      unfold wbX11_digest_136
      rw [hK.1]
      refine ⟨fun c => ?_, fun c => ⟨26, ?_⟩⟩
      · rw [gF_e c] at hq; exact c_d5 h d hq
      · rw [gF_s (by omega)] at hq
        exact L2 _ x x0 (by omega) 26 0 d (Int.le_refl 0) hb.1 (by omega) (ih (x + 1) _ (by omega) (by omega) (by omega) hq)
  exact ⟨31, L 31 0 d (Int.le_refl 0) k0 (by omega) hQ⟩
theorem c_d3 {Q : Int → cI → cR → Prop} (h : INV I R J) (d : Int) (hQ : Q (d6 J (d5 J (d4 J (d3 J d)))) I R) : ∃ n, wX11_digest_83 Q n d 0 I R := by
  have hb := vM_b h.2.1
  have hM := INV_M h
  have L : ∀ (m : Nat) (x d : Int), 0 ≤ x → x ≤ vM J → vM J - x < m → Q (d6 J (d5 J (d4 J (gF (fun c d => (d * 31 + J 1020 c) * 31 + J 1030 c) x (vM J) d)))) I R → wX11_digest_83 Q m d x I R := by
    intro m
    induction m with
    | zero => intro x d x0 x1 x2; omega
    | succ m ih =>
      intro x d x0 x1 x2 hq
      show wbX11_digest_83 Q (wX11_digest_83 Q m) d x I R
      unfold wbX11_digest_83 wX4_cellCount
      rw [hM]
      refine ⟨by unfold inR; omega, fun c => ?_, fun c => ⟨by omega, by omega, by unfold inR; omega, fun z hz => ?_⟩⟩
      · rw [gF_e c] at hq; exact c_d4 h d hq
      · subst hz
        rw [gF_s (by omega)] at hq
        rw [(h.1.2.2.2.2.2.2.2.2 x x0 (by omega)).1, (h.2.2.1.1 x x0 (by omega)).1]
        exact ih (x + 1) _ (by omega) (by omega) (by omega) hq
  exact ⟨26, L 26 0 d (Int.le_refl 0) hb.1 (by omega) hQ⟩
theorem c_d2 {Q : Int → cI → cR → Prop} (h : INV I R J) (d : Int) (hQ : Q (d6 J (d5 J (d4 J (d3 J (d2 J d))))) I R) : ∃ n, wX11_digest_33 Q n d 0 I R := by
  have hn := h.2.1.2
  have n0 := hn.1
  have n1 := hn.2.1
  have e5 := h.1.2.2.2.2.2.2.1
  have L2 : ∀ (K : Int → Int → cI → cR → Prop) (i : Int), 0 ≤ i → i < J 1000 14 → ∀ (m : Nat) (x d : Int), 0 ≤ x → x ≤ 10 → 10 - x < m → K (gF (fun a d => d * 31 + rl J i a) x 10 d) (i + 1) I R → wX11_digest_47 Q K m d i x I R := by
    intro K i i0 i1 m
    induction m with
    | zero => intro x d x0 x1 x2; omega
    | succ m ih =>
      intro x d x0 x1 x2 hq
      show wbX11_digest_47 Q K (wX11_digest_47 Q K m) d i x I R
      unfold wbX11_digest_47
      refine ⟨fun c => ⟨by unfold inR; omega, fun z hz => ?_⟩, fun c => c_rule h (fun _ _ _ _ => ⟨by unfold inR; omega, fun z hz => ?_⟩) (fun n => n (by omega))⟩
      · subst hz; rw [gF_e (by omega)] at hq; exact hq
      · subst hz
        rw [gF_s (by omega)] at hq
        exact ih (x + 1) _ (by omega) (by omega) (by omega) hq
  have L : ∀ (m : Nat) (x d : Int), 0 ≤ x → x ≤ J 1000 14 → J 1000 14 - x < m → Q (d6 J (d5 J (d4 J (d3 J (gF (fun r d => gF (fun a d => d * 31 + rl J r a) 0 10 d) x (J 1000 14) d))))) I R → wX11_digest_33 Q m d x I R := by
    intro m
    induction m with
    | zero => intro x d x0 x1 x2; omega
    | succ m ih =>
      intro x d x0 x1 x2 hq
      show wbX11_digest_33 Q (wX11_digest_33 Q m) d x I R
      unfold wbX11_digest_33
      rw [e5]
      refine ⟨fun c => ?_, fun c => ⟨11, ?_⟩⟩
      · rw [gF_e c] at hq; exact c_d3 h d hq
      · rw [gF_s (by omega)] at hq
        exact L2 _ x x0 (by omega) 11 0 d (Int.le_refl 0) (by decide) (by decide) (ih (x + 1) _ (by omega) (by omega) (by omega) hq)
  exact ⟨66, L 66 0 d (Int.le_refl 0) n0 (by omega) hQ⟩
theorem c_dig {Q : Int → cI → cR → Prop} (h : INV I R J) (hQ : Q (d6 J (d5 J (d4 J (d3 J (d2 J (d1 J 457)))))) I R) : wX11_digest I R Q := by
  have L : ∀ (m : Nat) (x d : Int), 0 ≤ x → x ≤ 11 → 11 - x < m → Q (d6 J (d5 J (d4 J (d3 J (d2 J (gF (fun a d => d * 31 + cv J a) x 11 d)))))) I R → wX11_digest_6 Q m d x I R := by
    intro m
    induction m with
    | zero => intro x d x0 x1 x2; omega
    | succ m ih =>
      intro x d x0 x1 x2 hq
      show wbX11_digest_6 Q (wX11_digest_6 Q m) d x I R
      unfold wbX11_digest_6
      refine ⟨fun c => ?_, fun c => c_count h (fun _ _ => ⟨by unfold inR; omega, fun z hz => ?_⟩) (fun n => n (by omega))⟩
      · rw [gF_e (by omega)] at hq; exact c_d2 h d hq
      · subst hz
        rw [gF_s (by omega)] at hq
        exact ih (x + 1) _ (by omega) (by omega) (by omega) hq
  exact ⟨12, L 12 0 457 (Int.le_refl 0) (by decide) (by decide) hQ⟩
end DG
