/-! ===== what holds between calls ===== -/
def vM (J : cI) : Int := J 1000 11 * J 1000 12
def vP (J : cI) : Prop := ((J 1000 11 = 0 ∧ J 1000 12 = 0 ∧ J 1000 13 = 0 ∧ J 1000 14 = 0) ∨ (2 ≤ J 1000 11 ∧ J 1000 11 ≤ 5 ∧ 2 ≤ J 1000 12 ∧ J 1000 12 ≤ 5 ∧ 2 ≤ J 1000 13 ∧ J 1000 13 ≤ 5)) ∧ 0 ≤ J 1000 14 ∧ J 1000 14 ≤ 65 ∧ gp (vM J) (J 1000 14) (mr J 1015) ∧ cF (fun i => ¬ mr J 1015 i 0 = 9) 0 (J 1000 14) ≤ 40
def iP (I : cI) (R : cR) (J : cI) : Prop := okp R (R 0 7) ∧ okp R (R 0 8) ∧ R 0 7 ≠ R 0 8 ∧ I (R 0 7) 0 = J 1000 11 ∧ I (R 0 7) 1 = J 1000 12 ∧ I (R 0 7) 2 = J 1000 13 ∧ I (R 0 7) 5 = J 1000 14 ∧ pv I R (R 0 7) (J 1000 14) (mr J 1015) ∧ ∀ c, 0 ≤ c → c < 25 → I (R 0 7 + 1) c = J 1020 c ∧ 0 ≤ J 1020 c ∧ J 1020 c ≤ J 1000 13
def iS (I J : cI) : Prop := (∀ c, 0 ≤ c → c < 25 → I 81 c = J 1030 c ∧ 0 ≤ J 1030 c ∧ J 1030 c < 32) ∧ (∀ c, 0 ≤ c → c < 25 → 0 ≤ I 82 c ∧ I 82 c ≤ 5) ∧ I 80 1 = J 1000 31 ∧ I 80 2 = J 1000 32
def iT (I J : cI) : Prop := I 1 0 = J 1000 2 ∧ 0 ≤ J 1000 2 ∧ J 1000 2 ≤ 1600 ∧ ∀ k, 0 ≤ k → k < J 1000 2 → I 2 k = J 1001 k ∧ 0 ≤ J 1001 k ∧ J 1001 k ≤ 255
def iW (I J : cI) : Prop := I 8 1 = J 1000 10 ∧ 0 ≤ J 1000 10 ∧ J 1000 10 ≤ 1900 ∧ ∀ k, 0 ≤ k → k < J 1000 10 → I 9 k = J 1009 k
def iK (I J : cI) : Prop := I 10 1 = J 1000 28 ∧ 0 ≤ J 1000 28 ∧ J 1000 28 ≤ 30 ∧ I 10 2 = J 1000 27 ∧ ∀ i c, 0 ≤ i → i < J 1000 28 → 0 ≤ c → c < vM J → I (15 + i.toNat) c = J 1029 (25 * i + c)
def iE (I J : cI) : Prop := I 3 1 = J 1000 3
def INV (I : cI) (R : cR) (J : cI) : Prop := iP I R J ∧ vP J ∧ iS I J ∧ iT I J ∧ iW I J ∧ iK I J ∧ iE I J
/-- places of the reference that nothing stays in -/
def jN (a : Nat) (x : Int) : Prop := (a = 1000 ∧ (x = 0 ∨ x = 7 ∨ x = 8 ∨ x = 24 ∨ x = 25 ∨ (33 ≤ x ∧ x ≤ 36) ∨ x = 43)) ∨ (1004 ≤ a ∧ a ≤ 1006) ∨ (1021 ≤ a ∧ a ≤ 1023) ∨ a = 1026 ∨ (1037 ≤ a ∧ a ≤ 1042)
theorem INV_J {I : cI} {R : cR} {J J' : cI} (h : INV I R J) (f : ∀ a x, ¬ jN a x → J' a x = J a x) : INV I R J' := by
  have f0 : ∀ x : Int, ¬ (x = 0 ∨ x = 7 ∨ x = 8 ∨ x = 24 ∨ x = 25 ∨ (33 ≤ x ∧ x ≤ 36) ∨ x = 43) → J' 1000 x = J 1000 x := fun x q => f 1000 x (by unfold jN; omega)
  have f1 : ∀ (a : Nat) (x : Int), ¬ (a = 1000 ∨ (1004 ≤ a ∧ a ≤ 1006) ∨ (1021 ≤ a ∧ a ≤ 1023) ∨ a = 1026 ∨ (1037 ≤ a ∧ a ≤ 1042)) → J' a x = J a x := fun a x q => f a x (by unfold jN; omega)
  have er : mr J' 1015 = mr J 1015 := mr_fr (fun a x q1 q2 => f1 a x (by omega))
  have eM : vM J' = vM J := by unfold vM; rw [f0 11 (by decide), f0 12 (by decide)]
  obtain ⟨h1, h2, h3, h4, h5, h6, h7⟩ := h
  unfold iP at h1
  unfold vP at h2
  unfold iS at h3
  unfold iT at h4
  unfold iW at h5
  unfold iK at h6
  unfold iE at h7
  have g20 : ∀ x, J' 1020 x = J 1020 x := fun x => f1 1020 x (by omega)
  have g30 : ∀ x, J' 1030 x = J 1030 x := fun x => f1 1030 x (by omega)
  have g01 : ∀ x, J' 1001 x = J 1001 x := fun x => f1 1001 x (by omega)
  have g09 : ∀ x, J' 1009 x = J 1009 x := fun x => f1 1009 x (by omega)
  have g29 : ∀ x, J' 1029 x = J 1029 x := fun x => f1 1029 x (by omega)
  unfold INV iP vP iS iT iW iK iE
  simp only [er, eM, g20, g30, g01, g09, g29, f0 2 (by decide), f0 3 (by decide), f0 10 (by decide), f0 11 (by decide), f0 12 (by decide), f0 13 (by decide), f0 14 (by decide), f0 27 (by decide), f0 28 (by decide), f0 31 (by decide), f0 32 (by decide)]
  exact ⟨h1, h2, h3, h4, h5, h6, h7⟩
/-- places of the class that nothing stays in, the draft aside -/
def iN (a : Nat) (x : Int) : Prop := (a = 3 ∧ x ≠ 1) ∨ (4 ≤ a ∧ a ≤ 7) ∨ (a = 10 ∧ x ≠ 1 ∧ x ≠ 2) ∨ (11 ≤ a ∧ a ≤ 14) ∨ (45 ≤ a ∧ a < 80) ∨ (a = 80 ∧ x ≠ 1 ∧ x ≠ 2) ∨ (82 ≤ a ∧ a ≤ 84)
theorem INV_I {I I' : cI} {R : cR} {J : cI} (h : INV I R J) (f : ∀ a x, ¬ iN a x → I' a x = I a x) (h82 : ∀ c, 0 ≤ c → c < 25 → 0 ≤ I' 82 c ∧ I' 82 c ≤ 5) : INV I' R J := by
  obtain ⟨h1, h2, h3, h4, h5, h6, h7⟩ := h
  obtain ⟨a1, a2, a3, a4, a5, a6, a7, a8, a9⟩ := h1
  have hp : R 0 7 = 85 ∨ R 0 7 = 89 := a1.1
  have e : ∀ a x, 85 ≤ a → I' a x = I a x := fun a x q => f a x (by unfold iN; omega)
  refine ⟨⟨a1, a2, a3, by rw [e _ 0 (by omega)]; exact a4, by rw [e _ 1 (by omega)]; exact a5, by rw [e _ 2 (by omega)]; exact a6, by rw [e _ 5 (by omega)]; exact a7, pv_fr a1 h2.2.2.1 (fun a x q => e a x (by omega)) a8, fun c c0 c1 => by rw [e _ c (by omega)]; exact a9 c c0 c1⟩, h2, ⟨fun c c0 c1 => by rw [f 81 c (by unfold iN; omega)]; exact h3.1 c c0 c1, h82, by rw [f 80 1 (by unfold iN; omega)]; exact h3.2.2.1, by rw [f 80 2 (by unfold iN; omega)]; exact h3.2.2.2⟩,
    ⟨by rw [f 1 0 (by unfold iN; omega)]; exact h4.1, h4.2.1, h4.2.2.1, fun k k0 k1 => by rw [f 2 k (by unfold iN; omega)]; exact h4.2.2.2 k k0 k1⟩, ⟨by rw [f 8 1 (by unfold iN; omega)]; exact h5.1, h5.2.1, h5.2.2.1, fun k k0 k1 => by rw [f 9 k (by unfold iN; omega)]; exact h5.2.2.2 k k0 k1⟩,
    ⟨by rw [f 10 1 (by unfold iN; omega)]; exact h6.1, h6.2.1, h6.2.2.1, by rw [f 10 2 (by unfold iN; omega)]; exact h6.2.2.2.1, fun i c i0 i1 c0 c1 => by rw [f _ c (by unfold iN; have := h6.2.2.1; omega)]; exact h6.2.2.2.2 i c i0 i1 c0 c1⟩, by unfold iE; rw [f 3 1 (by unfold iN; omega)]; exact h7⟩
/-! small things of both sides -/
section SM
variable {Q : Int → cI → Prop} {J : cI}
end SM
theorem vM_b {J : cI} (h : vP J) : 0 ≤ vM J ∧ vM J ≤ 25 ∧ (J 1000 11 = 0 → vM J = 0) ∧ (J 1000 11 ≠ 0 → 4 ≤ vM J) := by
  unfold vM
  rcases h.1 with a | a
  · rw [a.1, a.2.1]; omega
  · obtain ⟨a1, a2, a3, a4, _⟩ := a
    have e := Int.mul_le_mul a2 a4 (by omega) (by decide)
    have e2 := Int.mul_le_mul a1 a3 (by decide) (by omega)
    omega
theorem jN0 {x : Int} : jN 1000 0 := Or.inl ⟨rfl, Or.inl rfl⟩
theorem INV_0 {I : cI} {R : cR} {J : cI} {v : Int} (h : INV I R J) : INV I R (up2 J 1000 0 v) := INV_J h (fun a x q => u2n (fun w => q (by rw [w.1, w.2]; exact Or.inl ⟨rfl, Or.inl rfl⟩)))
/-- both answer alike -/
def okN (W : (Int → cI → Prop) → Prop) (r : Int) (I : cI) (R : cR) : Prop := W (fun b J => J 1000 0 = 0 ∧ r = b ∧ INV I R J)
/-- both refuse alike: f tells what the call's refusals count as -/
def okX (f : Nat → Int) (W : (Int → cI → Prop) → Prop) (k : Nat) (I : cI) (R : cR) : Prop := 1 ≤ f k ∧ W (fun _ J => J 1000 0 = f k ∧ INV I R J)
section ST
variable {I : cI} {R : cR} {J : cI}
theorem c_reqCell {c : Int} {Q : cI → cR → Prop} {Qx : Nat → cI → cR → Prop} (h : INV I R J) (q1 : 0 ≤ c ∧ c < vM J → Q I R) (q0 : ¬ (0 ≤ c ∧ c < vM J) → Qx 2 I R) : wX11_requireCell c I R Q Qx := by
  have hb := vM_b h.2.1
  have e : I (R 0 7) 0 * I (R 0 7) 1 = vM J := by unfold vM; rw [h.1.2.2.2.1, h.1.2.2.2.2.1]
  refine ⟨fun e => q0 (by omega), fun e1 => ?_⟩
  unfold wX4_cellCount
  rw [e]
  exact ⟨by unfold inR; omega, fun e2 => q1 (by omega), fun e2 => q0 (by omega)⟩
theorem c_reqRule {c : Int} {Q : cI → cR → Prop} {Qx : Nat → cI → cR → Prop} (h : INV I R J) (q1 : 0 ≤ c ∧ c < J 1000 14 → Q I R) (q0 : ¬ (0 ≤ c ∧ c < J 1000 14) → Qx 2 I R) : wX11_requireRule c I R Q Qx := by
  have e : I (R 0 7) 5 = J 1000 14 := h.1.2.2.2.2.2.2.1
  unfold wX11_requireRule
  rw [e]
  exact ⟨fun e => q0 (by omega), fun e1 => ⟨fun e2 => q1 (by omega), fun e2 => q0 (by omega)⟩⟩
theorem c_reqPuzzle {Q : cI → cR → Prop} {Qx : Nat → cI → cR → Prop} (h : INV I R J) (q1 : J 1000 11 ≠ 0 → Q I R) (q0 : J 1000 11 = 0 → Qx 0 I R) : wX11_requirePuzzle I R Q Qx := by
  have e : I (R 0 7) 0 = J 1000 11 := h.1.2.2.2.1
  have hs := h.2.1.1
  unfold wX11_requirePuzzle wX4_isThere
  rw [e]
  exact ⟨fun e1 => ⟨fun n => absurd rfl n, fun _ => q0 (by omega)⟩, fun e1 => ⟨fun _ => q1 (by omega), fun n => absurd n (by decide)⟩⟩
/-- the puzzle for the class's searches -/
theorem INV_pB (h : INV I R J) (hw : J 1000 11 ≠ 0) : pB (R 0 7) I R (vM J) (J 1000 14) (J 1000 13) (mr J 1015) := by
  have hb := vM_b h.2.1
  have h4 := hb.2.2.2 hw
  have hs := h.2.1.1
  exact ⟨h.1.1, by unfold vM; rw [h.1.2.2.2.1, h.1.2.2.2.2.1], h.1.2.2.2.2.2.1, h.1.2.2.2.2.2.2.1, h.1.2.2.2.2.2.2.2.1, h.2.1.2.2.2.1, h.2.1.2.1, h.2.1.2.2.1, by omega, by omega, by omega, by omega⟩
theorem INV_mB {M' : Int} {P : sP} {wo : Int} {J' : cI} (h : vP J) (hw : J 1000 11 ≠ 0) (f : ∀ a x, ¬ (a = 1021 ∨ a = 1022 ∨ a = 1023 ∨ a = 1026 ∨ (a = 1000 ∧ (x = 24 ∨ x = 25 ∨ x = 0))) → J' a x = J a x) (e2 : P.2.1 = J 1000 13) (h23 : ∀ c, 0 ≤ c → c < vM J → J' 1023 c = P.2.2.1 c) (h22 : ∀ c, 0 ≤ c → c < vM J → J' 1022 c = P.2.2.2.1 c - 1) (hb : P.2.2.2.2 = fun c v => am (mr J 1015) (J 1000 14) (J 1000 13) c v wo) : mB J' (vM J) (J 1000 14) wo P := by
  have er : mr J' 1015 = mr J 1015 := mr_fr (fun a x q1 q2 => f a x (by omega))
  have hb' := vM_b h
  have h4 := hb'.2.2.2 hw
  refine ⟨by unfold vM; rw [f 1000 11 (by decide), f 1000 12 (by decide)], by rw [f 1000 13 (by decide), e2], f 1000 14 (by decide), by rw [er]; exact h.2.2.2.1, h.2.1, h.2.2.1, by omega, by omega, h23, h22, fun c v => by rw [hb, er, e2]⟩
end ST
/-! the parts of the invariant, each on its own -/
section FRM
variable {I I' : cI} {R : cR} {J J' : cI}
theorem iT_fr (h : iT I J) (c : ∀ x, I' 2 x = I 2 x) (c0 : I' 1 0 = I 1 0) (j : ∀ x, J' 1001 x = J 1001 x) (j2 : J' 1000 2 = J 1000 2) : iT I' J' := by
  unfold iT at h ⊢; simp only [c, c0, j, j2]; exact h
theorem iW_fr (h : iW I J) (c : ∀ x, I' 9 x = I 9 x) (c0 : I' 8 1 = I 8 1) (j : ∀ x, J' 1009 x = J 1009 x) (j2 : J' 1000 10 = J 1000 10) : iW I' J' := by
  unfold iW at h ⊢; simp only [c, c0, j, j2]; exact h
theorem iK_fr (h : iK I J) (c : ∀ a x, 15 ≤ a → a < 45 → I' a x = I a x) (c1 : I' 10 1 = I 10 1) (c2 : I' 10 2 = I 10 2) (j : ∀ x, J' 1029 x = J 1029 x) (j8 : J' 1000 28 = J 1000 28) (j7 : J' 1000 27 = J 1000 27) (jM : vM J' = vM J) : iK I' J' := by
  unfold iK at h ⊢
  rw [c1, c2, j8, j7, jM]
  exact ⟨h.1, h.2.1, h.2.2.1, h.2.2.2.1, fun i y i0 i1 y0 y1 => by rw [c _ _ (by omega) (by have := h.2.2.1; omega), j]; exact h.2.2.2.2 i y i0 i1 y0 y1⟩
theorem iS_fr (h : iS I J) (c : ∀ x, I' 81 x = I 81 x) (c2 : ∀ x, I' 82 x = I 82 x) (c1 : I' 80 1 = I 80 1) (c3 : I' 80 2 = I 80 2) (j : ∀ x, J' 1030 x = J 1030 x) (j1 : J' 1000 31 = J 1000 31) (j2 : J' 1000 32 = J 1000 32) : iS I' J' := by
  unfold iS at h ⊢; simp only [c, c1, c2, c3, j, j1, j2]; exact h
theorem iE_fr (h : iE I J) (c : I' 3 1 = I 3 1) (j : J' 1000 3 = J 1000 3) : iE I' J' := by
  unfold iE at h ⊢; rw [c, j]; exact h
/-- the reference's puzzle is as before -/
def smP (J J' : cI) : Prop := (∀ a x, 1015 ≤ a → a ≤ 1020 → J' a x = J a x) ∧ J' 1000 11 = J 1000 11 ∧ J' 1000 12 = J 1000 12 ∧ J' 1000 13 = J 1000 13 ∧ J' 1000 14 = J 1000 14
theorem smP_mr (j : smP J J') : mr J' 1015 = mr J 1015 := mr_fr (fun a x q1 q2 => j.1 a x q1 (by omega))
theorem smP_M (j : smP J J') : vM J' = vM J := by unfold vM; rw [j.2.1, j.2.2.1]
theorem vP_fr (h : vP J) (j : smP J J') : vP J' := by
  unfold vP at h ⊢; rw [smP_mr j, smP_M j, j.2.1, j.2.2.1, j.2.2.2.1, j.2.2.2.2]; exact h
theorem iP_fr (h : iP I R J) (hv : vP J) (c : ∀ a x, 85 ≤ a → I' a x = I a x) (j : smP J J') : iP I' R J' := by
  obtain ⟨a1, a2, a3, a4, a5, a6, a7, a8, a9⟩ := h
  have hp : R 0 7 = 85 ∨ R 0 7 = 89 := a1.1
  refine ⟨a1, a2, a3, ?_, ?_, ?_, ?_, ?_, fun y c0 c1 => ?_⟩
  · rw [c _ 0 (by omega), j.2.1]; exact a4
  · rw [c _ 1 (by omega), j.2.2.1]; exact a5
  · rw [c _ 2 (by omega), j.2.2.2.1]; exact a6
  · rw [c _ 5 (by omega), j.2.2.2.2]; exact a7
  · rw [j.2.2.2.2, smP_mr j]; exact pv_fr a1 hv.2.2.1 (fun a x q => c a x (by omega)) a8
  · rw [c _ y (by omega), j.1 1020 y (by decide) (by decide), j.2.2.2.1]; exact a9 y c0 c1
end FRM
