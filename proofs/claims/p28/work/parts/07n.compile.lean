/-! ===== compile ===== -/
section CO
variable {k : kT}
theorem cmp_0 (o : okK k) (h : (cmp k).1 = 0) : ¬ (fm k).1 = 0 ∧ ((2 ≤ kV' k 1 ∧ kV' k 1 ≤ 5) ∧ (2 ≤ kV' k 2 ∧ kV' k 2 ≤ 5) ∧ (2 ≤ kV' k 3 ∧ kV' k 3 ≤ 5)) ∧ 0 ≤ (cmp k).2.2.1 ∧ (cmp k).2.2.1 ≤ 40 ∧ gp (kV' k 1 * kV' k 2) (cmp k).2.2.1 (cmp k).2.2.2 := by
  unfold cmp at h ⊢
  by_cases c : (fm k).1 = 0
  · rw [if_pos c] at h; exact absurd h (by show ¬ (1 : Int) = 0; decide)
  · rw [if_neg c] at h ⊢
    by_cases d : (szs k).1 = 0
    · rw [if_pos d] at h ⊢
      have s := szs_ok d
      have kf := fm_ok o c
      have m := mrl_ok (kk := kV' k 3) o s.1.1 s.1.2 s.2.1.1 s.2.1.2 s.2.2.2 (kZ k + 1).toNat 5 0 (fun _ _ => 0) (by decide) kf.2.2.2.1 (by have := o.1; omega) kf.2.2.2.2 (Int.le_refl 0) (by decide) (fun i i0 i1 => by omega)
      exact ⟨c, s, m.2.2.1, m.2.2.2.1, m.2.2.2.2⟩
    · rw [if_neg d] at h; exact absurd h d
def jC (J J' : cI) : Prop := ∀ a x, ¬ (1004 ≤ a ∧ a ≤ 1006) → ¬ (1037 ≤ a ∧ a ≤ 1041) → ¬ (a = 1000 ∧ (x = 0 ∨ x = 3 ∨ x = 7 ∨ x = 8 ∨ (33 ≤ x ∧ x ≤ 36))) → J' a x = J a x
theorem INV_tape {I : cI} {R : cR} {J : cI} (h : INV I R J) : INV (up2 I 1 0 0) R (up2 J 1000 2 0) := by
  have hp := h.1.1.1
  obtain ⟨p, v, s, t, w, k, x⟩ := h
  have j : smP J (up2 J 1000 2 0) := ⟨fun b y q1 q2 => u2a (by omega), u2x (by decide), u2x (by decide), u2x (by decide), u2x (by decide)⟩
  exact ⟨iP_fr p v (fun b y q => u2a (by omega)) j, vP_fr v j, iS_fr s (fun y => u2a (by decide)) (fun y => u2a (by decide)) (u2a (by decide)) (u2a (by decide)) (fun y => u2a (by decide)) (u2x (by decide)) (u2x (by decide)), ⟨by rw [u2e, u2e], by rw [u2e]; decide, by rw [u2e]; decide, fun y y0 y1 => by rw [u2e] at y1; omega⟩, iW_fr w (fun y => u2a (by decide)) (u2a (by decide)) (fun y => u2a (by decide)) (u2x (by decide)), iK_fr k (fun b y q1 q2 => u2a (by omega)) (u2a (by decide)) (u2a (by decide)) (fun y => u2a (by decide)) (u2x (by decide)) (u2x (by decide)) (smP_M j), iE_fr x (u2a (by decide)) (u2x (by decide))⟩
end CO
