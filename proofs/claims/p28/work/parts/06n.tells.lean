/-! ===== what is told ===== -/
noncomputable def cv (J : cI) (a : Int) : Int := if a = 0 then J 1000 11 else if a = 1 then J 1000 12 else if a = 2 then J 1000 13 else if a = 3 then J 1000 14 else if a = 4 then cF (fun i => mr J 1015 i 0 = 9) 0 (J 1000 14) else if a = 5 then cF (fun c => ¬ J 1020 c = 0) 0 (vM J) else if a = 6 then cF (fun i => br (mr J 1015 i) (J 1000 13) (J 1020)) 0 (J 1000 14) else if a = 7 then J 1000 28 else if a = 8 then J 1000 27 else if a = 9 then J 1000 2 else J 1000 10
noncomputable def rl (J : cI) (r a : Int) : Int := if a < 4 then mr J 1015 r a else if a < 9 then (if a - 4 < mr J 1015 r 3 then mr J 1015 r a else -1) else b2 (br (mr J 1015 r) (J 1000 13) (J 1020))
noncomputable def rs (J : cI) (a : Int) : Int := if a = 0 then J 1000 31 else if a = 1 then J 1000 32 else cF (fun c => bc (J 1030 c) = (if a = 3 then 0 else 1)) 0 (vM J)
section TL
variable {I : cI} {R : cR} {J : cI}
theorem INV_g (h : INV I R J) : ∀ c, 0 ≤ c → c < vM J → 0 ≤ J 1020 c ∧ J 1020 c ≤ 5 := fun c c0 c1 => by
  have hb := vM_b h.2.1
  have hs := h.2.1.1
  have := h.1.2.2.2.2.2.2.2.2 c c0 (by omega)
  omega
theorem INV_k (h : INV I R J) : 0 ≤ J 1000 13 ∧ J 1000 13 ≤ 5 := by have := h.2.1.1; omega
theorem c_count {a : Int} {Q : Int → cI → cR → Prop} {Qx : Nat → cI → cR → Prop} (h : INV I R J) (q1 : 0 ≤ a → a ≤ 10 → Q (cv J a) I R) (q0 : ¬ (0 ≤ a ∧ a ≤ 10) → Qx 2 I R) : wX11_count a I R Q Qx := by
  have hb := vM_b h.2.1
  have hM : I (R 0 7) 0 * I (R 0 7) 1 = vM J := by unfold vM; rw [h.1.2.2.2.1, h.1.2.2.2.2.1]
  have hn := h.1.2.2.2.2.2.2.1
  have hk := INV_k h
  unfold cv at q1
  refine ⟨fun e => ?_, fun e => ?_, fun e => ?_, fun e => ?_, fun e => ?_, fun e => ?_, fun e => ?_, fun e => ?_, fun e => ?_, fun e => ?_, fun e => ?_, fun e0 e1 e2 e3 e4 e5 e6 e7 e8 e9 e10 => q0 (by omega)⟩ <;> subst e <;> have q := q1 (by decide) (by decide)
  · rw [h.1.2.2.2.1]; simpa using q
  · rw [h.1.2.2.2.2.1]; simpa using q
  · rw [h.1.2.2.2.2.2.1]; simpa using q
  · rw [hn]; simpa using q
  · refine c_givens (ρ := mr J 1015) (by rw [hn]; exact ⟨h.2.1.2.1, h.2.1.2.2.1⟩) (by rw [hn]; exact h.1.2.2.2.2.2.2.2.1) ?_
    rw [hn]; simpa using q
  · refine c_filled (by rw [hM]; exact hb.2.1) (by rw [hM]; exact hb.1) ?_
    rw [hM, cF_cg (q := fun c => ¬ J 1020 c = 0) (fun c c0 c1 => by rw [(h.1.2.2.2.2.2.2.2.2 c c0 (by omega)).1])]
    simpa using q
  · refine c_broken (ρ := mr J 1015) (m := vM J) (by rw [hn]; exact ⟨h.2.1.2.1, h.2.1.2.2.1⟩) (by rw [hn]; exact h.1.2.2.2.2.2.2.2.1) (by rw [hn]; exact h.2.1.2.2.2.1) hb.2.1 (fun c c0 c1 => by rw [(h.1.2.2.2.2.2.2.2.2 c c0 (by omega)).1]; exact INV_g h c c0 c1) (by rw [h.1.2.2.2.2.2.1]; exact hk) ?_
    rw [hn, h.1.2.2.2.2.2.1, cF_cg (q := fun i => br (mr J 1015 i) (J 1000 13) (J 1020)) (fun i i0 i1 => br_cg (h.2.1.2.2.2.1 i i0 i1) (fun c c0 c1 => (h.1.2.2.2.2.2.2.2.2 c c0 (by omega)).1))]
    simpa using q
  · rw [h.2.2.2.2.2.1.1]; simpa using q
  · rw [h.2.2.2.2.2.1.2.2.2.1]; simpa using q
  · rw [h.2.2.2.1.1]; simpa using q
  · rw [h.2.2.2.2.1.1]; simpa using q
theorem c_rule {r a : Int} {Q : Int → cI → cR → Prop} {Qx : Nat → cI → cR → Prop} (h : INV I R J) (q1 : 0 ≤ r → r < J 1000 14 → 0 ≤ a → a ≤ 9 → Q (rl J r a) I R) (q0 : ¬ ((0 ≤ r ∧ r < J 1000 14) ∧ 0 ≤ a ∧ a ≤ 9) → Qx 2 I R) : wX11_rule r a I R Q Qx := by
  have hb := vM_b h.2.1
  have hk := INV_k h
  refine c_reqRule h (fun c => ?_) (fun c => q0 (fun n => c n.1))
  have h65 := h.2.1.2.2.1
  have hv := h.1.2.2.2.2.2.2.2.1 r c.1 c.2
  have hg := h.2.1.2.2.2.1 r c.1 c.2
  have hr : isR (R (R 0 7 + 2) r) := rg_R (h.1.1.2.1 r c.1 (by omega))
  have q2 := q1 c.1 c.2
  have n3 := hv.2.2.2.1
  have cell : ∀ k, 0 ≤ k → k ≤ 4 → a = k + 4 → inR (a - 4) ∧ wX7_cellOrNone (R (R 0 7 + 2) r) (a - 4) I R (fun r I R => Q r I R) := fun k k0 k1 ek => by
    have q3 := q2 (by omega) (by omega)
    unfold rl at q3
    rw [if_neg (by omega), if_pos (by omega)] at q3
    refine ⟨by unfold inR; omega, fun e => by omega, fun e => ⟨fun e2 => ?_, fun e2 => ⟨by omega, ?_⟩⟩⟩
    · rw [n3] at e2
      rw [if_neg (by omega)] at q3; exact q3
    · rw [n3] at e2
      rw [if_pos (by omega)] at q3
      rw [hv.2.2.2.2.1 (a - 4) (by omega) (by omega), show 4 + (a - 4) = a by omega]; exact q3
  refine ⟨by omega, fun e => ?_, fun e => ?_, fun e => ?_, fun e => ?_, fun e => cell 0 (by decide) (by decide) e, fun e => cell 1 (by decide) (by decide) e, fun e => cell 2 (by decide) (by decide) e, fun e => cell 3 (by decide) (by decide) e, fun e => cell 4 (by decide) (by decide) e, fun e => ?_, fun e0 e1 e2 e3 e4 e5 e6 e7 e8 e9 => q0 (by omega)⟩
  · subst e; have q3 := q2 (by decide) (by decide); unfold rl at q3; rw [if_pos (by decide)] at q3; rw [hv.1]; exact q3
  · subst e; have q3 := q2 (by decide) (by decide); unfold rl at q3; rw [if_pos (by decide)] at q3; rw [hv.2.1]; exact q3
  · subst e; have q3 := q2 (by decide) (by decide); unfold rl at q3; rw [if_pos (by decide)] at q3; rw [hv.2.2.1]; exact q3
  · subst e; have q3 := q2 (by decide) (by decide); unfold rl at q3; rw [if_pos (by decide)] at q3; rw [hv.2.2.2.1]; exact q3
  · subst e
    have q3 := q2 (by decide) (by decide); unfold rl at q3; rw [if_neg (by decide), if_neg (by decide)] at q3
    refine c_brk (m := vM J) hv hg hb.2.1 (fun c c0 c1 => by rw [(h.1.2.2.2.2.2.2.2.2 c c0 (by omega)).1]; exact INV_g h c c0 c1) (by rw [h.1.2.2.2.2.2.1]; exact hk) ?_
    rw [h.1.2.2.2.2.2.1, b2_c (br_cg hg (w := J 1020) (fun c c0 c1 => (h.1.2.2.2.2.2.2.2.2 c c0 (by omega)).1))]
    by_cases b : br (mr J 1015 r) (J 1000 13) (J 1020)
    · rw [b2_t b] at q3 ⊢; exact ⟨fun n => absurd n (by decide), fun _ => q3⟩
    · rw [b2_f b] at q3 ⊢; exact ⟨fun _ => q3, fun n => absurd rfl n⟩
end TL
