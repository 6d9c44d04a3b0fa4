/-! ===== more calls ===== -/
section ST3
variable {I : cI} {R : cR} {J : cI}
theorem st_count {a : Int} (h : INV I R J) : wX11_count a I R (okN (wX12_count a J)) (okX (xf 0 0 1) (wX12_count a J)) := by
  have h0 := INV_0 (v := 0) h
  have ev : cv (up2 J 1000 0 0) a = cv J a := by
    unfold cv
    rw [vM_0, mr_fr (J0 := J) (J := up2 J 1000 0 0) (b := 1015) (fun b x q1 q2 => u2a (by omega)), u2x (by decide), u2x (by decide), u2x (by decide), u2x (by decide), u2x (by decide), u2x (by decide), u2x (by decide), u2x (by decide), show up2 J 1000 0 0 1020 = J 1020 from funext fun x => u2a (by decide)]
  refine c_count h (fun a0 a1 J1 e1 => m_isIn ?_) (fun n => ⟨by decide, fun J1 e1 => m_isIn ?_⟩)
  · subst e1
    rw [b2_t ⟨a0, a1⟩]
    exact ⟨fun w => absurd w (by decide), fun _ => m_counted h0 a0 a1 ⟨u2e, ev.symm, h0⟩⟩
  · subst e1
    rw [b2_f n]
    exact ⟨fun _ => m_no ⟨u2e, INV_0 h0⟩, fun w => absurd rfl w⟩
theorem st_rule {a b : Int} (h : INV I R J) : wX11_rule a b I R (okN (wX12_rule a b J)) (okX (xf 0 0 1) (wX12_rule a b J)) := by
  have h0 := INV_0 (v := 0) h
  have ev : rl (up2 J 1000 0 0) a b = rl J a b := by
    unfold rl
    rw [mr_fr (J0 := J) (J := up2 J 1000 0 0) (b := 1015) (fun b x q1 q2 => u2a (by omega)), u2x (by decide), show up2 J 1000 0 0 1020 = J 1020 from funext fun x => u2a (by decide)]
  have e14 : up2 J 1000 0 0 1000 14 = J 1000 14 := u2x (by decide)
  have hn := h.2.1.2
  refine c_rule h (fun r0 r1 a0 a1 J1 e1 => m_isRule ?_ ?_ ?_) (fun n => ⟨by decide, fun J1 e1 => m_isRule ?_ ?_ ?_⟩)
  · subst e1; rw [e14]; exact hn.1
  · subst e1; rw [e14]; exact hn.2.1
  · subst e1
    rw [e14, b2_t ⟨r0, r1⟩]
    refine ⟨fun w => absurd w (by decide), fun _ => m_isIn ?_⟩
    rw [b2_t ⟨a0, a1⟩]
    exact ⟨fun w => absurd w (by decide), fun _ => m_ruleTold h0 r0 (by rw [e14]; exact r1) a0 a1 ⟨u2e, ev.symm, h0⟩⟩
  · subst e1; rw [e14]; exact hn.1
  · subst e1; rw [e14]; exact hn.2.1
  · subst e1
    rw [e14]
    by_cases c : 0 ≤ a ∧ a < J 1000 14
    · rw [b2_t c]
      refine ⟨fun w => absurd w (by decide), fun _ => m_isIn ?_⟩
      rw [b2_f (fun w => n ⟨c, w⟩)]
      exact ⟨fun _ => m_no ⟨u2e, INV_0 h0⟩, fun w => absurd rfl w⟩
    · rw [b2_f c]
      exact ⟨fun _ => m_no ⟨u2e, INV_0 h0⟩, fun w => absurd rfl w⟩
theorem c_empty {p : Nat} {Q : cI → cR → Prop} (hQ : ∀ I', (∀ a x, ¬ (a = p + 1 ∧ 0 ≤ x ∧ x < 25) → I' a x = I a x) → (∀ c, 0 ≤ c → c < 25 → I' (p + 1) c = 0) → Q I' R) : wX4_emptyGrid p I R Q := by
  have L : ∀ (m : Nat) (x : Int) (I' : cI), 0 ≤ x → x ≤ 25 → 25 - x < m → (∀ a x, ¬ (a = p + 1 ∧ 0 ≤ x ∧ x < 25) → I' a x = I a x) → (∀ c, 0 ≤ c → c < x → I' (p + 1) c = 0) → wX4_emptyGrid_2 Q p m x I' R := by
    intro m
    induction m with
    | zero => intro x I' h0 h1 h2; omega
    | succ m ih =>
      intro x I' x0 x1 x2 h1 h2
      show wbX4_emptyGrid_2 Q p (wX4_emptyGrid_2 Q p m) x I' R
      unfold wbX4_emptyGrid_2
      refine ⟨fun e => hQ I' h1 (fun c c0 c1 => h2 c c0 (by omega)), fun e => ⟨by omega, fun J1 f1 => ⟨by unfold inR; omega, fun z hz => ?_⟩⟩⟩
      subst f1; subst hz
      refine ih (x + 1) _ (by omega) (by omega) (by omega) (fun a y q => ?_) (fun c c0 c1 => ?_)
      · rw [u2n (by omega)]; exact h1 a y q
      · by_cases ec : c = x
        · subst ec; exact u2e
        · rw [u2x ec]; exact h2 c c0 (by omega)
  exact ⟨26, L 26 0 I (by decide) (by decide) (by decide) (fun _ _ _ => rfl) (fun c c0 c1 => by omega)⟩
theorem st_clear (h : INV I R J) : wX11_clear I R (okN (wX12_clear J)) := by
  have h0 := INV_0 (v := 0) h
  have hb := vM_b h.2.1
  have hp : R 0 7 = 85 ∨ R 0 7 = 89 := h.1.1.1
  have hM : I (R 0 7) 0 * I (R 0 7) 1 = vM J := by unfold vM; rw [h.1.2.2.2.1, h.1.2.2.2.2.1]
  unfold wX11_clear
  refine c_filled (by rw [hM]; exact hb.2.1) (by rw [hM]; exact hb.1) (c_empty (fun I' f1 f2 J1 e1 => ?_))
  rw [hM, cF_cg (q := fun c => ¬ J 1020 c = 0) (fun c c0 c1 => by rw [(h.1.2.2.2.2.2.2.2.2 c c0 (by omega)).1])]
  subst e1
  generalize hJ0 : up2 J 1000 0 0 = J0 at *
  have eM : vM J0 = vM J := by rw [← hJ0]; exact vM_0
  have e20 : ∀ c, J0 1020 c = J 1020 c := fun c => by rw [← hJ0]; exact u2a (by decide)
  have e00 : J0 1000 0 = 0 := by rw [← hJ0]; exact u2e
  have ec : J0 1000 11 * J0 1000 12 = vM J := eM
  refine m_filled (by rw [ec]; exact hb.2.1) (by rw [ec]; exact hb.1) (fun c c0 c1 => by rw [e20]; exact (INV_g h c c0 (by omega)).1) ⟨26, ?_⟩
  rw [ec, cF_cg (p := fun c => ¬ J0 1020 c = 0) (q := fun c => ¬ J 1020 c = 0) (fun c _ _ => by rw [e20])]
  have L : ∀ (m : Nat) (x : Int) (J' : cI), 0 ≤ x → x ≤ 25 → 25 - x < m → (∀ a x, ¬ (a = 1020 ∧ 0 ≤ x ∧ x < 25) → J' a x = J0 a x) → (∀ c, 0 ≤ c → c < x → J' 1020 c = 0) → wX12_clear_12 (fun b J => J 1000 0 = 0 ∧ cF (fun c => ¬ J✝ 1020 c = 0) 0 (vM J✝) = b ∧ INV I' R J) m (cF (fun c => ¬ J 1020 c = 0) 0 (vM J)) x J' := by
    sorry
  sorry
end ST3
