/-! ===== count, rule ===== -/
section TL2
variable {I : cI} {R : cR} {J : cI}
theorem st_count {a : Int} (h : INV I R J) : wX11_count a I R (okN (wX12_count a J)) (okX (xf 0 0 1) (wX12_count a J)) := by
  have h0 := INV_0 (v := 0) h
  refine c_count (J := up2 J 1000 0 0) h0 (fun a0 a1 => ?_) (fun n => ⟨by decide, ?_⟩)
  · intro J1 e1
    subst e1
    refine m_isIn ?_
    rw [b2_t ⟨a0, a1⟩]
    exact ⟨fun z => absurd z (by decide), fun _ => m_counted h0 a0 a1 ⟨u2e, rfl, h0⟩⟩
  · intro J1 e1
    subst e1
    refine m_isIn ?_
    rw [b2_f n]
    exact ⟨fun _ => m_no ⟨u2e, INV_0 h0⟩, fun z => absurd rfl z⟩
theorem st_rule {a b : Int} (h : INV I R J) : wX11_rule a b I R (okN (wX12_rule a b J)) (okX (xf 0 0 1) (wX12_rule a b J)) := by
  have h0 := INV_0 (v := 0) h
  have h65 := h0.2.1.2
  refine c_rule (J := up2 J 1000 0 0) h0 (fun r0 r1 a0 a1 => ?_) (fun n => ⟨by decide, ?_⟩)
  · intro J1 e1
    subst e1
    refine m_isRule h65.1 h65.2.1 ?_
    rw [b2_t ⟨r0, r1⟩]
    refine ⟨fun z => absurd z (by decide), fun _ => m_isIn ?_⟩
    rw [b2_t ⟨a0, a1⟩]
    exact ⟨fun z => absurd z (by decide), fun _ => m_ruleTold h0 r0 r1 a0 a1 ⟨u2e, rfl, h0⟩⟩
  · intro J1 e1
    subst e1
    refine m_isRule h65.1 h65.2.1 ?_
    have no : wX12_rule_32 (fun (_ : Int) J' => J' 1000 0 = xf 0 0 1 2 ∧ INV I R J') a b (up2 J 1000 0 0) := m_no ⟨u2e, INV_0 h0⟩
    by_cases c : 0 ≤ a ∧ a < up2 J 1000 0 0 1000 14
    · rw [b2_t c]
      refine ⟨fun z => absurd z (by decide), fun _ => m_isIn ?_⟩
      rw [b2_f (fun q => n ⟨c, q⟩)]
      exact ⟨fun _ => no, fun z => absurd rfl z⟩
    · rw [b2_f c]
      exact ⟨fun _ => no, fun z => absurd rfl z⟩
end TL2
