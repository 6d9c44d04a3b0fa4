/-! ===== the calls, one by one ===== -/
section ST2
variable {I : cI} {R : cR} {J : cI}
def xf (a b c : Int) (k : Nat) : Int := if k = 0 then a else if k = 1 then b else if k = 2 then c else 0
theorem st_errorAt (h : INV I R J) : wX11_errorAt I R (okN (wX12_errorAt J)) := by
  unfold wX11_errorAt okN
  intro J1 e1
  subst e1
  exact ⟨u2e, by rw [u2x (by decide)]; exact h.2.2.2.2.2.2, INV_0 h⟩
theorem st_trim {a : Int} (h : INV I R J) : wX11_trim a I R (okN (wX12_trim a J)) (okX (xf 0 1 0) (wX12_trim a J)) := by
  have hT := h.2.2.2.1
  have no : ¬ (0 ≤ a ∧ a ≤ J 1000 2) → okX (xf 0 1 0) (wX12_trim a J) 1 I R := fun n => ⟨by decide, fun J1 e1 => m_isIn (by
    subst e1
    rw [b2_f (by rw [u2x (by decide)]; exact n)]
    exact ⟨fun w => absurd rfl w, fun _ => m_no ⟨u2e, INV_0 (INV_0 h)⟩⟩)⟩
  unfold wX11_trim wX11_trim_15
  rw [hT.1]
  refine ⟨fun e => no (by omega), fun e => ⟨fun e2 I1 f1 J1 e1 => m_isIn ?_, fun e2 => no (by omega)⟩⟩
  subst e1
  rw [b2_t (by rw [u2x (by decide)]; omega)]
  refine ⟨fun _ J8 e8 => ?_, fun w => absurd w (by decide)⟩
  subst e8; subst f1
  have h0 := INV_0 (v := 0) h
  refine ⟨by rw [u2x (by decide), u2e], rfl, ?_⟩
  obtain ⟨p, v, s, t, w, k, x⟩ := h0
  have j : smP (up2 J 1000 0 0) (up2 (up2 J 1000 0 0) 1000 2 a) := ⟨fun b y q1 q2 => u2a (by omega), u2x (by decide), u2x (by decide), u2x (by decide), u2x (by decide)⟩
  refine ⟨iP_fr p v (fun b y q => u2a (by omega)) j, vP_fr v j, iS_fr s (fun y => u2a (by decide)) (fun y => u2a (by decide)) (u2a (by decide)) (u2a (by decide)) (fun y => u2a (by decide)) (u2x (by decide)) (u2x (by decide)), ?_, iW_fr w (fun y => u2a (by decide)) (u2a (by decide)) (fun y => u2a (by decide)) (u2x (by decide)), iK_fr k (fun b y q1 q2 => u2a (by omega)) (u2a (by decide)) (u2a (by decide)) (fun y => u2a (by decide)) (u2x (by decide)) (u2x (by decide)) (smP_M j), iE_fr x (u2a (by decide)) (u2x (by decide))⟩
  refine ⟨by rw [u2e, u2e], by rw [u2e]; omega, by rw [u2e]; have := hT.2.2.1; omega, fun y y0 y1 => ?_⟩
  rw [u2e] at y1
  rw [u2a (by decide), u2a (by decide), u2a (by decide)]
  exact hT.2.2.2 y y0 (by omega)
end ST2
