/-! ===== the calls, one by one ===== -/
section ST2
variable {I : cI} {R : cR} {J : cI}
def xf (a b c : Int) (k : Nat) : Int := if k = 0 then a else if k = 1 then b else if k = 2 then c else 0
theorem st_errorAt (h : INV I R J) : wX11_errorAt I R (okN (wX12_errorAt J)) := by
  unfold wX11_errorAt okN
  intro J1 e1
  subst e1
  exact ⟨u2e, by rw [u2x (by decide)]; exact h.2.2.2.2.2.2, INV_0 h⟩
theorem st_trim {a : Int} (h : INV I R J) : wX11_trim a I R (okN (wX12_trim a J)) (okX (xf 0 1 0) (wX12_trim a J)) := by
  have hT := h.2.2.2.1
  have no : ¬ (0 ≤ a ∧ a ≤ J 1000 2) → okX (xf 0 1 0) (wX12_trim a J) 1 I R := fun n => ⟨by decide, fun J1 e1 => m_isIn (by
    subst e1
    rw [b2_f (by rw [u2x (by decide)]; exact n)]
    exact ⟨fun w => absurd rfl w, fun _ => m_no ⟨u2e, INV_0 (INV_0 h)⟩⟩)⟩
  unfold wX11_trim wX11_trim_15
  rw [hT.1]
  refine ⟨fun e => no (by omega), fun e => ⟨fun e2 I1 f1 J1 e1 => m_isIn ?_, fun e2 => no (by omega)⟩⟩
  subst e1
  rw [b2_t (by rw [u2x (by decide)]; omega)]
  refine ⟨fun _ J8 e8 => ?_, fun w => absurd w (by decide)⟩
  subst e8; subst f1
  have h0 := INV_0 (v := 0) h
  refine ⟨by rw [u2x (by decide), u2e], rfl, ?_⟩
  obtain ⟨p, v, s, t, w, k, x⟩ := h0
  have j : smP (up2 J 1000 0 0) (up2 (up2 J 1000 0 0) 1000 2 a) := ⟨fun b y q1 q2 => u2a (by omega), u2x (by decide), u2x (by decide), u2x (by decide), u2x (by decide)⟩
  refine ⟨iP_fr p v (fun b y q => u2a (by omega)) j, vP_fr v j, iS_fr s (fun y => u2a (by decide)) (fun y => u2a (by decide)) (u2a (by decide)) (u2a (by decide)) (fun y => u2a (by decide)) (u2x (by decide)) (u2x (by decide)), ?_, iW_fr w (fun y => u2a (by decide)) (u2a (by decide)) (fun y => u2a (by decide)) (u2x (by decide)), iK_fr k (fun b y q1 q2 => u2a (by omega)) (u2a (by decide)) (u2a (by decide)) (fun y => u2a (by decide)) (u2x (by decide)) (u2x (by decide)) (smP_M j), iE_fr x (u2a (by decide)) (u2x (by decide))⟩
  refine ⟨by rw [u2e, u2e], by rw [u2e]; omega, by rw [u2e]; have := hT.2.2.1; omega, fun y y0 y1 => ?_⟩
  rw [u2e] at y1
  rw [u2a (by decide), u2a (by decide), u2a (by decide)]
  exact hT.2.2.2 y y0 (by omega)
theorem m_refuse {a : Int} {f : Nat → Int} {k : Nat} {J0 : cI} (h : INV I R J0) (hf : 1 ≤ f k) (e : a = f k) : wX12_no a J0 (fun r1 J2 => (fun (_ : Int) J => J 1000 0 = f k ∧ INV I R J) r1 J2) := m_no ⟨by rw [u2e]; exact e, INV_0 h⟩
theorem vM_0 {v : Int} : vM (up2 J 1000 0 v) = vM J := by unfold vM; rw [u2x (by decide), u2x (by decide)]
theorem st_value {a : Int} (h : INV I R J) : wX11_value a I R (okN (wX12_value a J)) (okX (xf 0 0 1) (wX12_value a J)) := by
  have hb := vM_b h.2.1
  refine c_reqCell h (fun c => ⟨by omega, fun J1 e1 => ?_⟩) (fun c => ⟨by decide, fun J1 e1 => ?_⟩)
  · subst e1
    refine m_isCell (by rw [vM_0]; exact hb.1) (by rw [vM_0]; exact hb.2.1) ?_
    rw [b2_t (by rw [vM_0]; exact c)]
    refine ⟨fun w => absurd w (by decide), fun _ => ⟨by omega, u2e, ?_, INV_0 h⟩⟩
    rw [u2a (by decide)]; exact (h.1.2.2.2.2.2.2.2.2 a (by omega) (by omega)).1
  · subst e1
    refine m_isCell (by rw [vM_0]; exact hb.1) (by rw [vM_0]; exact hb.2.1) ?_
    rw [b2_f (by rw [vM_0]; exact c)]
    exact ⟨fun _ => m_no ⟨u2e, INV_0 (INV_0 h)⟩, fun w => absurd rfl w⟩
theorem st_possible {a : Int} (h : INV I R J) : wX11_possible a I R (okN (wX12_possible a J)) (okX (xf 0 0 1) (wX12_possible a J)) := by
  have hb := vM_b h.2.1
  refine c_reqCell h (fun c => ⟨by omega, fun J1 e1 => ?_⟩) (fun c => ⟨by decide, fun J1 e1 => ?_⟩)
  · subst e1
    refine m_isCell (by rw [vM_0]; exact hb.1) (by rw [vM_0]; exact hb.2.1) ?_
    rw [b2_t (by rw [vM_0]; exact c)]
    refine ⟨fun w => absurd w (by decide), fun _ => ⟨by omega, u2e, ?_, INV_0 h⟩⟩
    rw [u2a (by decide)]; exact (h.2.2.1.1 a (by omega) (by omega)).1
  · subst e1
    refine m_isCell (by rw [vM_0]; exact hb.1) (by rw [vM_0]; exact hb.2.1) ?_
    rw [b2_f (by rw [vM_0]; exact c)]
    exact ⟨fun _ => m_no ⟨u2e, INV_0 (INV_0 h)⟩, fun w => absurd rfl w⟩
theorem st_byteAt {a : Int} (h : INV I R J) : wX11_byteAt a I R (okN (wX12_byteAt a J)) (okX (xf 0 0 1) (wX12_byteAt a J)) := by
  have hW := h.2.2.2.2.1
  have no : ¬ (0 ≤ a ∧ a < J 1000 10) → okX (xf 0 0 1) (wX12_byteAt a J) 2 I R := fun n => ⟨by decide, fun J1 e1 => by
    subst e1
    rw [u2x (by decide)]
    have := hW.2
    refine ⟨by unfold inR; omega, m_isIn ?_⟩
    rw [b2_f (by omega)]
    exact ⟨fun _ => m_no ⟨u2e, INV_0 (INV_0 h)⟩, fun w => absurd rfl w⟩⟩
  unfold wX11_byteAt wX11_byteAt_15
  rw [hW.1]
  refine ⟨fun e => no (by omega), fun e => ⟨fun e2 => ⟨by have := hW.2.2.1; omega, fun J1 e1 => ?_⟩, fun e2 => no (by omega)⟩⟩
  subst e1
  rw [u2x (by decide)]
  have := hW.2
  refine ⟨by unfold inR; omega, m_isIn ?_⟩
  rw [b2_t (by omega)]
  refine ⟨fun w => absurd w (by decide), fun _ => ⟨by omega, u2e, ?_, INV_0 h⟩⟩
  rw [u2a (by decide)]; exact hW.2.2.2 a (by omega) e2
theorem st_put {a b : Int} (h : INV I R J) : wX11_put a b I R (okN (wX12_put__ a b J)) (okX (xf 0 2 1) (wX12_put__ a b J)) := by
  have hb := vM_b h.2.1
  have hp : R 0 7 = 85 ∨ R 0 7 = 89 := h.1.1.1
  refine c_reqCell h (fun c => ?_) (fun c => ⟨by decide, fun J1 e1 => ?_⟩)
  · have no : ¬ (0 ≤ b ∧ b ≤ J 1000 13) → okX (xf 0 2 1) (wX12_put__ a b J) 1 I R := fun n => ⟨by decide, fun J1 e1 => by
      subst e1
      refine m_isCell (by rw [vM_0]; exact hb.1) (by rw [vM_0]; exact hb.2.1) ?_
      rw [b2_t (by rw [vM_0]; exact c)]
      refine ⟨fun _ => m_isIn ?_, fun w => absurd w (by decide)⟩
      rw [b2_f (by rw [u2x (by decide)]; exact n)]
      exact ⟨fun w => absurd rfl w, fun _ => m_no ⟨u2e, INV_0 (INV_0 h)⟩⟩⟩
    unfold wX11_put_20
    rw [h.1.2.2.2.2.2.1]
    refine ⟨fun e => no (by omega), fun e => ⟨fun e2 => ⟨by omega, fun z hz => ⟨by omega, fun I10 e10 J1 e1 => ?_⟩⟩, fun e2 => no (by omega)⟩⟩
    subst e1
    refine m_isCell (by rw [vM_0]; exact hb.1) (by rw [vM_0]; exact hb.2.1) ?_
    rw [b2_t (by rw [vM_0]; exact c)]
    refine ⟨fun _ => m_isIn ?_, fun w => absurd w (by decide)⟩
    rw [b2_t (by rw [u2x (by decide)]; omega)]
    refine ⟨fun _ => ⟨by omega, fun y hy => ⟨by omega, fun J16 e16 => ⟨?_, ?_, ?_⟩⟩⟩, fun w => absurd w (by decide)⟩
    · subst e16; rw [u2a (by decide), u2e]
    · subst hy; subst hz; rw [u2a (by decide)]; exact (h.1.2.2.2.2.2.2.2.2 a (by omega) (by omega)).1
    · have h0 := INV_0 (v := 0) h
      generalize up2 J 1000 0 0 = J0 at *
      obtain ⟨⟨a1, a2, a3, a4, a5, a6, a7, a8, a9⟩, v, s, t, w, k, x⟩ := h0
      subst e16; subst e10
      have er : mr (up2 J0 1020 a b) 1015 = mr J0 1015 := mr_fr (fun a x q1 q2 => u2a (by omega))
      have eM : vM (up2 J0 1020 a b) = vM J0 := by unfold vM; rw [u2a (by decide), u2a (by decide)]
      refine ⟨⟨a1, a2, a3, ?_, ?_, ?_, ?_, ?_, fun y y0 y1 => ?_⟩, ?_, iS_fr s (fun y => u2a (by omega)) (fun y => u2a (by omega)) (u2a (by omega)) (u2a (by omega)) (fun y => u2a (by decide)) (u2a (by decide)) (u2a (by decide)), iT_fr t (fun y => u2a (by omega)) (u2a (by omega)) (fun y => u2a (by decide)) (u2a (by decide)), iW_fr w (fun y => u2a (by omega)) (u2a (by omega)) (fun y => u2a (by decide)) (u2a (by decide)), iK_fr k (fun b y q1 q2 => u2a (by omega)) (u2a (by omega)) (u2a (by omega)) (fun y => u2a (by decide)) (u2a (by decide)) (u2a (by decide)) eM, iE_fr x (u2a (by omega)) (u2a (by decide))⟩
      · rw [u2a (by omega), u2a (by decide)]; exact a4
      · rw [u2a (by omega), u2a (by decide)]; exact a5
      · rw [u2a (by omega), u2a (by decide)]; exact a6
      · rw [u2a (by omega), u2a (by decide)]; exact a7
      · rw [u2a (by decide), er]; exact pv_fr a1 v.2.2.1 (fun a x q => u2a (by omega)) a8
      · rw [u2a (b := 1000) (by decide)]
        by_cases ey : y = a
        · subst ey; rw [u2e, u2e, ← a6, h.1.2.2.2.2.2.1]; exact ⟨rfl, by omega, e2⟩
        · rw [u2x ey, u2x ey]; exact a9 y y0 y1
      · unfold vP at v ⊢
        rw [er, eM, u2a (by decide), u2a (by decide), u2a (by decide), u2a (by decide)]; exact v
  · subst e1
    refine m_isCell (by rw [vM_0]; exact hb.1) (by rw [vM_0]; exact hb.2.1) ?_
    rw [b2_f (by rw [vM_0]; exact c)]
    exact ⟨fun w => absurd rfl w, fun _ => m_no ⟨u2e, INV_0 (INV_0 h)⟩⟩
theorem st_solution {a b : Int} (h : INV I R J) : wX11_solution a b I R (okN (wX12_solution a b J)) (okX (xf 0 0 1) (wX12_solution a b J)) := by
  have hb := vM_b h.2.1
  have hK := h.2.2.2.2.2.1
  have h28 : (up2 J 1000 0 0) 1000 28 = J 1000 28 := u2x (by decide)
  have k0 := hK.2.1
  have k1 := hK.2.2.1
  have no1 : ¬ (0 ≤ a ∧ a < J 1000 28) → okX (xf 0 0 1) (wX12_solution a b J) 2 I R := fun n => ⟨by decide, fun J1 e1 => by
    subst e1
    rw [h28]
    refine ⟨by unfold inR; omega, m_isIn ?_⟩
    rw [b2_f (by omega)]
    exact ⟨fun _ => m_no ⟨u2e, INV_0 (INV_0 h)⟩, fun w => absurd rfl w⟩⟩
  unfold wX11_solution wX11_solution_15
  rw [hK.1]
  refine ⟨fun e => no1 (by omega), fun e => ⟨fun e2 => ?_, fun e2 => no1 (by omega)⟩⟩
  refine c_reqCell h (fun c => ⟨by omega, by omega, fun J1 e1 => ?_⟩) (fun c => ⟨by decide, fun J1 e1 => ?_⟩)
  · subst e1
    rw [h28]
    refine ⟨by unfold inR; omega, m_isIn ?_⟩
    rw [b2_t (by omega)]
    refine ⟨fun w => absurd w (by decide), fun _ => m_isCell (by rw [vM_0]; exact hb.1) (by rw [vM_0]; exact hb.2.1) ?_⟩
    rw [b2_t (by rw [vM_0]; exact c)]
    refine ⟨fun w => absurd w (by decide), fun _ => ⟨by omega, u2e, ?_, INV_0 h⟩⟩
    rw [u2a (by decide)]; exact hK.2.2.2.2 a b (by omega) e2 c.1 c.2
  · subst e1
    rw [h28]
    refine ⟨by unfold inR; omega, m_isIn ?_⟩
    rw [b2_t (by omega)]
    refine ⟨fun w => absurd w (by decide), fun _ => m_isCell (by rw [vM_0]; exact hb.1) (by rw [vM_0]; exact hb.2.1) ?_⟩
    rw [b2_f (by rw [vM_0]; exact c)]
    exact ⟨fun _ => m_no ⟨u2e, INV_0 (INV_0 h)⟩, fun w => absurd rfl w⟩
end ST2
