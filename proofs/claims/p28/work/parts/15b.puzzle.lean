/-! ===== the law's puzzles ===== -/
/-- the rules that these are -/
def RU (rds : List rdT) : Int → Int → Int := mr (jR (fun _ _ => 0) (fun i => sh (rds.getD i.toNat rd0))) 1015
theorem RU_e {rds : List rdT} {i : Int} : e9 (RU rds i) (sh (rds.getD i.toNat rd0)) := jR_e
theorem RU_j {J : cI} {rds : List rdT} : mr (jR J (fun i => sh (rds.getD i.toNat rd0))) 1015 = RU rds := by
  funext i t
  rfl
def PZ (J : cI) (rds : List rdT) : Prop := J 1000 11 = 2 ∧ J 1000 12 = 2 ∧ J 1000 13 = 4 ∧ J 1000 14 = rds.length ∧ mr J 1015 = RU rds
theorem INV_e9 {I : cI} {R : cR} {J : cI} {ρ : Int → Int → Int} (h : INV I R J) (e : ∀ i, 0 ≤ i → i < J 1000 14 → e9 (mr J 1015 i) (ρ i)) : INV I R (jR J ρ) := by
  obtain ⟨p, v, s, t, w, k, x⟩ := h
  have o : ∀ {b : Nat} {x : Int}, (b < 1015 ∨ 1019 < b) → jR J ρ b x = J b x := jR_o
  have eM : vM (jR J ρ) = vM J := rfl
  have ee : ∀ i, 0 ≤ i → i < J 1000 14 → e9 (mr J 1015 i) (mr (jR J ρ) 1015 i) := fun i i0 i1 => e9_t (e i i0 i1) (e9_s jR_e)
  refine ⟨?_, ?_, s, t, w, k, x⟩
  · obtain ⟨a1, a2, a3, a4, a5, a6, a7, a8, a9⟩ := p
    exact ⟨a1, a2, a3, a4, a5, a6, a7, pv_e v.2.2.2.1 ee a8, a9⟩
  · obtain ⟨v1, v2, v3, v4, v5⟩ := v
    refine ⟨v1, v2, v3, gp_e ee v4, ?_⟩
    have c : cF (fun i => ¬ mr (jR J ρ) 1015 i 0 = 9) 0 (J 1000 14) = cF (fun i => ¬ mr J 1015 i 0 = 9) 0 (J 1000 14) := cF_cg (fun i i0 i1 => by rw [ee i i0 i1 0 (by decide) (by decide) (Or.inl (by decide))])
    show cF (fun i => ¬ mr (jR J ρ) 1015 i 0 = 9) 0 (J 1000 14) ≤ 40
    rw [c]; exact v5
/-- the puzzle is made of these rules -/
theorem INV_RU {I : cI} {R : cR} {J : cI} {rds : List rdT} (h : INV I R J) (e11 : J 1000 11 = 2) (e12 : J 1000 12 = 2) (e13 : J 1000 13 = 4) (e14 : J 1000 14 = rds.length) (e : ∀ j : Nat, j < rds.length → e9 (mr J 1015 j) (sh (rds.getD j rd0))) : INV I R (jR J (fun i => sh (rds.getD i.toNat rd0))) ∧ PZ (jR J (fun i => sh (rds.getD i.toNat rd0))) rds := by
  refine ⟨INV_e9 h (fun i i0 i1 => ?_), e11, e12, e13, e14, RU_j⟩
  have := e i.toNat (by omega)
  rw [show ((i.toNat : Nat) : Int) = i by omega] at this
  exact this
section SE
variable {I : cI} {R : cR} {J : cI} {a : Int}
/-- the solutions of a search, most of them -/
noncomputable def sJ (a : Int) (J : cI) : List (Int → Int) := aS (sPr a 4 (J 1000 14) (-1) (mr J 1015) (gJ J) (fun _ => 1)) 4 0 (fun _ => 0)
theorem s_dfs (h : INV I R J) (e11 : J 1000 11 = 2) (e12 : J 1000 12 = 2) (e13 : J 1000 13 = 4) (a0 : 1 ≤ a) (a1 : a ≤ 30) :
    vM J = 4 ∧ goP (sPr a 4 (J 1000 14) (-1) (mr J 1015) (gJ J) (fun _ => 1)) ∧ gp 4 (J 1000 14) (mr J 1015) ∧
    rsl (dJ a J) = (if ((sJ a J).length : Int) < a then ((sJ a J).length : Int) else a) ∧ fnd (dJ a J) = (if ((sJ a J).length : Int) < a then ((sJ a J).length : Int) else a) ∧ ∀ i, 0 ≤ i → i < fnd (dJ a J) → (dJ a J).2.2.2.2 i = (sJ a J).getD i.toNat (fun _ => 0) := by
  have eM : vM J = 4 := by unfold vM; rw [e11, e12]; rfl
  have go := goJ (a := a) h (by omega) a0 a1
  rw [e13] at go
  have d := dfs4 (L := sJ a J) go rfl rfl
  have e : dJ a J = dfs (sPr a 4 (J 1000 14) (-1) (mr J 1015) (gJ J) (fun _ => 1)) 4 0 st0 := by
    unfold dJ; rw [eM, e13]; rfl
  have g := h.2.1.2.2.2.1
  rw [eM] at g
  rw [e]
  have e1 : (sPr a 4 (J 1000 14) (-1) (mr J 1015) (gJ J) (fun _ => 1)).1 = a := rfl
  rw [e1] at d
  refine ⟨eM, go, g, d.1, d.2.1, fun i i0 i1 => d.2.2 i i0 ?_⟩
  rw [← d.2.1]; exact i1
/-- a search for two finds just the one -/
theorem s_one {x : Int → Int} (h : INV I R J) (e11 : J 1000 11 = 2) (e12 : J 1000 12 = 2) (e13 : J 1000 13 = 4) (g0 : ∀ c, J 1020 c = 0) (h3 : g3 (J 1000 14) (mr J 1015)) (hu : UQ (J 1000 14) (mr J 1015) x) : rsl (dJ 2 J) = 1 ∧ fnd (dJ 2 J) = 1 ∧ (dJ 2 J).2.2.2.2 0 = x := by
  obtain ⟨eM, go, g, d1, d2, d3⟩ := s_dfs (a := 2) h e11 e12 e13 (by decide) (by decide)
  have eg : gJ J = fun _ => 0 := by
    funext c
    unfold gJ
    split
    · exact g0 c
    · rfl
  have hx := (hu x).mpr rfl
  have eL : sJ 2 J = [x] := by
    unfold sJ
    rw [eg] at go ⊢
    exact one_of (aS_pw go 4 0 _ (by decide) (by decide)) (SL_mem go g hx) (fun y hy => (hu y).mp (mem_SL go g h3 hy))
  rw [eL] at d1 d2 d3
  have k : (if (([x] : List (Int → Int)).length : Int) < 2 then (([x] : List (Int → Int)).length : Int) else 2) = 1 := by
    rw [if_pos (by show (((1 : Nat) : Int)) < 2; decide)]; rfl
  rw [k] at d1 d2
  exact ⟨d1, d2, d3 0 (by decide) (by omega)⟩
end SE
theorem gm_0 {t : Int → Int} : ∀ (n : Nat) (c : Int), gm t (fun _ => 0) n c = 0 := by
  intro n
  induction n with
  | zero => intro c; rfl
  | succ n ih =>
    intro c
    unfold gm
    first
      | exact ih c
      | (split <;> first | rfl | exact ih c)
      | (unfold upF; split <;> first | rfl | exact ih c)
