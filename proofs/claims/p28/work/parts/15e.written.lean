/-! ===== the law: what is written is compiled ===== -/
theorem RT_by : ∀ r ∈ RT ++ ST, (byS (itT r)).length ≤ 20 ∧ ∀ x ∈ byS (itT r), 0 ≤ x ∧ x ≤ 255 := by decide +kernel
theorem hd_by : ∀ b : Bool, (byS (hdT b)).length ≤ 12 ∧ ∀ x ∈ byS (hdT b), 0 ≤ x ∧ x ≤ 255 := by decide +kernel
theorem txt_by {its : List rdT} {b : Bool} (h : ∀ r ∈ its, r ∈ RT ++ ST) : (byS (txt b its)).length ≤ 12 + 20 * its.length ∧ ∀ x ∈ byS (txt b its), 0 ≤ x ∧ x ≤ 255 := by
  have h1 := hd_by b
  have h2 : ∀ l : List rdT, (∀ r ∈ l, r ∈ RT ++ ST) → (l.flatMap (fun r => byS (itT r))).length ≤ 20 * l.length ∧ ∀ x ∈ l.flatMap (fun r => byS (itT r)), 0 ≤ x ∧ x ≤ 255 := by
    intro l
    induction l with
    | nil => intro _; exact ⟨Nat.zero_le _, fun x hx => (List.not_mem_nil hx).elim⟩
    | cons r l ih =>
      intro hl
      have q1 := RT_by r (hl r List.mem_cons_self)
      have q2 := ih (fun q hq => hl q (List.mem_cons_of_mem _ hq))
      rw [List.flatMap_cons]
      refine ⟨by rw [List.length_append, List.length_cons]; omega, fun x hx => ?_⟩
      rcases List.mem_append.mp hx with hx | hx
      · exact q1.2 x hx
      · exact q2.2 x hx
  have h3 := h2 its h
  unfold txt
  rw [byS_app, byS_its]
  refine ⟨by rw [List.length_append]; omega, fun x hx => ?_⟩
  rcases List.mem_append.mp hx with hx | hx
  · exact h1.2 x hx
  · exact h3.2 x hx
section WR
variable {I : cI} {R : cR} {J : cI} {rds its : List rdT} {b : Bool}
/-- a text of the law's is compiled -/
theorem z_comp {Q : Int → cI → cR → Prop} (h : INV I R J) (e2 : J 1000 2 = ((byS (txt b its)).length : Nat)) (eb : ∀ j : Nat, j < (byS (txt b its)).length → J 1001 j = (byS (txt b its)).getD j 0) (ok : ∀ r ∈ its, okI r) (hl : (byS (txt b its)).length ≤ 1600) (er : its.flatMap rlI = rds) (l40 : rds.length ≤ 40)
    (hQ : ∀ I' R' J', INV I' R' J' → PZ J' rds → (∀ c, J' 1020 c = 0) → Q 0 I' R') : wX11_compile I R Q := by
  have c := cmp_txt (T := J 1001) ok (by rw [er]; exact l40) hl eb
  rw [← e2] at c
  obtain ⟨c1, c2, c3, c4, c5, c6⟩ := c
  rw [er] at c5 c6
  refine k_compile h c4 (fun k I' R' ek h' => ?_)
  rw [← ek] at c1 c2 c3 c4 c5 c6
  rw [c1, c2, c3] at h'
  generalize hJ2 : jG (up2 J 1000 3 (-1)) 2 2 4 (cmp k).2.2.1 (cmp k).2.2.2 (fun _ => 0) = J2 at h'
  have k11 : J2 1000 11 = 2 := by rw [← hJ2]; rfl
  have k12 : J2 1000 12 = 2 := by rw [← hJ2]; rfl
  have k13 : J2 1000 13 = 4 := by rw [← hJ2]; rfl
  have k14 : J2 1000 14 = (cmp k).2.2.1 := by rw [← hJ2]; rfl
  have k20 : ∀ c, J2 1020 c = 0 := fun c => by rw [← hJ2]; rfl
  have kr : ∀ i, e9 (mr J2 1015 i) ((cmp k).2.2.2 i) := fun i => by rw [← hJ2]; exact jG_e
  have o : ∀ {a : Nat} {x : Int}, a ≠ 1030 → ¬ (a = 1000 ∧ (x = 28 ∨ x = 31 ∨ x = 32)) → ¬ (a = 1000 ∧ x = 2) → up2 (jT J2) 1000 2 0 a x = J2 a x := fun q1 q2 q3 => by rw [u2n q3, jT_o q1 q2]
  have em : mr (up2 (jT J2) 1000 2 0) 1015 = mr J2 1015 := mr_fr (fun a x z1 z2 => o (by omega) (by omega) (by omega))
  have f := INV_RU (rds := rds) h' (by rw [o (by decide) (by decide) (by decide)]; exact k11) (by rw [o (by decide) (by decide) (by decide)]; exact k12) (by rw [o (by decide) (by decide) (by decide)]; exact k13) (by rw [o (by decide) (by decide) (by decide), k14]; exact c5) (fun j hj => by rw [em]; exact e9_t (kr j) (c6 j hj))
  exact hQ I' R' _ f.1 f.2 (fun c => by rw [jR_o (Or.inr (by decide)), o (by decide) (by omega) (by omega)]; exact k20 c)
/-- the paper of a puzzle -/
theorem z_write {Q : Int → cI → cR → Prop} {Qx : Nat → cI → cR → Prop} (h : INV I R J) (hp : PZ J rds) (hr : ∀ r ∈ rds, r ∈ ST)
    (hQ : ∀ I' J', INV I' R J' → PZ J' rds → J' 1000 10 = ((byS (txt false rds)).length : Nat) → (∀ j : Nat, j < (byS (txt false rds)).length → J' 1009 j = (byS (txt false rds)).getD j 0) → Q ((byS (txt false rds)).length : Nat) I' R) : wX11_write I R Q Qx := by
  refine k_write h (by rw [hp.1]; decide) (fun T I' eT h' => ?_)
  rw [hp.1, hp.2.1, hp.2.2.1, hp.2.2.2.1, hp.2.2.2.2, show ((rds.length : Nat) : Int).toNat = rds.length by omega] at eT
  have pp := paper (ρ := RU rds) (rds := rds) (fun r hr' => ST_ok r (hr r hr')) (fun j hj => by have := RU_e (rds := rds) (i := (j : Int)); rw [show ((j : Int)).toNat = j by omega] at this; exact this)
  rw [← eT] at pp
  rw [pp.1]
  refine hQ I' (jW J T) h' ⟨by rw [jW_o (by decide) (by decide)]; exact hp.1, by rw [jW_o (by decide) (by decide)]; exact hp.2.1, by rw [jW_o (by decide) (by decide)]; exact hp.2.2.1, by rw [jW_o (by decide) (by decide)]; exact hp.2.2.2.1, ?_⟩ pp.1 pp.2
  rw [mr_fr (fun a x z1 z2 => jW_o (by omega) (by omega))]
  exact hp.2.2.2.2
theorem z_606 {sc : Int → Int} (h : INV I R J) (hp : PZ J rds) (hr : ∀ r ∈ rds, r ∈ ST) (l12 : rds.length ≤ 12) : wL_law_606 sc I R := by
  have hb := txt_by (b := false) (its := rds) (fun r q => List.mem_append_right _ (hr r q))
  unfold wL_law_606
  refine z_write h hp hr (fun I' J' h' hp' e10 e09 => ?_)
  generalize hl : byS (txt false rds) = l at *
  refine ⟨by omega, fun f7 _ => ⟨by omega, fun f12 e12 => ⟨l.length + 1, ?_⟩⟩⟩
  have L : ∀ (m : Nat) (x12 : Int) (f : Int → Int), 0 ≤ x12 → x12 ≤ l.length → (l.length : Int) - x12 < m → f 0 = l.length → (∀ j : Nat, (j : Int) < x12 → f (1 + j) = l.getD j 0) → wL_law_629 sc m (l.length : Nat) x12 f I' R := by
    intro m
    induction m with
    | zero => intro x12 f _ _ _; omega
    | succ m ih =>
      intro x12 f q0 q1 q2 f0 fj
      show wbL_law_629 sc (wL_law_629 sc m) (l.length : Nat) x12 f I' R
      unfold wbL_law_629
      refine ⟨fun c => ⟨by omega, ?_⟩, fun c => k_byteAt h' q0 (by omega) ?_⟩
      · refine p_lay (l := l) INV_00 rfl ⟨f0, fun j hj => fj j (by omega)⟩ (by omega) (by omega) hb.2 (fun I2 J2 h2 f2 e2 b2 => ⟨fun w => absurd w (by decide), fun _ => ?_⟩)
        refine z_comp (b := false) (its := rds) (rds := rds) h2 (by rw [hl]; exact e2) (by rw [hl]; exact b2) (fun r q => Or.inl (ST_ok r (hr r q))) (by rw [hl]; omega) (flat_l rds hr) (by omega) (fun I3 R3 J3 h3 hp3 _ => ⟨fun w => absurd rfl w, fun _ => ?_⟩)
        refine c_count h3 (fun _ _ => c_count h' (fun _ _ => ?_) (fun q => absurd (show (0 : Int) ≤ 3 ∧ (3 : Int) ≤ 10 by omega) q)) (fun q => absurd (show (0 : Int) ≤ 3 ∧ (3 : Int) ≤ 10 by omega) q)
        rw [cv3, cv3, hp3.2.2.2.1, hp'.2.2.2.1]
        refine ⟨fun w => absurd rfl w, fun _ => z_write h3 hp3 hr (fun I4 J4 h4 hp4 _ _ => ?_)⟩
        rw [hl]
        exact ⟨fun _ => ⟨rds.length + 1, z_711 h' hp' h4 hp4 hr (rds.length + 1) 0 (Int.le_refl 0) (by omega) (by omega)⟩, fun w => absurd rfl w⟩
      · have eb : J' 1009 x12 = l.getD x12.toNat 0 := by
          have := e09 x12.toNat (by omega)
          rw [show ((x12.toNat : Nat) : Int) = x12 by omega] at this
          exact this
        rw [eb]
        refine ⟨by omega, fun f36 e36 => ⟨by unfold inR; omega, fun z ez => ?_⟩⟩
        subst ez
        refine ih _ f36 (by omega) (by omega) (by omega) ?_ (fun j hj => ?_)
        · rw [e36, uFn (by omega)]; exact f0
        · rw [e36]
          by_cases q : (j : Int) = x12
          · rw [q, uFe]
            congr 1
            omega
          · rw [uFn (by omega)]; exact fj j (by omega)
  exact L _ 0 f12 (Int.le_refl 0) (by omega) (by omega) (by rw [e12, uFe]) (fun j hj => by omega)
end WR
