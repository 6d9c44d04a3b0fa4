/-! ===== the law's own methods: a row becomes the tape ===== -/
/-- the bytes of a row, blanks behind it -/
def rowB (l : List Int) (p : Int) : Int := if 0 ≤ p ∧ p < l.length then l.getD p.toNat 0 else 32
/-- so many bytes of word q are there once x are -/
def ctW (x q : Int) : Nat := (if x - 4 * q ≤ 4 then x - 4 * q else 4).toNat
theorem p_lay {nA : Nat} {f : Int → Int} {l : List Int} {I : cI} {R : cR} {J : cI} {Q : Int → cI → cR → (Int → Int) → Prop} (h : INV I R J) (j2 : J 1000 2 = 0) (hf : atB f l) (hA : l.length < nA) (hl : l.length ≤ 900) (hb : ∀ b ∈ l, 0 ≤ b ∧ b ≤ 255)
    (hQ : ∀ I' J', INV I' R J' → (∀ b x, b ≠ 1001 → ¬ (b = 1000 ∧ x = 2) → J' b x = J b x) → J' 1000 2 = l.length → (∀ j : Nat, j < l.length → J' 1001 j = l.getD j 0) → Q 1 I' R f) : wL_lay nA f I R Q := by
  have bb : ∀ j, 0 ≤ rowB l j ∧ rowB l j ≤ 255 := fun j => by
    unfold rowB
    split
    · rename_i q
      rw [List.getD_eq_getElem?_getD, List.getElem?_eq_getElem (show j.toNat < l.length by omega)]
      exact hb _ (List.getElem_mem _)
    · omega
  unfold wL_lay
  refine c_count h (fun _ _ => ?_) (fun q => absurd (show (0 : Int) ≤ 9 ∧ (9 : Int) ≤ 10 by omega) q)
  have ec : cv J 9 = 0 := by
    unfold cv
    rw [if_neg (by decide), if_neg (by decide), if_neg (by decide), if_neg (by decide), if_neg (by decide), if_neg (by decide), if_neg (by decide), if_neg (by decide), if_neg (by decide), if_pos rfl]
    exact j2
  rw [ec, hf.1]
  refine ⟨by omega, fun z ez => ⟨50, Nat.le_refl _, ?_⟩⟩
  subst ez
  have L : ∀ (m : Nat) (x4 : Int) (I : cI) (Jc : cI), 0 ≤ x4 → x4 ≤ l.length + 19 → (l.length : Int) - x4 ≤ 20 * ((m : Int) - 1) → INV I R Jc → (∀ b x, b ≠ 1001 → ¬ (b = 1000 ∧ x = 2) → Jc b x = J b x) → Jc 1000 2 = x4 → (∀ y, 0 ≤ y → y < x4 → Jc 1001 y = rowB l y) → 1 ≤ m → wL_lay_14 nA Q m 0 (l.length : Int) x4 f I R := by
    intro m
    induction m with
    | zero => intro x4 I Jc _ _ _ _ _ _ _ h1; exact absurd h1 (by decide)
    | succ m ih =>
      intro x4 I Jc x0 x1 hm hI hfr h2 ht _
      show wbL_lay_14 nA Q (wL_lay_14 nA Q m) 0 (l.length : Int) x4 f I R
      unfold wbL_lay_14
      refine ⟨fun c => ⟨by unfold inR; omega, k_trim hI (by omega) (by omega) (fun I' hI' => ⟨by unfold inR; omega, fun q => absurd rfl q, fun _ => ?_⟩)⟩, fun c f9 e9 => ?_⟩
      · rw [Int.zero_add] at hI'
        refine hQ I' _ hI' (fun b x q1 q2 => by rw [u2n q2]; exact hfr b x q1 q2) u2e (fun j hj => ?_)
        rw [u2a (by decide), ht j (by omega) (by omega)]
        unfold rowB
        rw [if_pos (by omega), Int.toNat_natCast]
      · have L2 : ∀ (m2 : Nat) (x6 : Int) (f1 : Int → Int), 0 ≤ x6 → x6 ≤ 20 → 20 - x6 < m2 → (∀ q, 0 ≤ q → q < 5 → f1 q = pkW (fun p => rowB l (x4 + p)) q (ctW x6 q)) → wL_lay_28 nA Q (wL_lay_14 nA Q m) m2 0 (l.length : Int) x4 x6 f f1 I R := by
          intro m2
          induction m2 with
          | zero => intro x6 f1 _ _ _; omega
          | succ m2 ih2 =>
            intro x6 f1 x60 x61 hm2 hf1
            show wbL_lay_28 nA Q (wL_lay_14 nA Q m) (wL_lay_28 nA Q (wL_lay_14 nA Q m) m2) 0 (l.length : Int) x4 x6 f f1 I R
            unfold wbL_lay_28
            refine ⟨fun c6 => ?_, fun c6 => ⟨x60, x60, by omega, by unfold inR; omega, fun c7 => ⟨by omega, fun f14 e14 => ⟨by unfold inR; omega, fun z ez => ?_⟩⟩, fun c7 => ⟨by omega, by omega, fun f14 e14 => ⟨by unfold inR; omega, fun z ez => ?_⟩⟩⟩⟩
            · refine k_feed (A := f1) hI rfl rfl rfl rfl rfl (by omega) (fun I' J' hI' g1 g2 g3 g4 => ⟨by unfold inR; omega, fun z ez => ?_⟩)
              subst ez
              rw [h2] at g2 g3 g4
              refine ih _ I' J' (by omega) (by omega) (by omega) hI' (fun b x q1 q2 => by rw [g1 b x q1 q2]; exact hfr b x q1 q2) g2 (fun y y0 y1 => ?_) (by omega)
              by_cases q : y < x4
              · rw [g4 y q]; exact ht y y0 q
              · have e := g3 (y - x4) (by omega) (by omega)
                rw [show x4 + (y - x4) = y by omega] at e
                rw [e]
                unfold fd
                rw [hf1 _ (by omega) (by omega), show ctW x6 ((y - x4) / 4) = 4 by unfold ctW; split <;> omega, pk_wd (b := fun p => rowB l (x4 + p)) (fun j => bb _) (by omega) (by omega)]
                show rowB l (x4 + (4 * ((y - x4) / 4) + (y - x4) % 4)) = rowB l y
                congr 1
                omega
            · subst ez
              refine ih2 _ f14 (by omega) (by omega) (by omega) (fun q q0 q1 => ?_)
              subst e14
              by_cases eq : q = x6 / 4
              · subst eq
                rw [uFe, hf1 _ q0 q1, show ctW (x6 + 1) (x6 / 4) = ctW x6 (x6 / 4) + 1 by unfold ctW; split <;> split <;> omega]
                show _ = iOr (iShl (pkW _ _ (ctW x6 (x6 / 4))) 8) (rowB l (x4 + (4 * (x6 / 4) + (ctW x6 (x6 / 4) : Int))))
                rw [show rowB l (x4 + (4 * (x6 / 4) + (ctW x6 (x6 / 4) : Int))) = 32 by unfold rowB; exact if_neg (by unfold ctW; split <;> omega)]
              · rw [uFn eq, hf1 _ q0 q1, show ctW (x6 + 1) q = ctW x6 q by unfold ctW; split <;> split <;> omega]
            · subst ez
              refine ih2 _ f14 (by omega) (by omega) (by omega) (fun q q0 q1 => ?_)
              subst e14
              by_cases eq : q = x6 / 4
              · subst eq
                rw [uFe, hf1 _ q0 q1, show ctW (x6 + 1) (x6 / 4) = ctW x6 (x6 / 4) + 1 by unfold ctW; split <;> split <;> omega]
                show _ = iOr (iShl (pkW _ _ (ctW x6 (x6 / 4))) 8) (rowB l (x4 + (4 * (x6 / 4) + (ctW x6 (x6 / 4) : Int))))
                have e : x4 + (4 * (x6 / 4) + (ctW x6 (x6 / 4) : Int)) = x4 + x6 := by unfold ctW; split <;> omega
                rw [e]
                unfold rowB
                rw [if_pos (by omega)]
                have := hf.2 (x4 + x6).toNat (by omega)
                rw [show (1 : Int) + ((x4 + x6).toNat : Int) = 1 + x4 + x6 by omega] at this
                rw [this]
              · rw [uFn eq, hf1 _ q0 q1, show ctW (x6 + 1) q = ctW x6 q by unfold ctW; split <;> split <;> omega]
        refine ⟨21, L2 21 0 f9 (by decide) (by decide) (by decide) (fun q q0 q1 => ?_)⟩
        rw [e9, show ctW 0 q = 0 by unfold ctW; split <;> omega]
        rfl
  exact L 50 0 I J (Int.le_refl 0) (by omega) (by omega) h (fun _ _ _ _ => rfl) j2 (fun y y0 y1 => by omega) (by decide)
/-- no rule is broken -/
theorem p_none {I : cI} {R : cR} {J : cI} {Q : Int → cI → cR → Prop} (h : INV I R J) (hQ : ∀ x, (x = 0 ∨ x = 1) → (x = 1 ↔ ∀ i, 0 ≤ i → i < J 1000 14 → ¬ br (mr J 1015 i) (J 1000 13) (J 1020)) → Q x I R) : wL_noneBroken I R Q := by
  have hn := h.2.1.2
  have e3 : cv J 3 = J 1000 14 := by
    unfold cv
    rw [if_neg (by decide), if_neg (by decide), if_neg (by decide), if_pos rfl]
  have L : ∀ (m : Nat) (x1 x2 : Int), 0 ≤ x2 → x2 ≤ J 1000 14 → J 1000 14 - x2 < m → (x1 = 0 ∨ x1 = 1) → (x1 = 1 ↔ ∀ i, 0 ≤ i → i < x2 → ¬ br (mr J 1015 i) (J 1000 13) (J 1020)) → wL_noneBroken_4 Q m x1 x2 I R := by
    intro m
    induction m with
    | zero => intro x1 x2 _ _ _; omega
    | succ m ih =>
      intro x1 x2 q0 q1 hm hx hiff
      show wbL_noneBroken_4 Q (wL_noneBroken_4 Q m) x1 x2 I R
      unfold wbL_noneBroken_4
      refine c_count h (fun _ _ => ?_) (fun q => absurd (show (0 : Int) ≤ 3 ∧ (3 : Int) ≤ 10 by omega) q)
      rw [e3]
      refine ⟨fun c => ⟨hx, hQ x1 hx ?_⟩, fun c => ⟨fun e0 => ⟨by unfold inR; omega, fun z ez => ?_⟩, fun e0 => ?_⟩⟩
      · rw [show J 1000 14 = x2 by omega]; exact hiff
      · subst ez
        refine ih 0 _ (by omega) (by omega) (by omega) (Or.inl rfl) ⟨fun w => absurd w (by decide), fun w => ?_⟩
        have := hiff.mpr (fun i i0 i1 => w i i0 (by omega))
        omega
      · have e1 : x1 = 1 := by omega
        refine c_rule h (fun _ _ _ _ => ?_) (fun q => absurd ⟨⟨q0, by omega⟩, by decide, by decide⟩ q)
        have er : rl J x2 9 = b2 (br (mr J 1015 x2) (J 1000 13) (J 1020)) := by
          unfold rl
          rw [if_neg (by decide), if_neg (by decide)]
        rw [er]
        refine ⟨fun w => ⟨by unfold inR; omega, fun z ez => ?_⟩, fun w => ⟨by unfold inR; omega, fun z ez => ?_⟩⟩
        · subst ez
          refine ih 0 _ (by omega) (by omega) (by omega) (Or.inl rfl) ⟨fun w => absurd w (by decide), fun w2 => ?_⟩
          exact absurd (b2_f (w2 x2 q0 (by omega))) w
        · subst ez
          refine ih 1 _ (by omega) (by omega) (by omega) (Or.inr rfl) ⟨fun _ i i0 i1 => ?_, fun _ => rfl⟩
          by_cases q : i = x2
          · subst q
            intro hb
            rw [b2_t hb] at w
            exact absurd w (by decide)
          · exact (hiff.mp e1) i i0 (by omega)
  exact ⟨(J 1000 14).toNat + 1, L _ 1 0 (Int.le_refl 0) hn.1 (by omega) (Or.inr rfl) ⟨fun _ i i0 i1 => by omega, fun _ => rfl⟩⟩
