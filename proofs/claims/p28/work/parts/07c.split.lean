/-! ===== tokens: the class's table, the reference's rows ===== -/
noncomputable def ctY (T : Int → Int) (L p : Int) : Int := if tkK T L p = 2 then (if wN T L p (tkE T L p) = -1 then 5 else 1) else if tkK T L p = 1 then 3 else if tkK T L p = 3 then 2 else if tkK T L p = 4 then 4 else if tkK T L p = 0 then 0 else 5
noncomputable def ctN (T : Int → Int) (L p : Int) : Int := if tkK T L p = 1 then 10 * (byT T L p - 97) + byT T L (p + 1) - 48 else if tkK T L p = 2 then wN T L p (tkE T L p) else if tkK T L p = 3 then dv T p (tkE T L p - p).toNat else -1
def cRw (I : cI) (T : Int → Int) (L n : Int) : Prop := ∀ i, 0 ≤ i → i < n → I 6 i = psT T L i.toNat ∧ I 5 i = ctY T L (psT T L i.toNat) ∧ (tkK T L (psT T L i.toNat) ≠ 5 → I 7 i = ctN T L (psT T L i.toNat))
def fT (I0 I : cI) : Prop := ∀ b x, b ≠ 5 → b ≠ 6 → b ≠ 7 → ¬ (b = 4 ∧ x = 0) → I b x = I0 b x
theorem fT_t {I J K : cI} (h : fT I J) (g : fT J K) : fT I K := fun b x q1 q2 q3 q4 => (g b x q1 q2 q3 q4).trans (h b x q1 q2 q3 q4)
theorem cTp_fr {I I' : cI} {T : Int → Int} {L : Int} (h : cTp I T L) (f : fT I I') : cTp I' T L := ⟨by rw [f _ _ (by decide) (by decide) (by decide) (by omega)]; exact h.1, h.2.1, h.2.2.1, fun k k0 k1 => by rw [f _ _ (by decide) (by decide) (by decide) (by omega)]; exact h.2.2.2 k k0 k1⟩
section CS
variable {I : cI} {R : cR} {T : Int → Int} {L : Int}
theorem c_addT {t s u n : Int} {Q : cI → cR → Prop} (e : I 4 0 = n) (n0 : 0 ≤ n) (n1 : n ≤ 1600) (hQ : ∀ I', fT I I' → I' 4 0 = n + 1 → (∀ i, i ≠ n → I' 5 i = I 5 i ∧ I' 6 i = I 6 i ∧ I' 7 i = I 7 i) → I' 5 n = t → I' 6 n = s → I' 7 n = u → Q I' R) : wX10_add t s u I R Q := by
  unfold wX10_add
  rw [e]
  refine ⟨fun c => by omega, fun c => ⟨⟨n0, by omega⟩, fun I2 e2 => ?_⟩⟩
  have k2 : I2 4 0 = n := by subst e2; rw [u2a (by decide)]; exact e
  rw [k2]
  refine ⟨⟨n0, by omega⟩, fun I6 e6 => ?_⟩
  have k6 : I6 4 0 = n := by subst e6; rw [u2a (by decide)]; exact k2
  rw [k6]
  refine ⟨⟨n0, by omega⟩, fun I10 e10 => ?_⟩
  have k10 : I10 4 0 = n := by subst e10; rw [u2a (by decide)]; exact k6
  rw [k10]
  refine ⟨by unfold inR; omega, fun I14 e14 => hQ I14 (fun b x q1 q2 q3 q4 => ?_) (by subst e14; exact u2e) (fun i hi => ⟨?_, ?_, ?_⟩) ?_ ?_ ?_⟩
  · subst e14; rw [u2n q4]; subst e10; rw [u2a q3]; subst e6; rw [u2a q2]; subst e2; exact u2a q1
  · subst e14; rw [u2a (by decide)]; subst e10; rw [u2a (by decide)]; subst e6; rw [u2a (by decide)]; subst e2; exact u2x hi
  · subst e14; rw [u2a (by decide)]; subst e10; rw [u2a (by decide)]; subst e6; rw [u2x hi]; subst e2; exact u2a (by decide)
  · subst e14; rw [u2a (by decide)]; subst e10; rw [u2x hi]; subst e6; rw [u2a (by decide)]; subst e2; exact u2a (by decide)
  · subst e14; rw [u2a (by decide)]; subst e10; rw [u2a (by decide)]; subst e6; rw [u2a (by decide)]; subst e2; exact u2e
  · subst e14; rw [u2a (by decide)]; subst e10; rw [u2a (by decide)]; subst e6; exact u2e
  · subst e14; rw [u2a (by decide)]; subst e10; exact u2e
/-- one token more -/
theorem c_row {t u : Int} {i : Nat} {Q : cI → cR → Prop} (e : I 4 0 = i) (n1 : (i : Int) ≤ 1600) (hr : cRw I T L i) (et : t = ctY T L (psT T L i)) (eu : tkK T L (psT T L i) ≠ 5 → u = ctN T L (psT T L i)) (hQ : ∀ I', fT I I' → I' 4 0 = i + 1 → cRw I' T L (i + 1) → Q I' R) : wX10_add t (psT T L i) u I R Q :=
  c_addT e (by omega) n1 (fun I' f g4 gi g5 g6 g7 => hQ I' f g4 (fun j j0 j1 => by
    by_cases ej : j = i
    · subst ej
      rw [Int.toNat_natCast]
      exact ⟨g6, g5.trans et, fun q => g7.trans (eu q)⟩
    · have k := hr j j0 (by omega)
      have o := gi j ej
      rw [o.1, o.2.1, o.2.2]; exact k))
theorem c_addWord {i : Nat} {Q : Int → cI → cR → Prop} (h : cTp I T L) (e : I 4 0 = i) (n1 : (i : Int) ≤ 1600) (hr : cRw I T L i) (hp : psT T L i < L) (hl : isL (byT T L (psT T L i))) (hd : ¬ isD (byT T L (psT T L i + 1)))
    (hQ : ∀ I', fT I I' → I' 4 0 = i + 1 → cRw I' T L (i + 1) → Q (tkE T L (psT T L i)) I' R) : wX10_addWord (psT T L i) I R Q := by
  have pb := ps_b (T := T) h.2.1 i
  have L1 := h.2.2.1
  have eE : tkE T L (psT T L i) = enD T L isL (psT T L i) := by unfold tkE; rw [if_neg (fun w => hd w.2), if_pos hl]
  have eb := enD_b (T := T) (p := psT T L i) nL pb.2
  have eK : tkK T L (psT T L i) = if 8 < enD T L isL (psT T L i) - psT T L i then 5 else 2 := by unfold tkK; rw [if_neg (fun w => hd w.2), if_pos hl]
  generalize hps : psT T L i = p at *
  have fin : wX10_addWord_27 Q p (enD T L isL p) I R := by
    have add : ∀ t u, t = ctY T L p → (tkK T L p ≠ 5 → u = ctN T L p) → wX10_addWord_59 Q p (enD T L isL p) u t I R := fun t u a b => by
      unfold wX10_addWord_59
      rw [← hps] at a b hQ ⊢
      refine c_row e n1 hr a b (fun I' f g4 gr => ?_)
      have := hQ I' f g4 gr
      rw [hps] at this ⊢
      rw [← eE]; exact this
    refine ⟨by unfold inR; omega, fun c => ?_, fun c => c_wordNo h pb.1 eb.1 eb.2.1 ?_⟩
    · rw [if_pos c] at eK
      refine ⟨fun w => absurd rfl w, fun _ => add 5 (-1) ?_ (fun w => absurd eK w)⟩
      unfold ctY; rw [eK]; rfl
    · rw [if_neg c] at eK
      have y : ctY T L p = if wN T L p (enD T L isL p) = -1 then 5 else 1 := by unfold ctY; rw [if_pos eK, eE]
      have u : ctN T L p = wN T L p (enD T L isL p) := by unfold ctN; rw [if_neg (by rw [eK]; decide), if_pos eK, eE]
      refine ⟨fun w => add 1 _ (by rw [y, if_neg w]) (fun _ => u.symm), fun w => add 5 _ (by rw [y, if_pos w]) (fun _ => u.symm)⟩
  have K : ∀ (m : Nat) (x : Int), p ≤ x → x ≤ L → L - x < m → enD T L isL x = enD T L isL p → wX10_addWord_2 Q p m x I R := by
    intro m
    induction m with
    | zero => intro x x0 x1 x2; omega
    | succ m ih =>
      intro x x0 x1 x2 he
      show wbX10_addWord_2 Q p (wX10_addWord_2 Q p m) x I R
      unfold wbX10_addWord_2
      rw [h.1]
      refine ⟨fun c => ?_, fun c => c_byte h (c_isLetter ⟨fun d => ?_, fun d => ⟨by unfold inR; omega, fun z hz => ?_⟩⟩)⟩
      · rw [enD_e (by rw [by_o (by omega)]; exact nL)] at he
        rw [he]; exact fin
      · rw [enD_e (b2_n.mp d)] at he
        rw [he]; exact fin
      · subst hz
        have hp' : isL (byT T L x) := b2_y.mp ((b2_or _).resolve_left d)
        rw [enD_s (by omega) hp'] at he
        exact ih (x + 1) (by omega) (by omega) (by omega) he
  exact ⟨1601, K 1601 p (Int.le_refl p) pb.2 (by omega) rfl⟩
theorem c_addNum {i : Nat} {Q : Int → cI → cR → Prop} (h : cTp I T L) (e : I 4 0 = i) (n1 : (i : Int) ≤ 1600) (hr : cRw I T L i) (hp : psT T L i < L) (hd : isD (byT T L (psT T L i)))
    (hQ : ∀ I', fT I I' → I' 4 0 = i + 1 → cRw I' T L (i + 1) → Q (tkE T L (psT T L i)) I' R) : wX10_addNumber (psT T L i) I R Q := by
  have pb := ps_b (T := T) h.2.1 i
  have L1 := h.2.2.1
  have hl : ¬ isL (byT T L (psT T L i)) := fun w => by unfold isD at hd; unfold isL at w; omega
  have eE : tkE T L (psT T L i) = enD T L isD (psT T L i) := by unfold tkE; rw [if_neg (fun w => hl w.1), if_neg hl, if_pos hd]
  have eb := enD_b (T := T) (p := psT T L i) nD pb.2
  have eK : tkK T L (psT T L i) = if 4 < enD T L isD (psT T L i) - psT T L i then 5 else 3 := by unfold tkK; rw [if_neg (fun w => hl w.1), if_neg hl, if_pos hd]
  generalize hps : psT T L i = p at *
  have fin : ∀ v, (enD T L isD p - p ≤ 4 → v = dv T p (enD T L isD p - p).toNat) → wX10_addNumber_46 Q p (enD T L isD p) v I R := fun v hv => by
    have add : ∀ t u, t = ctY T L p → (tkK T L p ≠ 5 → u = ctN T L p) → wX10_addNumber_59 Q p (enD T L isD p) u t I R := fun t u a b => by
      unfold wX10_addNumber_59
      rw [← hps] at a b hQ ⊢
      refine c_row e n1 hr a b (fun I' f g4 gr => ?_)
      have := hQ I' f g4 gr
      rw [hps] at this ⊢
      rw [← eE]; exact this
    refine ⟨by unfold inR; omega, fun c => ?_, fun c => ?_⟩
    · rw [if_pos c] at eK
      refine add 5 v ?_ (fun w => absurd eK w)
      unfold ctY; rw [eK]; rfl
    · rw [if_neg c] at eK
      refine add 2 v ?_ (fun _ => ?_)
      · unfold ctY; rw [eK]; rfl
      · unfold ctN; rw [if_neg (by rw [eK]; decide), if_neg (by rw [eK]; decide), if_pos eK, eE]; exact hv (by omega)
  have K : ∀ (m : Nat) (x v : Int), p ≤ x → x ≤ L → L - x < m → enD T L isD x = enD T L isD p → x ≤ enD T L isD p → (x - p ≤ 4 → v = dv T p (x - p).toNat) → wX10_addNumber_5 Q p m x v I R := by
    intro m
    induction m with
    | zero => intro x v x0 x1 x2; omega
    | succ m ih =>
      intro x v x0 x1 x2 he hx hv
      show wbX10_addNumber_5 Q p (wX10_addNumber_5 Q p m) x v I R
      unfold wbX10_addNumber_5
      rw [h.1]
      refine ⟨fun c => ?_, fun c => c_byte h (c_isDigit ⟨fun d => ?_, fun d => c_byte h (fun z hz => ⟨by unfold inR; omega, fun z2 hz2 => ?_⟩)⟩)⟩
      · rw [enD_e (by rw [by_o (by omega)]; exact nD)] at he
        rw [he]; rw [he] at hv; exact fin v hv
      · rw [enD_e (b2_n.mp d)] at he
        rw [he]; rw [he] at hv; exact fin v hv
      · subst hz2
        have hp' : isD (byT T L x) := b2_y.mp ((b2_or _).resolve_left d)
        have he' := he
        rw [enD_s (by omega) hp'] at he
        have ex := enD_b (T := T) (p := x + 1) nD (by omega : x + 1 ≤ L)
        refine ih (x + 1) z (by omega) (by omega) (by omega) he (by omega) (fun q => ?_)
        have ev := hv (by omega)
        have bi : byT T L x = T x := by_i (by omega) (by omega)
        have db := dv_b (T := T) (p := p) (x - p).toNat (by omega) (fun j j0 j1 => by
          have := eb.2.2 (p + j) (by omega) (by omega)
          rw [by_i (by omega) (by omega)] at this; exact this)
        have d4 : dv T p (x - p).toNat < 10000 := by
          have : (10 : Int) ^ (x - p).toNat ≤ 10 ^ 4 := by
            have : (x - p).toNat = 0 ∨ (x - p).toNat = 1 ∨ (x - p).toNat = 2 ∨ (x - p).toNat = 3 ∨ (x - p).toNat = 4 := by omega
            rcases this with e | e | e | e | e <;> rw [e] <;> decide
          have : (10 : Int) ^ 4 = 10000 := by decide
          omega
        have en : (x + 1 - p).toNat = (x - p).toNat + 1 := by omega
        rw [en]
        show z = 10 * dv T p (x - p).toNat + T (p + ((x - p).toNat : Int)) - 48
        rw [show p + ((x - p).toNat : Int) = x by omega, ← bi]
        unfold isD at hp'
        rw [hz, ev, wrp_eq (by unfold inR; omega)]
        omega
  exact ⟨1601, K 1601 p 0 (Int.le_refl p) pb.2 (by omega) rfl eb.1 (fun _ => by rw [Int.sub_self]; rfl)⟩
theorem c_split {Q : cI → cR → Prop} (h : cTp I T L) (hQ : ∀ I', fT I I' → I' 4 0 = nT T L + 1 → cRw I' T L (nT T L + 1) → Q I' R) : wX10_split I R Q := by
  have nt := nT_ok (T := T) h.2.1 h.2.2.1
  have L1 := h.2.2.1
  unfold wX10_split
  intro I1 e1
  have f1 : fT I I1 := fun b x q1 q2 q3 q4 => by subst e1; exact u2n q4
  refine c_skip (cTp_fr h f1) h.2.1 (Int.le_refl 0) ⟨1602, ?_⟩
  have K : ∀ (m : Nat) (i : Nat) (I' : cI), (i : Int) ≤ nT T L → nT T L - i < m → fT I I' → I' 4 0 = i → cRw I' T L i → wX10_split_13 Q m (psT T L i) i I' R := by
    intro m
    induction m with
    | zero => intro i I' i0 i1; omega
    | succ m ih =>
      intro i I' i0 i1 f e r
      have h' := cTp_fr h f
      have pb := ps_b (T := T) h.2.1 i
      show wbX10_split_13 Q (wX10_split_13 Q m) (psT T L i) i I' R
      unfold wbX10_split_13
      rw [h'.1]
      have fin : psT T L i = L → wX10_split_162 Q I' R := fun ep => by
        unfold wX10_split_162
        rw [h'.1]
        have ei : (i : Int) = nT T L := by
          by_cases c : (i : Int) = nT T L
          · exact c
          · have := nt.2.2.2 i (by omega) (by omega)
            rw [Int.toNat_natCast] at this; omega
        have k0 := (tkE_e (T := T) (L := L) (p := psT T L i) (by omega)).2
        have c := c_row (R := R) (Q := Q) (t := 0) (u := -1) e (by omega) r (by unfold ctY; rw [k0]; rfl) (fun _ => by unfold ctN; rw [k0]; rfl) (fun I2 f2 g4 gr => hQ I2 (fT_t f f2) (by rw [g4, ei]) (by rw [← ei]; exact gr))
        rw [ep] at c; exact c
      refine ⟨fun c => fin ?_, fun c => ⟨fun d => fin (by omega), fun d => ?_⟩⟩
      · have ei : (i : Int) = nT T L := by omega
        have := nt.2.2.1
        rw [← ei, Int.toNat_natCast] at this; exact this
      · have il : (i : Int) < nT T L := by
          by_cases c2 : (i : Int) = nT T L
          · have := nt.2.2.1
            rw [← c2, Int.toNat_natCast] at this; omega
          · omega
        have nx : ∀ I2, fT I' I2 → I2 4 0 = i + 1 → cRw I2 T L (i + 1) → wX10_split_149 Q (wX10_split_13 Q m) i (tkE T L (psT T L i)) I2 R := fun I2 f2 g4 gr => by
          have tb := tkE_b (T := T) (L := L) (p := psT T L i) (by omega)
          refine c_skip (cTp_fr h' f2) tb.2 (by omega) ⟨by unfold inR; omega, fun z hz => ?_⟩
          have ez : z = ((i + 1 : Nat) : Int) := by omega
          rw [ez]
          exact ih (i + 1) I2 (by omega) (by omega) (fT_t f f2) (by rw [g4]; rfl) gr
        refine c_byte h' ⟨by unfold inR; omega, c_byte h' ⟨by unfold inR; omega, fun z13 hz13 => c_isDigit ⟨fun nd => c_isLetter ?_, fun dd => c_addNum h' e (by omega) r (by omega) (b2_y.mp ((b2_or _).resolve_left dd)) (fun I2 f2 g4 gr => nx I2 f2 g4 gr)⟩⟩⟩
        have nd' := b2_n.mp nd
        subst hz13
        have s112 : ¬ (isL (byT T L (psT T L i)) ∧ isD (byT T L (psT T L i + 1))) → wX10_split_112 Q (wX10_split_13 Q m) (psT T L i) i (byT T L (psT T L i)) (psT T L i + 1) I' R := fun nc => by
          refine c_isLetter ⟨fun nl => ?_, fun yl => ?_⟩
          · have nl' := b2_n.mp nl
            have eE : tkE T L (psT T L i) = psT T L i + 1 := by unfold tkE; rw [if_neg nc, if_neg nl', if_neg nd', if_pos (by omega)]
            have eK : tkK T L (psT T L i) = if byT T L (psT T L i) = 59 then 4 else 5 := by unfold tkK; rw [if_neg nc, if_neg nl', if_neg nd', if_pos (by omega)]
            rw [eE] at nx
            refine ⟨fun c59 => c_row e (by omega) r ?_ (fun w => ?_) nx, fun c59 => c_row e (by omega) r ?_ (fun w => ?_) nx⟩
            · rw [if_neg c59] at eK; unfold ctY; rw [eK]; rfl
            · rw [if_neg c59] at eK; exact absurd eK w
            · rw [if_pos c59] at eK; unfold ctY; rw [eK]; rfl
            · rw [if_pos c59] at eK; unfold ctN; rw [eK]; rfl
          · have yl' := b2_y.mp ((b2_or _).resolve_left yl)
            exact c_addWord h' e (by omega) r (by omega) yl' (fun w => nc ⟨yl', w⟩) (fun I2 f2 g4 gr => nx I2 f2 g4 gr)
        refine ⟨fun nl => s112 (fun w => b2_n.mp nl w.1), fun yl => c_isDigit ⟨fun n2 => s112 (fun w => b2_n.mp n2 w.2), fun y2 => ?_⟩⟩
        have yl' := b2_y.mp ((b2_or _).resolve_left yl)
        have y2' := b2_y.mp ((b2_or _).resolve_left y2)
        have eE : tkE T L (psT T L i) = psT T L i + 2 := by unfold tkE; rw [if_pos ⟨yl', y2'⟩]
        have eK : tkK T L (psT T L i) = 1 := by unfold tkK; rw [if_pos ⟨yl', y2'⟩]
        rw [eE] at nx
        have l1 := yl'.1
        have l2 := yl'.2
        have l3 := y2'.1
        have l4 := y2'.2
        refine ⟨by unfold inR; omega, c_row e (by omega) r (by unfold ctY; rw [eK]; rfl) (fun _ => by unfold ctN; rw [if_pos eK]) (fun I2 f2 g4 gr => ⟨by unfold inR; omega, fun z hz => ?_⟩)⟩
        subst hz
        exact nx I2 f2 g4 gr
  exact K 1602 0 I1 (by omega) (by omega) f1 (by subst e1; exact u2e) (fun i i0 i1 => by omega)
end CS
/-! the reference -/
def jRw (J : cI) (T : Int → Int) (L n : Int) : Prop := ∀ i, 0 ≤ i → i < n → J 1004 i = tkK T L (psT T L i.toNat) ∧ J 1005 i = psT T L i.toNat ∧ J 1006 i = tkE T L (psT T L i.toNat)
