/-! ===== the law's own methods: texts laid down ===== -/
def wuN (x : Int) : Nat := (Int32.ofInt x).toBitVec.toNat
theorem wuN_b {x : Int} (h0 : 0 ≤ x) (h1 : x ≤ 255) : wuN x = x.toNat := by
  unfold wuN
  rw [Int32.toBitVec_ofInt, BitVec.toNat_ofInt]
  omega
theorem wuN_p {x y : Int} (h0 : 0 ≤ y) (h1 : y ≤ 255) : wuN (iOr (iShl x 8) y) = (wuN x % 16777216) * 256 + y.toNat := by
  have hy := wuN_b h0 h1
  have e : wuN (iOr (iShl x 8) y) = ((Int32.ofInt x).toBitVec <<< 8 ||| (Int32.ofInt y).toBitVec).toNat := by
    unfold wuN iOr iShl
    rw [Int32.ofInt_toInt, Int32.ofInt_toInt, Int32.toBitVec_or]
    rfl
  rw [e, BitVec.toNat_or, BitVec.toNat_shiftLeft]
  show (wuN x <<< 8) % 2 ^ 32 ||| wuN y = _
  rw [hy, Nat.shiftLeft_eq, show wuN x * 2 ^ 8 % 2 ^ 32 = (wuN x % 16777216) * 2 ^ 8 by omega, ← Nat.shiftLeft_eq, ← Nat.shiftLeft_add_eq_or_of_lt (by omega), Nat.shiftLeft_eq]
theorem wd_n {a k : Int} (k0 : 0 ≤ k) (k1 : k ≤ 3) : wd a k = ((wuN a / 2 ^ (24 - 8 * k).toNat % 256 : Nat) : Int) := by
  have h : ∀ s : Nat, s ≤ 24 → iAnd (iShr a s) 255 = ((wuN a / 2 ^ s % 256 : Nat) : Int) := fun s hs => by
    have e : (Int32.ofInt (iShr a s) &&& Int32.ofInt 255).toBitVec = (Int32.ofInt a).toBitVec >>> s &&& 255#32 := by
      unfold iShr
      rw [Int32.ofInt_toInt, Int32.toBitVec_and, Int32.toBitVec_shiftRight]
      have e2 : ((Int32.ofInt (s : Int) &&& 31).toBitVec.smod 32).toNat = s := by
        have : ∀ s : Fin 25, ((Int32.ofInt ((s.val : Nat) : Int) &&& 31).toBitVec.smod 32).toNat = s.val := by decide +kernel
        exact this ⟨s, by omega⟩
      rw [BitVec.sshiftRight_eq', e2]
      apply BitVec.eq_of_getLsbD_eq
      intro i hi
      rw [BitVec.getLsbD_and, BitVec.getLsbD_and, BitVec.getLsbD_sshiftRight, BitVec.getLsbD_ushiftRight]
      by_cases c : i < 8
      · rw [if_pos (by omega)]
        have : (32 ≤ i) = False := by simp; omega
        simp [this]
      · have : (Int32.ofInt 255).toBitVec.getLsbD i = false := by
          have : ∀ i : Fin 32, 8 ≤ i.val → (Int32.ofInt 255).toBitVec.getLsbD i.val = false := by decide +kernel
          exact this ⟨i, hi⟩ (by show 8 ≤ i; omega)
        rw [this]
        have : (255#32).getLsbD i = false := by
          have : ∀ i : Fin 32, 8 ≤ i.val → (255#32).getLsbD i.val = false := by decide +kernel
          exact this ⟨i, hi⟩ (by show 8 ≤ i; omega)
        rw [this, Bool.and_false, Bool.and_false]
    have e3 : ((Int32.ofInt a).toBitVec >>> s &&& 255#32).toNat = wuN a / 2 ^ s % 256 := by
      rw [BitVec.toNat_and, BitVec.toNat_ushiftRight, Nat.shiftRight_eq_div_pow]
      show wuN a / 2 ^ s &&& 255 = _
      exact Nat.and_two_pow_sub_one_eq_mod (n := 8) (wuN a / 2 ^ s)
    show (Int32.ofInt (iShr a s) &&& Int32.ofInt 255).toBitVec.toInt = _
    rw [BitVec.toInt_eq_toNat_of_lt (by rw [e, e3]; omega), e, e3]
  unfold wd
  have := h (24 - 8 * k).toNat (by omega)
  rw [show ((24 - 8 * k).toNat : Int) = 24 - 8 * k by omega] at this
  exact this
/-- a word of so many bytes -/
def pkW (b : Int → Int) (q : Int) : Nat → Int
  | 0 => 0
  | r + 1 => iOr (iShl (pkW b q r) 8) (b (4 * q + r))
theorem pk_n {b : Int → Int} {q : Int} (hb : ∀ j, 0 ≤ b j ∧ b j ≤ 255) : wuN (pkW b q 4) = (((b (4 * q)).toNat * 256 + (b (4 * q + 1)).toNat) * 256 + (b (4 * q + 2)).toNat) * 256 + (b (4 * q + 3)).toNat := by
  have h0 : wuN 0 = 0 := by decide +kernel
  have b0 := hb (4 * q)
  have b1 := hb (4 * q + 1)
  have b2 := hb (4 * q + 2)
  have b3 := hb (4 * q + 3)
  have e1 : wuN (pkW b q 1) = (b (4 * q)).toNat := by
    have := wuN_p (x := 0) (y := b (4 * q)) b0.1 b0.2
    rw [h0] at this
    have e : pkW b q 1 = iOr (iShl 0 8) (b (4 * q)) := by show iOr (iShl 0 8) (b (4 * q + ((0 : Nat) : Int))) = _; rw [show 4 * q + ((0 : Nat) : Int) = 4 * q by omega]
    rw [e, this]; omega
  have e2 : wuN (pkW b q 2) = (wuN (pkW b q 1) % 16777216) * 256 + (b (4 * q + 1)).toNat := wuN_p (x := pkW b q 1) b1.1 b1.2
  have e3 : wuN (pkW b q 3) = (wuN (pkW b q 2) % 16777216) * 256 + (b (4 * q + 2)).toNat := wuN_p (x := pkW b q 2) b2.1 b2.2
  have e4 : wuN (pkW b q 4) = (wuN (pkW b q 3) % 16777216) * 256 + (b (4 * q + 3)).toNat := wuN_p (x := pkW b q 3) b3.1 b3.2
  generalize b (4 * q) = w0 at *
  generalize b (4 * q + 1) = w1 at *
  generalize b (4 * q + 2) = w2 at *
  generalize b (4 * q + 3) = w3 at *
  rw [e1, Nat.mod_eq_of_lt (by omega)] at e2
  rw [e2, Nat.mod_eq_of_lt (by omega)] at e3
  rw [e3, Nat.mod_eq_of_lt (by omega)] at e4
  exact e4
theorem pk_wd {b : Int → Int} {q k : Int} (hb : ∀ j, 0 ≤ b j ∧ b j ≤ 255) (k0 : 0 ≤ k) (k1 : k ≤ 3) : wd (pkW b q 4) k = b (4 * q + k) := by
  rw [wd_n k0 k1, pk_n hb]
  have b0 := hb (4 * q)
  have b1 := hb (4 * q + 1)
  have b2 := hb (4 * q + 2)
  have b3 := hb (4 * q + 3)
  have : k = 0 ∨ k = 1 ∨ k = 2 ∨ k = 3 := by omega
  rcases this with rfl | rfl | rfl | rfl
  · rw [show (24 - 8 * (0 : Int)).toNat = 24 from rfl, show (4 * q + 0) = 4 * q by omega]; omega
  · rw [show (24 - 8 * (1 : Int)).toNat = 16 from rfl]; omega
  · rw [show (24 - 8 * (2 : Int)).toNat = 8 from rfl]; omega
  · rw [show (24 - 8 * (3 : Int)).toNat = 0 from rfl]; omega
/-- a row that holds these bytes behind their number -/
def atB (f : Int → Int) (l : List Int) : Prop := f 0 = (l.length : Int) ∧ ∀ j : Nat, j < l.length → f (1 + j) = l.getD j 0
theorem bysX_l {i : Nat} : (((bysX i).length : Nat) : Int) = txN i := by unfold bysX txN; rw [List.length_map, List.length_range]
theorem bysX_g {i j : Nat} (h : j < (bysX i).length) : (bysX i).getD j 0 = txC i j := by
  have h' : j < txL.getD i 0 := by unfold bysX at h; rw [List.length_map, List.length_range] at h; exact h
  unfold bysX
  rw [List.getD_eq_getElem?_getD, List.getElem?_map, List.getElem?_range h']
  rfl
theorem p_put {a1 : Nat} {f : Int → Int} {l : List Int} {I : cI} {R : cR} {Q : cI → cR → (Int → Int) → Prop} (h : atB f l) (hl : (l.length : Int) + txN a1 < 890) (hQ : ∀ f', atB f' (l ++ bysX a1) → Q I R f') : wL_put a1 f I R Q := by
  have hx := bysX_l (i := a1)
  have L : ∀ (m : Nat) (x : Int) (f' : Int → Int), 0 ≤ x → x ≤ txN a1 → txN a1 - x < m → f' 0 = (l.length : Int) → (∀ j : Nat, j < l.length → f' (1 + j) = l.getD j 0) → (∀ j : Nat, (j : Int) < x → f' (1 + l.length + j) = txC a1 j) → wL_put_2 Q a1 m x f' I R := by
    intro m
    induction m with
    | zero => intro x f' _ _ _; omega
    | succ m ih =>
      intro x f' x0 x1 x2 f0 f1 f2
      show wbL_put_2 Q a1 (wL_put_2 Q a1 m) x f' I R
      unfold wbL_put_2
      rw [f0]
      refine ⟨fun c => ⟨by unfold inR; omega, fun f3 e3 => hQ f3 ?_⟩, fun c => ⟨⟨x0, by omega⟩, ⟨by omega, by omega⟩, fun f6 e6 => ⟨by unfold inR; omega, fun z ez => ?_⟩⟩⟩
      · refine ⟨?_, fun j hj => ?_⟩
        · rw [e3, uFe, List.length_append]; omega
        · rw [List.length_append] at hj
          rw [e3, uFn (by omega)]
          by_cases q : j < l.length
          · rw [f1 j q, List.getD_eq_getElem?_getD, List.getD_eq_getElem?_getD, List.getElem?_append_left q]
          · have := f2 (j - l.length) (by omega)
            rw [show (1 : Int) + l.length + ((j - l.length : Nat) : Int) = 1 + j by omega] at this
            rw [this, ← bysX_g (by omega), List.getD_eq_getElem?_getD, List.getD_eq_getElem?_getD, List.getElem?_append_right (by omega)]
      · subst ez
        refine ih _ _ (by omega) (by omega) (by omega) ?_ (fun j hj => ?_) (fun j hj => ?_)
        · rw [e6, uFn (by omega)]; exact f0
        · rw [e6, uFn (by omega)]; exact f1 j hj
        · by_cases q : (j : Int) = x
          · rw [e6, q, uFe]
          · rw [e6, uFn (by omega)]; exact f2 j (by omega)
  exact ⟨(txN a1).toNat + 1, L _ 0 f (Int.le_refl 0) (by unfold txN; omega) (by omega) h.1 h.2 (fun j hj => by omega)⟩
