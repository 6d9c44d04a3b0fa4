/-! ===== what the runs ask: the class ===== -/
/-- a sum that runs over -/
def wrp (x : Int) : Int := (Int32.ofInt x).toInt
theorem wrp_in {x : Int} : inR (wrp x) := ti_rng _
theorem wrp_eq {x : Int} (h : inR x) : wrp x = x := ti_of h
theorem q_topw {X : xC} {nc ns pc : Nat} {lv : List (Nat × Value)} {st : List Value} {ws : va_W} {x y : Int} (h : y = wrp x) (k : cW X nc ns pc lv (iV y :: st) ws) : cW X nc ns pc lv (iV x :: st) ws := by
  have e : iV y = iV x := by rw [h]; show Value.int (Int32.ofInt (Int32.ofInt x).toInt) = Value.int (Int32.ofInt x); rw [Int32.ofInt_toInt]
  rw [← e]; exact k
def wbX9_appendFour_3 (Q : cI → cR → Prop) (a1 : Int) (rk : Int → cI → cR → Prop) (x2 : Int) (I : cI) (R : cR) : Prop := (x2 < 0 → Q I R) ∧ (¬ x2 < 0 → (1600 ≤ (I 1 0) → Q I R) ∧ (¬ 1600 ≤ (I 1 0) → (0 ≤ (I 1 0) ∧ (I 1 0) < 1600) ∧ ∀ I2 : cI, I2 = up2 I 2 ((I 1 0)) ((iAnd ((iShr a1 x2)) 255)) → inR (((I2 1 0) + 1)) ∧ ∀ I6 : cI, I6 = up2 I2 1 0 (((I2 1 0) + 1)) → inR (x2 + (-8)) ∧ ∀ z9 : Int, z9 = x2 + (-8) → rk z9 I6 R))
def wX9_appendFour_3 (Q : cI → cR → Prop) (a1 : Int) : Nat → Int → cI → cR → Prop
  | 0 => fun _ _ _ => False
  | n + 1 => wbX9_appendFour_3 Q a1 (wX9_appendFour_3 Q a1 n)
def wX9_appendFour (a1 : Int) (I : cI) (R : cR) (Q : cI → cR → Prop) : Prop := ∃ n, wX9_appendFour_3 Q a1 n 24 I R
def wX11_feed (a1 : Int) (a2 : Int) (a3 : Int) (a4 : Int) (a5 : Int) (I : cI) (R : cR) (Q : Int → cI → cR → Prop) (Qx : Nat → cI → cR → Prop) : Prop := inR (((I 1 0) + 20)) ∧ (((I 1 0) + 20) ≤ 1600 → wX9_appendFour a1 I R (fun I3 R4 => wX9_appendFour a2 I3 R4 (fun I8 R9 => wX9_appendFour a3 I8 R9 (fun I13 R14 => wX9_appendFour a4 I13 R14 (fun I18 R19 => wX9_appendFour a5 I18 R19 (fun I23 R24 => Q ((I23 1 0)) I23 R24)))))) ∧ (¬ ((I 1 0) + 20) ≤ 1600 → Qx 0 I R)
def wX11_trim_15 (Q : Int → cI → cR → Prop) (Qx : Nat → cI → cR → Prop) (a1 : Int) (I : cI) (R : cR) : Prop := Qx 1 I R
def wX11_trim (a1 : Int) (I : cI) (R : cR) (Q : Int → cI → cR → Prop) (Qx : Nat → cI → cR → Prop) : Prop := (a1 < 0 → wX11_trim_15 Q Qx a1 I R) ∧ (¬ a1 < 0 → (a1 ≤ (I 1 0) → ∀ I1 : cI, I1 = up2 I 1 0 a1 → Q a1 I1 R) ∧ (¬ a1 ≤ (I 1 0) → wX11_trim_15 Q Qx a1 I R))
def wX9_byteOrNone (a1 : Int) (I : cI) (R : cR) (Q : Int → cI → cR → Prop) : Prop := (a1 < 0 → Q (-1) I R) ∧ (¬ a1 < 0 → ((I 1 0) ≤ a1 → Q (-1) I R) ∧ (¬ (I 1 0) ≤ a1 → (1600 ≤ a1 → Q (-1) I R) ∧ (¬ 1600 ≤ a1 → (0 ≤ a1 ∧ a1 < 1600) ∧ Q ((I 2 a1)) I R)))
def wX10_isBlank (a0 : Int) (I : cI) (R : cR) (Q : Int → cI → cR → Prop) : Prop := (a0 = 32 → Q 1 I R) ∧ (¬ a0 = 32 → (¬ a0 = 10 → Q 0 I R) ∧ (a0 = 10 → Q 1 I R))
def wbX10_skipBlanks_2 (Q : Int → cI → cR → Prop) (a1 : Int) (rk : Int → cI → cR → Prop) (x2 : Int) (I : cI) (R : cR) : Prop := ((I 1 0) ≤ x2 → Q x2 I R) ∧ (¬ (I 1 0) ≤ x2 → wX9_byteOrNone x2 I R (fun r1 I2 R3 => wX10_isBlank r1 I2 R3 (fun r6 I7 R8 => (r6 = 0 → Q x2 I7 R8) ∧ (¬ r6 = 0 → inR (x2 + 1) ∧ ∀ z11 : Int, z11 = x2 + 1 → rk z11 I7 R8))))
def wX10_skipBlanks_2 (Q : Int → cI → cR → Prop) (a1 : Int) : Nat → Int → cI → cR → Prop
  | 0 => fun _ _ _ => False
  | n + 1 => wbX10_skipBlanks_2 Q a1 (wX10_skipBlanks_2 Q a1 n)
def wX10_skipBlanks (a1 : Int) (I : cI) (R : cR) (Q : Int → cI → cR → Prop) : Prop := ∃ n, wX10_skipBlanks_2 Q a1 n a1 I R
def wX10_isDigit (a0 : Int) (I : cI) (R : cR) (Q : Int → cI → cR → Prop) : Prop := (a0 < 48 → Q 0 I R) ∧ (¬ a0 < 48 → (57 < a0 → Q 0 I R) ∧ (¬ 57 < a0 → Q 1 I R))
def wX10_add (a1 : Int) (a2 : Int) (a3 : Int) (I : cI) (R : cR) (Q : cI → cR → Prop) : Prop := (1601 ≤ (I 4 0) → Q I R) ∧ (¬ 1601 ≤ (I 4 0) → (0 ≤ (I 4 0) ∧ (I 4 0) < 1601) ∧ ∀ I2 : cI, I2 = up2 I 5 ((I 4 0)) a1 → (0 ≤ (I2 4 0) ∧ (I2 4 0) < 1601) ∧ ∀ I6 : cI, I6 = up2 I2 6 ((I2 4 0)) a2 → (0 ≤ (I6 4 0) ∧ (I6 4 0) < 1601) ∧ ∀ I10 : cI, I10 = up2 I6 7 ((I6 4 0)) a3 → inR (((I10 4 0) + 1)) ∧ ∀ I14 : cI, I14 = up2 I10 4 0 (((I10 4 0) + 1)) → Q I14 R)
def wX10_addNumber_59 (Q : Int → cI → cR → Prop) (a2 : Int) (x3 : Int) (x4 : Int) (y1 : Int) (I : cI) (R : cR) : Prop := wX10_add y1 a2 x4 I R (fun I2 R3 => Q x3 I2 R3)
def wX10_addNumber_46 (Q : Int → cI → cR → Prop) (a2 : Int) (x3 : Int) (x4 : Int) (I : cI) (R : cR) : Prop := inR ((x3 - a2)) ∧ (4 < (x3 - a2) → wX10_addNumber_59 Q a2 x3 x4 5 I R) ∧ (¬ 4 < (x3 - a2) → wX10_addNumber_59 Q a2 x3 x4 2 I R)
def wbX10_addNumber_5 (Q : Int → cI → cR → Prop) (a2 : Int) (rk : Int → Int → cI → cR → Prop) (x3 : Int) (x4 : Int) (I : cI) (R : cR) : Prop := ((I 1 0) ≤ x3 → wX10_addNumber_46 Q a2 x3 x4 I R) ∧ (¬ (I 1 0) ≤ x3 → wX9_byteOrNone x3 I R (fun r1 I2 R3 => wX10_isDigit r1 I2 R3 (fun r6 I7 R8 => (r6 = 0 → wX10_addNumber_46 Q a2 x3 x4 I7 R8) ∧ (¬ r6 = 0 → wX9_byteOrNone x3 I7 R8 (fun r11 I12 R13 => ∀ z16 : Int, z16 = wrp ((((x4 * 10) + r11) - 48)) → inR (x3 + 1) ∧ ∀ z18 : Int, z18 = x3 + 1 → rk z18 z16 I12 R13)))))
def wX10_addNumber_5 (Q : Int → cI → cR → Prop) (a2 : Int) : Nat → Int → Int → cI → cR → Prop
  | 0 => fun _ _ _ _ => False
  | n + 1 => wbX10_addNumber_5 Q a2 (wX10_addNumber_5 Q a2 n)
def wX10_addNumber (a2 : Int) (I : cI) (R : cR) (Q : Int → cI → cR → Prop) : Prop := ∃ n, wX10_addNumber_5 Q a2 n a2 0 I R
def wX10_isLetter (a0 : Int) (I : cI) (R : cR) (Q : Int → cI → cR → Prop) : Prop := (a0 < 97 → Q 0 I R) ∧ (¬ a0 < 97 → (122 < a0 → Q 0 I R) ∧ (¬ 122 < a0 → Q 1 I R))
def wbX10_isWord_15 (Q : Int → cI → cR → Prop) (a1 : Int) (a2 : Int) (a3 : Nat) (rk : Int → cI → cR → Prop) (x4 : Int) (I : cI) (R : cR) : Prop := ((txN a3) ≤ x4 → Q 1 I R) ∧ (¬ (txN a3) ≤ x4 → inR ((a1 + x4)) ∧ wX9_byteOrNone ((a1 + x4)) I R (fun r2 I3 R4 => (0 ≤ x4 ∧ x4 < txN a3) ∧ (r2 = (txC a3 x4) → inR (x4 + 1) ∧ ∀ z8 : Int, z8 = x4 + 1 → rk z8 I3 R4) ∧ (¬ r2 = (txC a3 x4) → Q 0 I3 R4)))
def wX10_isWord_15 (Q : Int → cI → cR → Prop) (a1 : Int) (a2 : Int) (a3 : Nat) : Nat → Int → cI → cR → Prop
  | 0 => fun _ _ _ => False
  | n + 1 => wbX10_isWord_15 Q a1 a2 a3 (wX10_isWord_15 Q a1 a2 a3 n)
def wX10_isWord (a1 : Int) (a2 : Int) (a3 : Nat) (I : cI) (R : cR) (Q : Int → cI → cR → Prop) : Prop := inR ((a2 - a1)) ∧ ((a2 - a1) = (txN a3) → ∃ n, wX10_isWord_15 Q a1 a2 a3 n 0 I R) ∧ (¬ (a2 - a1) = (txN a3) → Q 0 I R)
def wbX10_wordNumber_2 (Q : Int → cI → cR → Prop) (a1 : Int) (a2 : Int) (rk : Int → cI → cR → Prop) (x3 : Int) (I : cI) (R : cR) : Prop := (12 ≤ x3 → wX10_isWord a1 a2 12 I R (fun r1 I2 R3 => (r1 = 0 → wX10_isWord a1 a2 13 I2 R3 (fun r6 I7 R8 => (r6 = 0 → wX10_isWord a1 a2 14 I7 R8 (fun r11 I12 R13 => (r11 = 0 → Q (-1) I12 R13) ∧ (¬ r11 = 0 → Q 14 I12 R13))) ∧ (¬ r6 = 0 → Q 13 I7 R8))) ∧ (¬ r1 = 0 → Q 12 I2 R3))) ∧ (¬ 12 ≤ x3 → (0 ≤ x3 ∧ x3 < 12) ∧ wX10_isWord a1 a2 (Int.toNat (x3)) I R (fun r17 I18 R19 => (r17 = 0 → inR (x3 + 1) ∧ ∀ z22 : Int, z22 = x3 + 1 → rk z22 I18 R19) ∧ (¬ r17 = 0 → (0 ≤ x3 ∧ x3 < 12) ∧ Q ((kN (Int.toNat (x3)))) I18 R19)))
def wX10_wordNumber_2 (Q : Int → cI → cR → Prop) (a1 : Int) (a2 : Int) : Nat → Int → cI → cR → Prop
  | 0 => fun _ _ _ => False
  | n + 1 => wbX10_wordNumber_2 Q a1 a2 (wX10_wordNumber_2 Q a1 a2 n)
def wX10_wordNumber (a1 : Int) (a2 : Int) (I : cI) (R : cR) (Q : Int → cI → cR → Prop) : Prop := ∃ n, wX10_wordNumber_2 Q a1 a2 n 0 I R
def wX10_addWord_59 (Q : Int → cI → cR → Prop) (a2 : Int) (x3 : Int) (x4 : Int) (y1 : Int) (I : cI) (R : cR) : Prop := wX10_add y1 a2 x4 I R (fun I2 R3 => Q x3 I2 R3)
def wX10_addWord_45 (Q : Int → cI → cR → Prop) (a2 : Int) (x3 : Int) (y0 : Int) (I : cI) (R : cR) : Prop := (¬ y0 = -1 → wX10_addWord_59 Q a2 x3 y0 1 I R) ∧ (y0 = -1 → wX10_addWord_59 Q a2 x3 y0 5 I R)
def wX10_addWord_27 (Q : Int → cI → cR → Prop) (a2 : Int) (x3 : Int) (I : cI) (R : cR) : Prop := inR ((x3 - a2)) ∧ (8 < (x3 - a2) → wX10_addWord_45 Q a2 x3 (-1) I R) ∧ (¬ 8 < (x3 - a2) → wX10_wordNumber a2 x3 I R (fun r2 I3 R4 => wX10_addWord_45 Q a2 x3 r2 I3 R4))
def wbX10_addWord_2 (Q : Int → cI → cR → Prop) (a2 : Int) (rk : Int → cI → cR → Prop) (x3 : Int) (I : cI) (R : cR) : Prop := ((I 1 0) ≤ x3 → wX10_addWord_27 Q a2 x3 I R) ∧ (¬ (I 1 0) ≤ x3 → wX9_byteOrNone x3 I R (fun r1 I2 R3 => wX10_isLetter r1 I2 R3 (fun r6 I7 R8 => (r6 = 0 → wX10_addWord_27 Q a2 x3 I7 R8) ∧ (¬ r6 = 0 → inR (x3 + 1) ∧ ∀ z11 : Int, z11 = x3 + 1 → rk z11 I7 R8))))
def wX10_addWord_2 (Q : Int → cI → cR → Prop) (a2 : Int) : Nat → Int → cI → cR → Prop
  | 0 => fun _ _ _ => False
  | n + 1 => wbX10_addWord_2 Q a2 (wX10_addWord_2 Q a2 n)
def wX10_addWord (a2 : Int) (I : cI) (R : cR) (Q : Int → cI → cR → Prop) : Prop := ∃ n, wX10_addWord_2 Q a2 n a2 I R
def wX10_split_162 (Q : cI → cR → Prop) (I : cI) (R : cR) : Prop := wX10_add 0 ((I 1 0)) (-1) I R (fun I2 R3 => Q I2 R3)
def wX10_split_149 (Q : cI → cR → Prop) (K13 : Int → Int → cI → cR → Prop) (x3 : Int) (x6 : Int) (I : cI) (R : cR) : Prop := wX10_skipBlanks x6 I R (fun r1 I2 R3 => inR (x3 + 1) ∧ ∀ z6 : Int, z6 = x3 + 1 → K13 r1 z6 I2 R3)
def wX10_split_144 (Q : cI → cR → Prop) (K13 : Int → Int → cI → cR → Prop) (x2 : Int) (x3 : Int) (x6 : Int) (y1 : Int) (I : cI) (R : cR) : Prop := wX10_add y1 x2 (-1) I R (fun I2 R3 => wX10_split_149 Q K13 x3 x6 I2 R3)
def wX10_split_112 (Q : cI → cR → Prop) (K13 : Int → Int → cI → cR → Prop) (x2 : Int) (x3 : Int) (x4 : Int) (x6 : Int) (I : cI) (R : cR) : Prop := wX10_isLetter x4 I R (fun r1 I2 R3 => (r1 = 0 → (¬ x4 = 59 → wX10_split_144 Q K13 x2 x3 x6 5 I2 R3) ∧ (x4 = 59 → wX10_split_144 Q K13 x2 x3 x6 4 I2 R3)) ∧ (¬ r1 = 0 → wX10_addWord x2 I2 R3 (fun r6 I7 R8 => wX10_split_149 Q K13 x3 r6 I7 R8)))
def wbX10_split_13 (Q : cI → cR → Prop) (rk : Int → Int → cI → cR → Prop) (x2 : Int) (x3 : Int) (I : cI) (R : cR) : Prop := (1600 ≤ x3 → wX10_split_162 Q I R) ∧ (¬ 1600 ≤ x3 → ((I 1 0) ≤ x2 → wX10_split_162 Q I R) ∧ (¬ (I 1 0) ≤ x2 → wX9_byteOrNone x2 I R (fun r1 I2 R3 => inR ((x2 + 1)) ∧ wX9_byteOrNone ((x2 + 1)) I2 R3 (fun r7 I8 R9 => inR ((x2 + 1)) ∧ ∀ z13 : Int, z13 = (x2 + 1) → wX10_isDigit r1 I8 R9 (fun r15 I16 R17 => (r15 = 0 → wX10_isLetter r1 I16 R17 (fun r20 I21 R22 => (r20 = 0 → wX10_split_112 Q rk x2 x3 r1 z13 I21 R22) ∧ (¬ r20 = 0 → wX10_isDigit r7 I21 R22 (fun r25 I26 R27 => (r25 = 0 → wX10_split_112 Q rk x2 x3 r1 z13 I26 R27) ∧ (¬ r25 = 0 → inR ((((10 * (r1 - 97)) + r7) - 48)) ∧ wX10_add 3 x2 ((((10 * (r1 - 97)) + r7) - 48)) I26 R27 (fun I32 R33 => inR ((x2 + 2)) ∧ ∀ z37 : Int, z37 = (x2 + 2) → wX10_split_149 Q rk x3 z37 I32 R33)))))) ∧ (¬ r15 = 0 → wX10_addNumber x2 I16 R17 (fun r39 I40 R41 => wX10_split_149 Q rk x3 r39 I40 R41)))))))
def wX10_split_13 (Q : cI → cR → Prop) : Nat → Int → Int → cI → cR → Prop
  | 0 => fun _ _ _ _ => False
  | n + 1 => wbX10_split_13 Q (wX10_split_13 Q n)
def wX10_split (I : cI) (R : cR) (Q : cI → cR → Prop) : Prop := ∀ I1 : cI, I1 = up2 I 4 0 0 → wX10_skipBlanks 0 I1 R (fun r4 I5 R6 => ∃ n, wX10_split_13 Q n r4 0 I5 R6)
def wX10_numberAt (a1 : Int) (I : cI) (R : cR) (Q : Int → cI → cR → Prop) : Prop := (a1 < 0 → Q (-1) I R) ∧ (¬ a1 < 0 → ((I 4 0) ≤ a1 → Q (-1) I R) ∧ (¬ (I 4 0) ≤ a1 → (0 ≤ a1 ∧ a1 < 1601) ∧ Q ((I 7 a1)) I R))
def wX10_typeAt (a1 : Int) (I : cI) (R : cR) (Q : Int → cI → cR → Prop) : Prop := (a1 < 0 → Q 0 I R) ∧ (¬ a1 < 0 → ((I 4 0) ≤ a1 → Q 0 I R) ∧ (¬ (I 4 0) ≤ a1 → (0 ≤ a1 ∧ a1 < 1601) ∧ Q ((I 5 a1)) I R))
def wbX5_passes_2 (Q : Int → cI → cR → Prop) (a1 : Int) (a2 : Int) (rk : Int → cI → cR → Prop) (x3 : Int) (I : cI) (R : cR) : Prop := (a2 ≤ x3 → Q 1 I R) ∧ (¬ a2 ≤ x3 → wX10_typeAt ((I 3 3)) I R (fun r1 I2 R3 => (r1 = a1 → inR (((I2 3 3) + 1)) ∧ ∀ I7 : cI, I7 = up2 I2 3 3 (((I2 3 3) + 1)) → inR (x3 + 1) ∧ ∀ z10 : Int, z10 = x3 + 1 → rk z10 I7 R3) ∧ (¬ r1 = a1 → Q 0 I2 R3)))
def wX5_passes_2 (Q : Int → cI → cR → Prop) (a1 : Int) (a2 : Int) : Nat → Int → cI → cR → Prop
  | 0 => fun _ _ _ => False
  | n + 1 => wbX5_passes_2 Q a1 a2 (wX5_passes_2 Q a1 a2 n)
def wX5_passes (a1 : Int) (a2 : Int) (I : cI) (R : cR) (Q : Int → cI → cR → Prop) : Prop := ∃ n, wX5_passes_2 Q a1 a2 n 0 I R
def wbX5_passesCells_24 (Q : Int → cI → cR → Prop) (a1 : Int) (rk : Int → cI → cR → Prop) (x2 : Int) (I : cI) (R : cR) : Prop := ((I 4 0) ≤ x2 → Q 1 I R) ∧ (¬ (I 4 0) ≤ x2 → wX10_typeAt ((I 3 3)) I R (fun r1 I2 R3 => (¬ r1 = 3 → Q 1 I2 R3) ∧ (r1 = 3 → inR (((I2 3 3) + 1)) ∧ ∀ I7 : cI, I7 = up2 I2 3 3 (((I2 3 3) + 1)) → inR (x2 + 1) ∧ ∀ z10 : Int, z10 = x2 + 1 → rk z10 I7 R3)))
def wX5_passesCells_24 (Q : Int → cI → cR → Prop) (a1 : Int) : Nat → Int → cI → cR → Prop
  | 0 => fun _ _ _ => False
  | n + 1 => wbX5_passesCells_24 Q a1 (wX5_passesCells_24 Q a1 n)
def wX5_passesCells (a1 : Int) (I : cI) (R : cR) (Q : Int → cI → cR → Prop) : Prop := (a1 ≤ 0 → wX5_passes 3 1 I R (fun r1 I2 R3 => (¬ r1 = 0 → ∃ n, wX5_passesCells_24 Q a1 n 0 I2 R3) ∧ (r1 = 0 → Q 0 I2 R3))) ∧ (¬ a1 ≤ 0 → wX5_passes 3 a1 I R (fun r7 I8 R9 => (r7 = 0 ∨ r7 = 1) ∧ Q r7 I8 R9))
def wX5_passesRule_102 (Q : Int → cI → cR → Prop) (y1 : Int) (y2 : Int) (I : cI) (R : cR) : Prop := wX5_passes y1 y2 I R (fun r1 I2 R3 => (r1 = 0 → Q 0 I2 R3) ∧ (¬ r1 = 0 → Q 1 I2 R3))
def wX5_passesRule (I : cI) (R : cR) (Q : Int → cI → cR → Prop) : Prop := wX10_numberAt ((I 3 3)) I R (fun r1 I2 R3 => wX10_typeAt ((I2 3 3)) I2 R3 (fun r6 I7 R8 => (¬ r6 = 1 → Q 0 I7 R8) ∧ (r6 = 1 → (¬ r1 = 14 → inR (((I7 3 3) + 1)) ∧ ∀ I12 : cI, I12 = up2 I7 3 3 (((I7 3 3) + 1)) → (r1 < 0 → Q 1 I12 R8) ∧ (¬ r1 < 0 → (r1 < 12 → (0 ≤ r1 ∧ r1 < 12) ∧ wX5_passes 2 ((kA (Int.toNat (r1)))) I12 R8 (fun r16 I17 R18 => (r16 = 0 → Q 0 I17 R18) ∧ (¬ r16 = 0 → wX5_passesCells ((kE (Int.toNat (r1)))) I17 R18 (fun r21 I22 R23 => (r21 = 0 → Q 0 I22 R23) ∧ (¬ r21 = 0 → (¬ Int.toNat (r1) = 9 → wX5_passesRule_102 Q 2 0 I22 R23) ∧ (Int.toNat (r1) = 9 → wX5_passesRule_102 Q 2 1 I22 R23)))))) ∧ (¬ r1 < 12 → Q 1 I12 R8))) ∧ (r1 = 14 → Q 0 I7 R8))))
def wbX5_hasForm_54 (Q : Int → cI → cR → Prop) (rk : Int → cI → cR → Prop) (x1 : Int) (I : cI) (R : cR) : Prop := ((I 4 0) ≤ x1 → Q 1 I R) ∧ (¬ (I 4 0) ≤ x1 → wX10_typeAt ((I 3 3)) I R (fun r1 I2 R3 => (r1 = 0 → Q 1 I2 R3) ∧ (¬ r1 = 0 → wX5_passesRule I2 R3 (fun r6 I7 R8 => (r6 = 0 → Q 0 I7 R8) ∧ (¬ r6 = 0 → wX5_passes 4 1 I7 R8 (fun r11 I12 R13 => (¬ r11 = 0 → inR (x1 + 1) ∧ ∀ z16 : Int, z16 = x1 + 1 → rk z16 I12 R13) ∧ (r11 = 0 → Q 0 I12 R13)))))))
def wX5_hasForm_54 (Q : Int → cI → cR → Prop) : Nat → Int → cI → cR → Prop
  | 0 => fun _ _ _ => False
  | n + 1 => wbX5_hasForm_54 Q (wX5_hasForm_54 Q n)
def wX5_hasForm (I : cI) (R : cR) (Q : Int → cI → cR → Prop) : Prop := ∀ I1 : cI, I1 = up2 I 3 3 0 → wX10_numberAt ((I1 3 3)) I1 R (fun r4 I5 R6 => (¬ r4 = 14 → Q 0 I5 R6) ∧ (r4 = 14 → wX5_passes 1 1 I5 R6 (fun r9 I10 R11 => (¬ r9 = 0 → wX5_passes 2 3 I10 R11 (fun r14 I15 R16 => (r14 = 0 → Q 0 I15 R16) ∧ (¬ r14 = 0 → wX5_passes 4 1 I15 R16 (fun r19 I20 R21 => (¬ r19 = 0 → ∃ n, wX5_hasForm_54 Q n 0 I20 R21) ∧ (r19 = 0 → Q 0 I20 R21))))) ∧ (r9 = 0 → Q 0 I10 R11))))
def wX10_startAt (a1 : Int) (I : cI) (R : cR) (Q : Int → cI → cR → Prop) : Prop := (a1 < 0 → Q (-1) I R) ∧ (¬ a1 < 0 → ((I 4 0) ≤ a1 → Q (-1) I R) ∧ (¬ (I 4 0) ≤ a1 → (0 ≤ a1 ∧ a1 < 1601) ∧ Q ((I 6 a1)) I R))
def wX5_fail (a1 : Int) (I : cI) (R : cR) (Q : Int → cI → cR → Prop) : Prop := ∀ I1 : cI, I1 = up2 I 3 0 a1 → wX10_startAt ((I1 3 3)) I1 R (fun r4 I5 R6 => ∀ I9 : cI, I9 = up2 I5 3 1 r4 → Q 0 I9 R6)
def wbX4_emptyGrid_2 (Q : cI → cR → Prop) (p : Nat) (rk : Int → cI → cR → Prop) (x1 : Int) (I : cI) (R : cR) : Prop := (25 ≤ x1 → Q I R) ∧ (¬ 25 ≤ x1 → (0 ≤ x1 ∧ x1 < 25) ∧ ∀ I2 : cI, I2 = up2 I (p + 1) x1 0 → inR (x1 + 1) ∧ ∀ z5 : Int, z5 = x1 + 1 → rk z5 I2 R)
def wX4_emptyGrid_2 (Q : cI → cR → Prop) (p : Nat) : Nat → Int → cI → cR → Prop
  | 0 => fun _ _ _ => False
  | n + 1 => wbX4_emptyGrid_2 Q p (wX4_emptyGrid_2 Q p n)
def wX4_emptyGrid (p : Nat) (I : cI) (R : cR) (Q : cI → cR → Prop) : Prop := ∃ n, wX4_emptyGrid_2 Q p n 0 I R
def wX4_begin (p : Nat) (a1 : Int) (a2 : Int) (a3 : Int) (I : cI) (R : cR) (Q : cI → cR → Prop) : Prop := ∀ I1 : cI, I1 = up2 I p 0 a1 → ∀ I4 : cI, I4 = up2 I1 p 1 a2 → ∀ I7 : cI, I7 = up2 I4 p 2 a3 → ∀ I10 : cI, I10 = up2 I7 p 5 0 → wX4_emptyGrid p I10 R (fun I14 R15 => Q I14 R15)
def wX5_readSizes_35 (Q : Int → cI → cR → Prop) (a1 : Nat) (I : cI) (R : cR) : Prop := wX5_fail 2 I R (fun r1 I2 R3 => (r1 = 0 ∨ r1 = 1) ∧ Q r1 I2 R3)
def wbX5_readSizes_5 (Q : Int → cI → cR → Prop) (a1 : Nat) (rk : cI → cR → Prop) (I : cI) (R : cR) : Prop := (3 < (I 3 3) → wX10_numberAt 1 I R (fun r1 I2 R3 => wX10_numberAt 2 I2 R3 (fun r6 I7 R8 => wX10_numberAt 3 I7 R8 (fun r11 I12 R13 => wX4_begin a1 r1 r6 r11 I12 R13 (fun I17 R18 => Q 1 I17 R18))))) ∧ (¬ 3 < (I 3 3) → wX10_numberAt ((I 3 3)) I R (fun r21 I22 R23 => (r21 < 2 → wX5_readSizes_35 Q a1 I22 R23) ∧ (¬ r21 < 2 → (r21 ≤ 5 → inR (((I22 3 3) + 1)) ∧ ∀ I27 : cI, I27 = up2 I22 3 3 (((I22 3 3) + 1)) → rk I27 R23) ∧ (¬ r21 ≤ 5 → wX5_readSizes_35 Q a1 I22 R23))))
def wX5_readSizes_5 (Q : Int → cI → cR → Prop) (a1 : Nat) : Nat → cI → cR → Prop
  | 0 => fun _ _ => False
  | n + 1 => wbX5_readSizes_5 Q a1 (wX5_readSizes_5 Q a1 n)
def wX5_readSizes (a1 : Nat) (I : cI) (R : cR) (Q : Int → cI → cR → Prop) : Prop := ∀ I1 : cI, I1 = up2 I 3 3 1 → ∃ n, wX5_readSizes_5 Q a1 n I1 R
def wX5_rulesOf (a0 : Int) (a1 : Nat) (I : cI) (R : cR) (Q : Int → cI → cR → Prop) : Prop := (¬ a0 = 12 → (¬ a0 = 13 → Q 1 I R) ∧ (a0 = 13 → Q ((I a1 0)) I R)) ∧ (a0 = 12 → Q ((I a1 1)) I R)
def wX7_begin (r0 : Nat) (a1 : Nat) (I : cI) (R : cR) (Q : cI → cR → Prop) : Prop := ∀ R1 : cR, R1 = up2 R r0 0 a1 → ∀ I4 : cI, I4 = up2 I r0 1 0 → ∀ I7 : cI, I7 = up2 I4 r0 2 0 → ∀ I10 : cI, I10 = up2 I7 r0 3 0 → ∀ I13 : cI, I13 = up2 I10 r0 5 0 → Q I13 R1
def wX4_addRule_26 (Q : Nat → cI → cR → Prop) (p : Nat) (a1 : Nat) (y0 : Int) (I : cI) (R : cR) : Prop := inR ((y0 + 1)) ∧ ∀ I2 : cI, I2 = up2 I p 5 ((y0 + 1)) → (0 ≤ y0 ∧ y0 < 65) ∧ wX7_begin ((R (p + 2) y0)) a1 I2 R (fun I7 R8 => (0 ≤ y0 ∧ y0 < 65) ∧ Q ((R8 (p + 2) y0)) I7 R8)
def wX4_addRule (p : Nat) (a1 : Nat) (I : cI) (R : cR) (Q : Nat → cI → cR → Prop) : Prop := (65 ≤ (I p 5) → inR ((65 - 1)) ∧ wX4_addRule_26 Q p a1 ((65 - 1)) I R) ∧ (¬ 65 ≤ (I p 5) → wX4_addRule_26 Q p a1 ((I p 5)) I R)
def wX7_addCell (r0 : Nat) (a1 : Int) (I : cI) (R : cR) (Q : cI → cR → Prop) : Prop := (5 ≤ (I r0 3) → Q I R) ∧ (¬ 5 ≤ (I r0 3) → (0 ≤ (I r0 3) ∧ (I r0 3) < 5) ∧ ∀ I2 : cI, I2 = up2 I (r0 + 130) ((I r0 3)) a1 → inR (((I2 r0 3) + 1)) ∧ ∀ I6 : cI, I6 = up2 I2 r0 3 (((I2 r0 3) + 1)) → ∀ I9 : cI, I9 = up2 I6 r0 5 ((iOr ((I6 r0 5)) ((iShl 1 a1)))) → Q I9 R)
def wbX4_addRowRules_20 (Q : cI → cR → Prop) (p : Nat) (K2 : Int → cI → cR → Prop) (rk : Int → Nat → Int → cI → cR → Prop) (x1 : Int) (x2 : Nat) (x3 : Int) (I : cI) (R : cR) : Prop := ((I p 0) ≤ x3 → inR (x1 + 1) ∧ ∀ z1 : Int, z1 = x1 + 1 → K2 z1 I R) ∧ (¬ (I p 0) ≤ x3 → inR ((x3 + ((I p 0) * x1))) ∧ wX7_addCell x2 ((x3 + ((I p 0) * x1))) I R (fun I6 R7 => inR (x3 + 1) ∧ ∀ z10 : Int, z10 = x3 + 1 → rk x1 x2 z10 I6 R7))
def wX4_addRowRules_20 (Q : cI → cR → Prop) (p : Nat) (K2 : Int → cI → cR → Prop) : Nat → Int → Nat → Int → cI → cR → Prop
  | 0 => fun _ _ _ _ _ => False
  | n + 1 => wbX4_addRowRules_20 Q p K2 (wX4_addRowRules_20 Q p K2 n)
def wbX4_addRowRules_2 (Q : cI → cR → Prop) (p : Nat) (rk : Int → cI → cR → Prop) (x1 : Int) (I : cI) (R : cR) : Prop := ((I p 1) ≤ x1 → Q I R) ∧ (¬ (I p 1) ≤ x1 → wX4_addRule p 0 I R (fun r1 I2 R3 => ∃ n, wX4_addRowRules_20 Q p rk n x1 r1 0 I2 R3))
def wX4_addRowRules_2 (Q : cI → cR → Prop) (p : Nat) : Nat → Int → cI → cR → Prop
  | 0 => fun _ _ _ => False
  | n + 1 => wbX4_addRowRules_2 Q p (wX4_addRowRules_2 Q p n)
def wX4_addRowRules (p : Nat) (I : cI) (R : cR) (Q : cI → cR → Prop) : Prop := ∃ n, wX4_addRowRules_2 Q p n 0 I R
def wbX4_addColumnRules_20 (Q : cI → cR → Prop) (p : Nat) (K2 : Int → cI → cR → Prop) (rk : Int → Nat → Int → cI → cR → Prop) (x1 : Int) (x2 : Nat) (x3 : Int) (I : cI) (R : cR) : Prop := ((I p 1) ≤ x3 → inR (x1 + 1) ∧ ∀ z1 : Int, z1 = x1 + 1 → K2 z1 I R) ∧ (¬ (I p 1) ≤ x3 → inR ((x1 + ((I p 0) * x3))) ∧ wX7_addCell x2 ((x1 + ((I p 0) * x3))) I R (fun I6 R7 => inR (x3 + 1) ∧ ∀ z10 : Int, z10 = x3 + 1 → rk x1 x2 z10 I6 R7))
def wX4_addColumnRules_20 (Q : cI → cR → Prop) (p : Nat) (K2 : Int → cI → cR → Prop) : Nat → Int → Nat → Int → cI → cR → Prop
  | 0 => fun _ _ _ _ _ => False
  | n + 1 => wbX4_addColumnRules_20 Q p K2 (wX4_addColumnRules_20 Q p K2 n)
def wbX4_addColumnRules_2 (Q : cI → cR → Prop) (p : Nat) (rk : Int → cI → cR → Prop) (x1 : Int) (I : cI) (R : cR) : Prop := ((I p 0) ≤ x1 → Q I R) ∧ (¬ (I p 0) ≤ x1 → wX4_addRule p 0 I R (fun r1 I2 R3 => ∃ n, wX4_addColumnRules_20 Q p rk n x1 r1 0 I2 R3))
def wX4_addColumnRules_2 (Q : cI → cR → Prop) (p : Nat) : Nat → Int → cI → cR → Prop
  | 0 => fun _ _ _ => False
  | n + 1 => wbX4_addColumnRules_2 Q p (wX4_addColumnRules_2 Q p n)
def wX4_addColumnRules (p : Nat) (I : cI) (R : cR) (Q : cI → cR → Prop) : Prop := ∃ n, wX4_addColumnRules_2 Q p n 0 I R
def wX5_isAllowed (a0 : Nat) (a1 : Int) (a2 : Int) (I : cI) (R : cR) (Q : Int → cI → cR → Prop) : Prop := (0 ≤ (kN a0) ∧ (kN a0) < 12) ∧ ((swT ((kN a0))) = 6 → (a1 < 1 → Q 0 I R) ∧ (¬ a1 < 1 → (5 < a1 → Q 0 I R) ∧ (¬ 5 < a1 → Q 1 I R))) ∧ ((swT ((kN a0))) = 7 → Q 1 I R) ∧ ((swT ((kN a0))) = 8 → Q 1 I R) ∧ ((swT ((kN a0))) = 9 → (a1 < 1 → Q 0 I R) ∧ (¬ a1 < 1 → (a2 < a1 → Q 0 I R) ∧ (¬ a2 < a1 → Q 1 I R))) ∧ ((swT ((kN a0))) = 10 → (a1 < 1 → Q 0 I R) ∧ (¬ a1 < 1 → (a2 < a1 → Q 0 I R) ∧ (¬ a2 < a1 → Q 1 I R))) ∧ ((swT ((kN a0))) = 11 → (a1 < 1 → Q 0 I R) ∧ (¬ a1 < 1 → (4 < a1 → Q 0 I R) ∧ (¬ 4 < a1 → Q 1 I R))) ∧ (¬ (swT ((kN a0))) = 6 → ¬ (swT ((kN a0))) = 7 → ¬ (swT ((kN a0))) = 8 → ¬ (swT ((kN a0))) = 9 → ¬ (swT ((kN a0))) = 10 → ¬ (swT ((kN a0))) = 11 → Q 1 I R)
def wX5_readNumber (a1 : Nat) (a2 : Nat) (I : cI) (R : cR) (Q : Int → cI → cR → Prop) : Prop := wX10_numberAt ((I 3 3)) I R (fun r1 I2 R3 => ∀ I6 : cI, I6 = up2 I2 a2 1 r1 → wX5_isAllowed ((R3 a2 0)) ((I6 a2 1)) ((I6 a1 2)) I6 R3 (fun r9 I10 R11 => (¬ r9 = 0 → inR (((I10 3 3) + 1)) ∧ ∀ I15 : cI, I15 = up2 I10 3 3 (((I10 3 3) + 1)) → Q 1 I15 R11) ∧ (r9 = 0 → wX5_fail 2 I10 R11 (fun r18 I19 R20 => (r18 = 0 ∨ r18 = 1) ∧ Q r18 I19 R20))))
def wX5_readTimes (a1 : Nat) (I : cI) (R : cR) (Q : Int → cI → cR → Prop) : Prop := wX10_numberAt ((I 3 3)) I R (fun r1 I2 R3 => ∀ I6 : cI, I6 = up2 I2 a1 2 r1 → ((I6 a1 2) ≤ 5 → inR (((I6 3 3) + 1)) ∧ ∀ I10 : cI, I10 = up2 I6 3 3 (((I6 3 3) + 1)) → Q 1 I10 R3) ∧ (¬ (I6 a1 2) ≤ 5 → wX5_fail 2 I6 R3 (fun r13 I14 R15 => (r13 = 0 ∨ r13 = 1) ∧ Q r13 I14 R15)))
def wX7_hasCell (r0 : Nat) (a1 : Int) (I : cI) (R : cR) (Q : Int → cI → cR → Prop) : Prop := ((iAnd ((iShr ((I r0 5)) a1)) 1) = 0 → Q 0 I R) ∧ (¬ (iAnd ((iShr ((I r0 5)) a1)) 1) = 0 → Q 1 I R)
def wX5_readCells_85 (Q : Int → cI → cR → Prop) (a1 : Nat) (a2 : Nat) (I : cI) (R : cR) : Prop := wX5_fail 2 I R (fun r1 I2 R3 => (r1 = 0 ∨ r1 = 1) ∧ Q r1 I2 R3)
def wbX5_readCells_2 (Q : Int → cI → cR → Prop) (a1 : Nat) (a2 : Nat) (rk : Int → cI → cR → Prop) (x3 : Int) (I : cI) (R : cR) : Prop := ((I 4 0) ≤ x3 → Q 1 I R) ∧ (¬ (I 4 0) ≤ x3 → wX10_typeAt ((I 3 3)) I R (fun r1 I2 R3 => (¬ r1 = 3 → Q 1 I2 R3) ∧ (r1 = 3 → wX10_numberAt ((I2 3 3)) I2 R3 (fun r6 I7 R8 => 0 ≤ r6 ∧ inR ((r6 / 10)) ∧ ∀ z13 : Int, z13 = (r6 / 10) → wX10_numberAt ((I7 3 3)) I7 R8 (fun r15 I16 R17 => 0 ≤ r15 ∧ inR (((r15 % 10) - 1)) ∧ ∀ z22 : Int, z22 = ((r15 % 10) - 1) → ((I16 a1 0) ≤ z13 → wX5_readCells_85 Q a1 a2 I16 R17) ∧ (¬ (I16 a1 0) ≤ z13 → (z22 < 0 → wX5_readCells_85 Q a1 a2 I16 R17) ∧ (¬ z22 < 0 → (z22 < (I16 a1 1) → inR ((z13 + ((I16 a1 0) * z22))) ∧ ∀ z25 : Int, z25 = (z13 + ((I16 a1 0) * z22)) → wX7_hasCell a2 z25 I16 R17 (fun r27 I28 R29 => (r27 = 0 → ((I28 a2 3) < 5 → wX7_addCell a2 z25 I28 R29 (fun I33 R34 => inR (((I33 3 3) + 1)) ∧ ∀ I38 : cI, I38 = up2 I33 3 3 (((I33 3 3) + 1)) → inR (x3 + 1) ∧ ∀ z41 : Int, z41 = x3 + 1 → rk z41 I38 R34)) ∧ (¬ (I28 a2 3) < 5 → wX5_fail 4 I28 R29 (fun r44 I45 R46 => (r44 = 0 ∨ r44 = 1) ∧ Q r44 I45 R46))) ∧ (¬ r27 = 0 → wX5_fail 3 I28 R29 (fun r50 I51 R52 => (r50 = 0 ∨ r50 = 1) ∧ Q r50 I51 R52)))) ∧ (¬ z22 < (I16 a1 1) → wX5_readCells_85 Q a1 a2 I16 R17))))))))
def wX5_readCells_2 (Q : Int → cI → cR → Prop) (a1 : Nat) (a2 : Nat) : Nat → Int → cI → cR → Prop
  | 0 => fun _ _ _ => False
  | n + 1 => wbX5_readCells_2 Q a1 a2 (wX5_readCells_2 Q a1 a2 n)
def wX5_readCells (a1 : Nat) (a2 : Nat) (I : cI) (R : cR) (Q : Int → cI → cR → Prop) : Prop := ∃ n, wX5_readCells_2 Q a1 a2 n 0 I R
def wX5_readRule_89 (Q : Int → cI → cR → Prop) (a1 : Nat) (I : cI) (R : cR) : Prop := wX5_fail 1 I R (fun r1 I2 R3 => (r1 = 0 ∨ r1 = 1) ∧ Q r1 I2 R3)
def wX5_readRule_154 (Q : Int → cI → cR → Prop) (a1 : Nat) (x3 : Nat) (I : cI) (R : cR) : Prop := wX5_readCells a1 x3 I R (fun r1 I2 R3 => (r1 = 0 → Q 0 I2 R3) ∧ (¬ r1 = 0 → (¬ (R3 x3 0) = 9 → Q 1 I2 R3) ∧ ((R3 x3 0) = 9 → wX5_readNumber a1 x3 I2 R3 (fun r6 I7 R8 => (r6 = 0 → Q 0 I7 R8) ∧ (¬ r6 = 0 → Q 1 I7 R8)))))
def wX5_readRule_135 (Q : Int → cI → cR → Prop) (a1 : Nat) (x3 : Nat) (I : cI) (R : cR) : Prop := ((kA ((R x3 0))) < 2 → wX5_readRule_154 Q a1 x3 I R) ∧ (¬ (kA ((R x3 0))) < 2 → wX5_readTimes x3 I R (fun r1 I2 R3 => (r1 = 0 → Q 0 I2 R3) ∧ (¬ r1 = 0 → wX5_readRule_154 Q a1 x3 I2 R3)))
def wX5_readRule (a1 : Nat) (I : cI) (R : cR) (Q : Int → cI → cR → Prop) : Prop := wX10_numberAt ((I 3 3)) I R (fun r1 I2 R3 => wX5_rulesOf r1 a1 I2 R3 (fun r6 I7 R8 => inR (((I2 a1 5) + r6)) ∧ (((I2 a1 5) + r6) ≤ 40 → (¬ r1 = 12 → (¬ r1 = 13 → (r1 < 0 → wX5_readRule_89 Q a1 I7 R8) ∧ (¬ r1 < 0 → (r1 < 12 → inR (((I7 3 3) + 1)) ∧ ∀ I13 : cI, I13 = up2 I7 3 3 (((I7 3 3) + 1)) → (0 ≤ r1 ∧ r1 < 12) ∧ wX4_addRule a1 (Int.toNat (r1)) I13 R8 (fun r17 I18 R19 => ((kA ((R19 r17 0))) < 1 → wX5_readRule_135 Q a1 r17 I18 R19) ∧ (¬ (kA ((R19 r17 0))) < 1 → wX5_readNumber a1 r17 I18 R19 (fun r22 I23 R24 => (r22 = 0 → Q 0 I23 R24) ∧ (¬ r22 = 0 → wX5_readRule_135 Q a1 r17 I23 R24))))) ∧ (¬ r1 < 12 → wX5_readRule_89 Q a1 I7 R8))) ∧ (r1 = 13 → wX4_addColumnRules a1 I7 R8 (fun I28 R29 => inR (((I28 3 3) + 1)) ∧ ∀ I33 : cI, I33 = up2 I28 3 3 (((I28 3 3) + 1)) → Q 1 I33 R29))) ∧ (r1 = 12 → wX4_addRowRules a1 I7 R8 (fun I37 R38 => inR (((I37 3 3) + 1)) ∧ ∀ I42 : cI, I42 = up2 I37 3 3 (((I37 3 3) + 1)) → Q 1 I42 R38))) ∧ (¬ ((I2 a1 5) + r6) ≤ 40 → wX5_fail 4 I7 R8 (fun r45 I46 R47 => (r45 = 0 ∨ r45 = 1) ∧ Q r45 I46 R47))))
def wbX5_readRules_7 (Q : Int → cI → cR → Prop) (a1 : Nat) (rk : Int → cI → cR → Prop) (x2 : Int) (I : cI) (R : cR) : Prop := ((I 4 0) ≤ x2 → Q 1 I R) ∧ (¬ (I 4 0) ≤ x2 → wX10_typeAt ((I 3 3)) I R (fun r1 I2 R3 => (¬ r1 = 1 → Q 1 I2 R3) ∧ (r1 = 1 → wX5_readRule a1 I2 R3 (fun r6 I7 R8 => (¬ r6 = 0 → inR (((I7 3 3) + 1)) ∧ ∀ I12 : cI, I12 = up2 I7 3 3 (((I7 3 3) + 1)) → inR (x2 + 1) ∧ ∀ z15 : Int, z15 = x2 + 1 → rk z15 I12 R8) ∧ (r6 = 0 → Q 0 I7 R8)))))
def wX5_readRules_7 (Q : Int → cI → cR → Prop) (a1 : Nat) : Nat → Int → cI → cR → Prop
  | 0 => fun _ _ _ => False
  | n + 1 => wbX5_readRules_7 Q a1 (wX5_readRules_7 Q a1 n)
def wX5_readRules (a1 : Nat) (I : cI) (R : cR) (Q : Int → cI → cR → Prop) : Prop := ∀ I1 : cI, I1 = up2 I 3 3 5 → ∃ n, wX5_readRules_7 Q a1 n 0 I1 R
def wX5_readInto (a1 : Nat) (I : cI) (R : cR) (Q : Int → cI → cR → Prop) : Prop := ∀ I1 : cI, I1 = up2 I 3 0 0 → ∀ I4 : cI, I4 = up2 I1 3 1 (-1) → wX10_split I4 R (fun I8 R9 => wX5_hasForm I8 R9 (fun r12 I13 R14 => (¬ r12 = 0 → wX5_readSizes a1 I13 R14 (fun r17 I18 R19 => (r17 = 0 → Q 0 I18 R19) ∧ (¬ r17 = 0 → wX5_readRules a1 I18 R19 (fun r22 I23 R24 => (r22 = 0 → Q 0 I23 R24) ∧ (¬ r22 = 0 → Q 1 I23 R24))))) ∧ (r12 = 0 → wX5_fail 1 I13 R14 (fun r27 I28 R29 => (r27 = 0 ∨ r27 = 1) ∧ Q r27 I28 R29))))
def wX4_cellCount (p : Nat) (I : cI) (R : cR) (Q : Int → cI → cR → Prop) : Prop := inR (((I p 0) * (I p 1))) ∧ Q (((I p 0) * (I p 1))) I R
def wbX6_begin_12 (Q : cI → cR → Prop) (a1 : Nat) (rk : Int → cI → cR → Prop) (x2 : Int) (I : cI) (R : cR) : Prop := wX4_cellCount a1 I R (fun r1 I2 R3 => (r1 ≤ x2 → Q I2 R3) ∧ (¬ r1 ≤ x2 → (0 ≤ x2 ∧ x2 < 25) ∧ ∀ z7 : Int, z7 = (I2 (a1 + 1) x2) → (¬ z7 = 0 → (0 ≤ x2 ∧ x2 < 25) ∧ ∀ I10 : cI, I10 = up2 I2 81 x2 ((iShl 1 ((z7 - 1)))) → inR (x2 + 1) ∧ ∀ z13 : Int, z13 = x2 + 1 → rk z13 I10 R3) ∧ (z7 = 0 → inR (((iShl 1 ((I2 a1 2))) - 1)) ∧ (0 ≤ x2 ∧ x2 < 25) ∧ ∀ I18 : cI, I18 = up2 I2 81 x2 (((iShl 1 ((I2 a1 2))) - 1)) → inR (x2 + 1) ∧ ∀ z21 : Int, z21 = x2 + 1 → rk z21 I18 R3)))
def wX6_begin_12 (Q : cI → cR → Prop) (a1 : Nat) : Nat → Int → cI → cR → Prop
  | 0 => fun _ _ _ => False
  | n + 1 => wbX6_begin_12 Q a1 (wX6_begin_12 Q a1 n)
def wX6_begin (a1 : Nat) (I : cI) (R : cR) (Q : cI → cR → Prop) : Prop := ∀ I1 : cI, I1 = up2 I 80 1 0 → ∀ I4 : cI, I4 = up2 I1 80 2 0 → ∃ n, wX6_begin_12 Q a1 n 0 I4 R
def wX11_takeDraft (I : cI) (R : cR) (Q : cI → cR → Prop) : Prop := ∀ R1 : cR, R1 = up2 R 0 7 ((R 0 8)) → ∀ R4 : cR, R4 = up2 R1 0 8 ((R 0 7)) → ∀ I7 : cI, I7 = up2 I 10 1 0 → wX6_begin ((R4 0 7)) I7 R4 (fun I11 R12 => Q I11 R12)
def wX11_compile_22 (Q : Int → cI → cR → Prop) (I : cI) (R : cR) : Prop := ∀ I1 : cI, I1 = up2 I 1 0 0 → Q ((I1 3 0)) I1 R
def wX11_compile (I : cI) (R : cR) (Q : Int → cI → cR → Prop) : Prop := wX5_readInto ((R 0 8)) I R (fun r1 I2 R3 => (r1 = 0 → wX11_compile_22 Q I2 R3) ∧ (¬ r1 = 0 → wX11_takeDraft I2 R3 (fun I7 R8 => wX11_compile_22 Q I7 R8)))
def wbX4_countGivens_4 (Q : Int → cI → cR → Prop) (p : Nat) (rk : Int → Int → cI → cR → Prop) (x1 : Int) (x2 : Int) (I : cI) (R : cR) : Prop := ((I p 5) ≤ x2 → Q x1 I R) ∧ (¬ (I p 5) ≤ x2 → (0 ≤ x2 ∧ x2 < 65) ∧ (¬ (R ((R (p + 2) x2)) 0) = 9 → inR (x2 + 1) ∧ ∀ z2 : Int, z2 = x2 + 1 → rk x1 z2 I R) ∧ ((R ((R (p + 2) x2)) 0) = 9 → inR (x1 + 1) ∧ ∀ z5 : Int, z5 = x1 + 1 → inR (x2 + 1) ∧ ∀ z8 : Int, z8 = x2 + 1 → rk z5 z8 I R))
def wX4_countGivens_4 (Q : Int → cI → cR → Prop) (p : Nat) : Nat → Int → Int → cI → cR → Prop
  | 0 => fun _ _ _ _ => False
  | n + 1 => wbX4_countGivens_4 Q p (wX4_countGivens_4 Q p n)
def wX4_countGivens (p : Nat) (I : cI) (R : cR) (Q : Int → cI → cR → Prop) : Prop := ∃ n, wX4_countGivens_4 Q p n 0 0 I R
def wbX4_countFilled_4 (Q : Int → cI → cR → Prop) (p : Nat) (rk : Int → Int → cI → cR → Prop) (x1 : Int) (x2 : Int) (I : cI) (R : cR) : Prop := wX4_cellCount p I R (fun r1 I2 R3 => (r1 ≤ x2 → Q x1 I2 R3) ∧ (¬ r1 ≤ x2 → (0 ≤ x2 ∧ x2 < 25) ∧ ((I2 (p + 1) x2) = 0 → inR (x2 + 1) ∧ ∀ z7 : Int, z7 = x2 + 1 → rk x1 z7 I2 R3) ∧ (¬ (I2 (p + 1) x2) = 0 → inR (x1 + 1) ∧ ∀ z10 : Int, z10 = x1 + 1 → inR (x2 + 1) ∧ ∀ z13 : Int, z13 = x2 + 1 → rk z10 z13 I2 R3)))
def wX4_countFilled_4 (Q : Int → cI → cR → Prop) (p : Nat) : Nat → Int → Int → cI → cR → Prop
  | 0 => fun _ _ _ _ => False
  | n + 1 => wbX4_countFilled_4 Q p (wX4_countFilled_4 Q p n)
def wX4_countFilled (p : Nat) (I : cI) (R : cR) (Q : Int → cI → cR → Prop) : Prop := ∃ n, wX4_countFilled_4 Q p n 0 0 I R
def wX7_hasPair_62 (Q : Int → cI → cR → Prop) (r0 : Nat) (a1 : Nat) (a2 : Int) (K2 : Int → cI → cR → Prop) (K23 : Int → Int → Int → cI → cR → Prop) (x3 : Int) (x4 : Int) (x5 : Int) (y0 : Int) (I : cI) (R : cR) : Prop := (¬ y0 = a2 → inR (x5 + 1) ∧ ∀ z1 : Int, z1 = x5 + 1 → K23 x3 x4 z1 I R) ∧ (y0 = a2 → Q 1 I R)
def wbX7_hasPair_23 (Q : Int → cI → cR → Prop) (r0 : Nat) (a1 : Nat) (a2 : Int) (K2 : Int → cI → cR → Prop) (rk : Int → Int → Int → cI → cR → Prop) (x3 : Int) (x4 : Int) (x5 : Int) (I : cI) (R : cR) : Prop := (x3 ≤ x5 → inR (x3 + 1) ∧ ∀ z1 : Int, z1 = x3 + 1 → K2 z1 I R) ∧ (¬ x3 ≤ x5 → (x4 = 0 → inR (x3 + 1) ∧ ∀ z4 : Int, z4 = x3 + 1 → K2 z4 I R) ∧ (¬ x4 = 0 → (0 ≤ x5 ∧ x5 < 5) ∧ (0 ≤ (I (r0 + 130) x5) ∧ (I (r0 + 130) x5) < 25) ∧ ∀ z9 : Int, z9 = (I a1 ((I (r0 + 130) x5))) → (z9 = 0 → inR (x5 + 1) ∧ ∀ z11 : Int, z11 = x5 + 1 → rk x3 x4 z11 I R) ∧ (¬ z9 = 0 → (¬ z9 = x4 → wX7_hasPair_62 Q r0 a1 a2 K2 rk x3 x4 x5 0 I R) ∧ (z9 = x4 → wX7_hasPair_62 Q r0 a1 a2 K2 rk x3 x4 x5 1 I R))))
def wX7_hasPair_23 (Q : Int → cI → cR → Prop) (r0 : Nat) (a1 : Nat) (a2 : Int) (K2 : Int → cI → cR → Prop) : Nat → Int → Int → Int → cI → cR → Prop
  | 0 => fun _ _ _ _ _ => False
  | n + 1 => wbX7_hasPair_23 Q r0 a1 a2 K2 (wX7_hasPair_23 Q r0 a1 a2 K2 n)
def wbX7_hasPair_2 (Q : Int → cI → cR → Prop) (r0 : Nat) (a1 : Nat) (a2 : Int) (rk : Int → cI → cR → Prop) (x3 : Int) (I : cI) (R : cR) : Prop := ((I r0 3) ≤ x3 → Q 0 I R) ∧ (¬ (I r0 3) ≤ x3 → (0 ≤ x3 ∧ x3 < 5) ∧ (0 ≤ (I (r0 + 130) x3) ∧ (I (r0 + 130) x3) < 25) ∧ ∀ z3 : Int, z3 = (I a1 ((I (r0 + 130) x3))) → ∃ n, wX7_hasPair_23 Q r0 a1 a2 rk n x3 z3 0 I R)
def wX7_hasPair_2 (Q : Int → cI → cR → Prop) (r0 : Nat) (a1 : Nat) (a2 : Int) : Nat → Int → cI → cR → Prop
  | 0 => fun _ _ _ => False
  | n + 1 => wbX7_hasPair_2 Q r0 a1 a2 (wX7_hasPair_2 Q r0 a1 a2 n)
def wX7_hasPair (r0 : Nat) (a1 : Nat) (a2 : Int) (I : cI) (R : cR) (Q : Int → cI → cR → Prop) : Prop := ∃ n, wX7_hasPair_2 Q r0 a1 a2 n 1 I R
def wbX7_breaksSum_8 (Q : Int → cI → cR → Prop) (r0 : Nat) (a1 : Nat) (a2 : Int) (rk : Int → Int → Int → cI → cR → Prop) (x3 : Int) (x4 : Int) (x5 : Int) (I : cI) (R : cR) : Prop := ((I r0 3) ≤ x5 → inR ((x3 + x4)) ∧ ((I r0 1) < (x3 + x4) → Q 1 I R) ∧ (¬ (I r0 1) < (x3 + x4) → inR ((x3 + (a2 * x4))) ∧ ((I r0 1) ≤ (x3 + (a2 * x4)) → Q 0 I R) ∧ (¬ (I r0 1) ≤ (x3 + (a2 * x4)) → Q 1 I R))) ∧ (¬ (I r0 3) ≤ x5 → (0 ≤ x5 ∧ x5 < 5) ∧ (0 ≤ (I (r0 + 130) x5) ∧ (I (r0 + 130) x5) < 25) ∧ ∀ z5 : Int, z5 = (I a1 ((I (r0 + 130) x5))) → inR ((x3 + z5)) ∧ ∀ z8 : Int, z8 = (x3 + z5) → (¬ z5 = 0 → inR (x5 + 1) ∧ ∀ z10 : Int, z10 = x5 + 1 → rk z8 x4 z10 I R) ∧ (z5 = 0 → inR (x4 + 1) ∧ ∀ z13 : Int, z13 = x4 + 1 → inR (x5 + 1) ∧ ∀ z16 : Int, z16 = x5 + 1 → rk z8 z13 z16 I R))
def wX7_breaksSum_8 (Q : Int → cI → cR → Prop) (r0 : Nat) (a1 : Nat) (a2 : Int) : Nat → Int → Int → Int → cI → cR → Prop
  | 0 => fun _ _ _ _ _ => False
  | n + 1 => wbX7_breaksSum_8 Q r0 a1 a2 (wX7_breaksSum_8 Q r0 a1 a2 n)
def wX7_breaksSum (r0 : Nat) (a1 : Nat) (a2 : Int) (I : cI) (R : cR) (Q : Int → cI → cR → Prop) : Prop := ∃ n, wX7_breaksSum_8 Q r0 a1 a2 n 0 0 0 I R
def wbX7_breaksProduct_7 (Q : Int → cI → cR → Prop) (r0 : Nat) (a1 : Nat) (rk : Int → Int → Int → cI → cR → Prop) (x2 : Int) (x3 : Int) (x4 : Int) (I : cI) (R : cR) : Prop := ((I r0 3) ≤ x4 → (x2 < 1 → Q 1 I R) ∧ (¬ x2 < 1 → (0 ≤ (I r0 1) ∧ 0 < x2) ∧ inR (((I r0 1) % x2)) ∧ (((I r0 1) % x2) = 0 → (¬ x3 = 0 → Q 0 I R) ∧ (x3 = 0 → (x2 = (I r0 1) → Q 0 I R) ∧ (¬ x2 = (I r0 1) → Q 1 I R))) ∧ (¬ ((I r0 1) % x2) = 0 → Q 1 I R))) ∧ (¬ (I r0 3) ≤ x4 → (0 ≤ x4 ∧ x4 < 5) ∧ (0 ≤ (I (r0 + 130) x4) ∧ (I (r0 + 130) x4) < 25) ∧ ∀ z5 : Int, z5 = (I a1 ((I (r0 + 130) x4))) → (z5 ≤ 0 → inR (x4 + 1) ∧ ∀ z7 : Int, z7 = x4 + 1 → rk x2 1 z7 I R) ∧ (¬ z5 ≤ 0 → inR ((x2 * z5)) ∧ ∀ z11 : Int, z11 = (x2 * z5) → inR (x4 + 1) ∧ ∀ z13 : Int, z13 = x4 + 1 → rk z11 x3 z13 I R))
def wX7_breaksProduct_7 (Q : Int → cI → cR → Prop) (r0 : Nat) (a1 : Nat) : Nat → Int → Int → Int → cI → cR → Prop
  | 0 => fun _ _ _ _ _ => False
  | n + 1 => wbX7_breaksProduct_7 Q r0 a1 (wX7_breaksProduct_7 Q r0 a1 n)
def wX7_breaksProduct (r0 : Nat) (a1 : Nat) (I : cI) (R : cR) (Q : Int → cI → cR → Prop) : Prop := ∃ n, wX7_breaksProduct_7 Q r0 a1 n 1 0 0 I R
def wbX7_breaksOrder_22 (Q : Int → cI → cR → Prop) (r0 : Nat) (a1 : Nat) (K2 : Int → cI → cR → Prop) (rk : Int → Int → Int → cI → cR → Prop) (x2 : Int) (x3 : Int) (x4 : Int) (I : cI) (R : cR) : Prop := (x2 ≤ x4 → inR (x2 + 1) ∧ ∀ z1 : Int, z1 = x2 + 1 → K2 z1 I R) ∧ (¬ x2 ≤ x4 → (x3 = 0 → inR (x2 + 1) ∧ ∀ z4 : Int, z4 = x2 + 1 → K2 z4 I R) ∧ (¬ x3 = 0 → (0 ≤ x4 ∧ x4 < 5) ∧ (0 ≤ (I (r0 + 130) x4) ∧ (I (r0 + 130) x4) < 25) ∧ ∀ z9 : Int, z9 = (I a1 ((I (r0 + 130) x4))) → (z9 = 0 → inR (x4 + 1) ∧ ∀ z11 : Int, z11 = x4 + 1 → rk x2 x3 z11 I R) ∧ (¬ z9 = 0 → inR ((x3 - z9)) ∧ inR ((x2 - x4)) ∧ ((x2 - x4) ≤ (x3 - z9) → inR (x4 + 1) ∧ ∀ z16 : Int, z16 = x4 + 1 → rk x2 x3 z16 I R) ∧ (¬ (x2 - x4) ≤ (x3 - z9) → Q 1 I R))))
def wX7_breaksOrder_22 (Q : Int → cI → cR → Prop) (r0 : Nat) (a1 : Nat) (K2 : Int → cI → cR → Prop) : Nat → Int → Int → Int → cI → cR → Prop
  | 0 => fun _ _ _ _ _ => False
  | n + 1 => wbX7_breaksOrder_22 Q r0 a1 K2 (wX7_breaksOrder_22 Q r0 a1 K2 n)
def wbX7_breaksOrder_2 (Q : Int → cI → cR → Prop) (r0 : Nat) (a1 : Nat) (rk : Int → cI → cR → Prop) (x2 : Int) (I : cI) (R : cR) : Prop := ((I r0 3) ≤ x2 → Q 0 I R) ∧ (¬ (I r0 3) ≤ x2 → (0 ≤ x2 ∧ x2 < 5) ∧ (0 ≤ (I (r0 + 130) x2) ∧ (I (r0 + 130) x2) < 25) ∧ ∀ z3 : Int, z3 = (I a1 ((I (r0 + 130) x2))) → ∃ n, wX7_breaksOrder_22 Q r0 a1 rk n x2 z3 0 I R)
def wX7_breaksOrder_2 (Q : Int → cI → cR → Prop) (r0 : Nat) (a1 : Nat) : Nat → Int → cI → cR → Prop
  | 0 => fun _ _ _ => False
  | n + 1 => wbX7_breaksOrder_2 Q r0 a1 (wX7_breaksOrder_2 Q r0 a1 n)
def wX7_breaksOrder (r0 : Nat) (a1 : Nat) (I : cI) (R : cR) (Q : Int → cI → cR → Prop) : Prop := ∃ n, wX7_breaksOrder_2 Q r0 a1 n 1 I R
def wbX7_breaksSight_7 (Q : Int → cI → cR → Prop) (r0 : Nat) (a1 : Nat) (rk : Int → Int → Int → cI → cR → Prop) (x2 : Int) (x3 : Int) (x4 : Int) (I : cI) (R : cR) : Prop := ((I r0 3) ≤ x4 → (x2 = (I r0 1) → Q 0 I R) ∧ (¬ x2 = (I r0 1) → Q 1 I R)) ∧ (¬ (I r0 3) ≤ x4 → (0 ≤ x4 ∧ x4 < 5) ∧ (0 ≤ (I (r0 + 130) x4) ∧ (I (r0 + 130) x4) < 25) ∧ ∀ z3 : Int, z3 = (I a1 ((I (r0 + 130) x4))) → (¬ z3 = 0 → (z3 ≤ x3 → inR (x4 + 1) ∧ ∀ z5 : Int, z5 = x4 + 1 → rk x2 x3 z5 I R) ∧ (¬ z3 ≤ x3 → inR (x2 + 1) ∧ ∀ z8 : Int, z8 = x2 + 1 → inR (x4 + 1) ∧ ∀ z11 : Int, z11 = x4 + 1 → rk z8 z3 z11 I R)) ∧ (z3 = 0 → Q 0 I R))
def wX7_breaksSight_7 (Q : Int → cI → cR → Prop) (r0 : Nat) (a1 : Nat) : Nat → Int → Int → Int → cI → cR → Prop
  | 0 => fun _ _ _ _ _ => False
  | n + 1 => wbX7_breaksSight_7 Q r0 a1 (wX7_breaksSight_7 Q r0 a1 n)
def wX7_breaksSight (r0 : Nat) (a1 : Nat) (I : cI) (R : cR) (Q : Int → cI → cR → Prop) : Prop := ∃ n, wX7_breaksSight_7 Q r0 a1 n 0 0 0 I R
def wbX7_hasRemainder_2 (Q : Int → cI → cR → Prop) (r0 : Nat) (a1 : Nat) (a2 : Int) (rk : Int → cI → cR → Prop) (x3 : Int) (I : cI) (R : cR) : Prop := ((I r0 3) ≤ x3 → Q 0 I R) ∧ (¬ (I r0 3) ≤ x3 → (0 ≤ x3 ∧ x3 < 5) ∧ (0 ≤ (I (r0 + 130) x3) ∧ (I (r0 + 130) x3) < 25) ∧ ∀ z3 : Int, z3 = (I a1 ((I (r0 + 130) x3))) → (z3 = 0 → inR (x3 + 1) ∧ ∀ z5 : Int, z5 = x3 + 1 → rk z5 I R) ∧ (¬ z3 = 0 → (¬ (iAnd z3 1) = a2 → inR (x3 + 1) ∧ ∀ z8 : Int, z8 = x3 + 1 → rk z8 I R) ∧ ((iAnd z3 1) = a2 → Q 1 I R)))
def wX7_hasRemainder_2 (Q : Int → cI → cR → Prop) (r0 : Nat) (a1 : Nat) (a2 : Int) : Nat → Int → cI → cR → Prop
  | 0 => fun _ _ _ => False
  | n + 1 => wbX7_hasRemainder_2 Q r0 a1 a2 (wX7_hasRemainder_2 Q r0 a1 a2 n)
def wX7_hasRemainder (r0 : Nat) (a1 : Nat) (a2 : Int) (I : cI) (R : cR) (Q : Int → cI → cR → Prop) : Prop := ∃ n, wX7_hasRemainder_2 Q r0 a1 a2 n 0 I R
def wbX7_breaksCount_7 (Q : Int → cI → cR → Prop) (r0 : Nat) (a1 : Nat) (rk : Int → Int → Int → cI → cR → Prop) (x2 : Int) (x3 : Int) (x4 : Int) (I : cI) (R : cR) : Prop := ((I r0 3) ≤ x4 → ((I r0 2) < x2 → Q 1 I R) ∧ (¬ (I r0 2) < x2 → inR ((x2 + x3)) ∧ ((I r0 2) ≤ (x2 + x3) → Q 0 I R) ∧ (¬ (I r0 2) ≤ (x2 + x3) → Q 1 I R))) ∧ (¬ (I r0 3) ≤ x4 → (0 ≤ x4 ∧ x4 < 5) ∧ (0 ≤ (I (r0 + 130) x4) ∧ (I (r0 + 130) x4) < 25) ∧ ∀ z4 : Int, z4 = (I a1 ((I (r0 + 130) x4))) → (¬ z4 = (I r0 1) → (¬ z4 = 0 → inR (x4 + 1) ∧ ∀ z6 : Int, z6 = x4 + 1 → rk x2 x3 z6 I R) ∧ (z4 = 0 → inR (x3 + 1) ∧ ∀ z9 : Int, z9 = x3 + 1 → inR (x4 + 1) ∧ ∀ z12 : Int, z12 = x4 + 1 → rk x2 z9 z12 I R)) ∧ (z4 = (I r0 1) → inR (x2 + 1) ∧ ∀ z15 : Int, z15 = x2 + 1 → inR (x4 + 1) ∧ ∀ z18 : Int, z18 = x4 + 1 → rk z15 x3 z18 I R))
def wX7_breaksCount_7 (Q : Int → cI → cR → Prop) (r0 : Nat) (a1 : Nat) : Nat → Int → Int → Int → cI → cR → Prop
  | 0 => fun _ _ _ _ _ => False
  | n + 1 => wbX7_breaksCount_7 Q r0 a1 (wX7_breaksCount_7 Q r0 a1 n)
def wX7_breaksCount (r0 : Nat) (a1 : Nat) (I : cI) (R : cR) (Q : Int → cI → cR → Prop) : Prop := ∃ n, wX7_breaksCount_7 Q r0 a1 n 0 0 0 I R
def wbX7_breaksIs_2 (Q : Int → cI → cR → Prop) (r0 : Nat) (a1 : Nat) (rk : Int → cI → cR → Prop) (x2 : Int) (I : cI) (R : cR) : Prop := ((I r0 3) ≤ x2 → Q 0 I R) ∧ (¬ (I r0 3) ≤ x2 → (0 ≤ x2 ∧ x2 < 5) ∧ (0 ≤ (I (r0 + 130) x2) ∧ (I (r0 + 130) x2) < 25) ∧ ∀ z3 : Int, z3 = (I a1 ((I (r0 + 130) x2))) → (z3 = 0 → inR (x2 + 1) ∧ ∀ z5 : Int, z5 = x2 + 1 → rk z5 I R) ∧ (¬ z3 = 0 → (z3 = (I r0 1) → inR (x2 + 1) ∧ ∀ z8 : Int, z8 = x2 + 1 → rk z8 I R) ∧ (¬ z3 = (I r0 1) → Q 1 I R)))
def wX7_breaksIs_2 (Q : Int → cI → cR → Prop) (r0 : Nat) (a1 : Nat) : Nat → Int → cI → cR → Prop
  | 0 => fun _ _ _ => False
  | n + 1 => wbX7_breaksIs_2 Q r0 a1 (wX7_breaksIs_2 Q r0 a1 n)
def wX7_breaksIs (r0 : Nat) (a1 : Nat) (I : cI) (R : cR) (Q : Int → cI → cR → Prop) : Prop := ∃ n, wX7_breaksIs_2 Q r0 a1 n 0 I R
def wX7_breaksApart_48 (Q : Int → cI → cR → Prop) (r0 : Nat) (a1 : Nat) (K2 : Int → cI → cR → Prop) (x2 : Int) (x3 : Int) (x4 : Int) (y0 : Int) (I : cI) (R : cR) : Prop := (x3 = 0 → inR (x2 + 1) ∧ ∀ z1 : Int, z1 = x2 + 1 → K2 z1 I R) ∧ (¬ x3 = 0 → (x4 = 0 → inR (x2 + 1) ∧ ∀ z4 : Int, z4 = x2 + 1 → K2 z4 I R) ∧ (¬ x4 = 0 → ((I r0 1) ≤ y0 → inR (x2 + 1) ∧ ∀ z7 : Int, z7 = x2 + 1 → K2 z7 I R) ∧ (¬ (I r0 1) ≤ y0 → Q 1 I R)))
def wbX7_breaksApart_2 (Q : Int → cI → cR → Prop) (r0 : Nat) (a1 : Nat) (rk : Int → cI → cR → Prop) (x2 : Int) (I : cI) (R : cR) : Prop := ((I r0 3) ≤ x2 → Q 0 I R) ∧ (¬ (I r0 3) ≤ x2 → (0 ≤ (x2 - 1) ∧ (x2 - 1) < 5) ∧ (0 ≤ (I (r0 + 130) ((x2 - 1))) ∧ (I (r0 + 130) ((x2 - 1))) < 25) ∧ ∀ z3 : Int, z3 = (I a1 ((I (r0 + 130) ((x2 - 1))))) → (0 ≤ x2 ∧ x2 < 5) ∧ (0 ≤ (I (r0 + 130) x2) ∧ (I (r0 + 130) x2) < 25) ∧ ∀ z7 : Int, z7 = (I a1 ((I (r0 + 130) x2))) → (z7 ≤ z3 → inR ((z3 - z7)) ∧ wX7_breaksApart_48 Q r0 a1 rk x2 z3 z7 ((z3 - z7)) I R) ∧ (¬ z7 ≤ z3 → inR ((z7 - z3)) ∧ wX7_breaksApart_48 Q r0 a1 rk x2 z3 z7 ((z7 - z3)) I R))
def wX7_breaksApart_2 (Q : Int → cI → cR → Prop) (r0 : Nat) (a1 : Nat) : Nat → Int → cI → cR → Prop
  | 0 => fun _ _ _ => False
  | n + 1 => wbX7_breaksApart_2 Q r0 a1 (wX7_breaksApart_2 Q r0 a1 n)
def wX7_breaksApart (r0 : Nat) (a1 : Nat) (I : cI) (R : cR) (Q : Int → cI → cR → Prop) : Prop := ∃ n, wX7_breaksApart_2 Q r0 a1 n 1 I R
def wX7_isBroken (r0 : Nat) (a1 : Nat) (a2 : Int) (I : cI) (R : cR) (Q : Int → cI → cR → Prop) : Prop := (0 ≤ (kN ((R r0 0))) ∧ (kN ((R r0 0))) < 12) ∧ ((swT ((kN ((R r0 0))))) = 1 → wX7_hasPair r0 a1 1 I R (fun r2 I3 R4 => (r2 = 0 ∨ r2 = 1) ∧ Q r2 I3 R4)) ∧ ((swT ((kN ((R r0 0))))) = 2 → wX7_breaksSum r0 a1 a2 I R (fun r8 I9 R10 => (r8 = 0 ∨ r8 = 1) ∧ Q r8 I9 R10)) ∧ ((swT ((kN ((R r0 0))))) = 3 → wX7_breaksProduct r0 a1 I R (fun r14 I15 R16 => (r14 = 0 ∨ r14 = 1) ∧ Q r14 I15 R16)) ∧ ((swT ((kN ((R r0 0))))) = 4 → wX7_breaksOrder r0 a1 I R (fun r20 I21 R22 => (r20 = 0 ∨ r20 = 1) ∧ Q r20 I21 R22)) ∧ ((swT ((kN ((R r0 0))))) = 5 → wX7_breaksOrder r0 a1 I R (fun r26 I27 R28 => (r26 = 0 ∨ r26 = 1) ∧ Q r26 I27 R28)) ∧ ((swT ((kN ((R r0 0))))) = 6 → wX7_breaksSight r0 a1 I R (fun r32 I33 R34 => (r32 = 0 ∨ r32 = 1) ∧ Q r32 I33 R34)) ∧ ((swT ((kN ((R r0 0))))) = 7 → wX7_hasRemainder r0 a1 0 I R (fun r38 I39 R40 => (r38 = 0 ∨ r38 = 1) ∧ Q r38 I39 R40)) ∧ ((swT ((kN ((R r0 0))))) = 8 → wX7_hasRemainder r0 a1 1 I R (fun r44 I45 R46 => (r44 = 0 ∨ r44 = 1) ∧ Q r44 I45 R46)) ∧ ((swT ((kN ((R r0 0))))) = 9 → wX7_breaksCount r0 a1 I R (fun r50 I51 R52 => (r50 = 0 ∨ r50 = 1) ∧ Q r50 I51 R52)) ∧ ((swT ((kN ((R r0 0))))) = 10 → wX7_breaksIs r0 a1 I R (fun r56 I57 R58 => (r56 = 0 ∨ r56 = 1) ∧ Q r56 I57 R58)) ∧ ((swT ((kN ((R r0 0))))) = 11 → wX7_breaksApart r0 a1 I R (fun r62 I63 R64 => (r62 = 0 ∨ r62 = 1) ∧ Q r62 I63 R64)) ∧ (¬ (swT ((kN ((R r0 0))))) = 1 → ¬ (swT ((kN ((R r0 0))))) = 2 → ¬ (swT ((kN ((R r0 0))))) = 3 → ¬ (swT ((kN ((R r0 0))))) = 4 → ¬ (swT ((kN ((R r0 0))))) = 5 → ¬ (swT ((kN ((R r0 0))))) = 6 → ¬ (swT ((kN ((R r0 0))))) = 7 → ¬ (swT ((kN ((R r0 0))))) = 8 → ¬ (swT ((kN ((R r0 0))))) = 9 → ¬ (swT ((kN ((R r0 0))))) = 10 → ¬ (swT ((kN ((R r0 0))))) = 11 → wX7_hasPair r0 a1 0 I R (fun r68 I69 R70 => (r68 = 0 ∨ r68 = 1) ∧ Q r68 I69 R70))
def wbX4_countBroken_4 (Q : Int → cI → cR → Prop) (p : Nat) (rk : Int → Int → cI → cR → Prop) (x1 : Int) (x2 : Int) (I : cI) (R : cR) : Prop := ((I p 5) ≤ x2 → Q x1 I R) ∧ (¬ (I p 5) ≤ x2 → (0 ≤ x2 ∧ x2 < 65) ∧ wX7_isBroken ((R (p + 2) x2)) (p + 1) ((I p 2)) I R (fun r2 I3 R4 => (r2 = 0 → inR (x2 + 1) ∧ ∀ z7 : Int, z7 = x2 + 1 → rk x1 z7 I3 R4) ∧ (¬ r2 = 0 → inR (x1 + 1) ∧ ∀ z10 : Int, z10 = x1 + 1 → inR (x2 + 1) ∧ ∀ z13 : Int, z13 = x2 + 1 → rk z10 z13 I3 R4)))
def wX4_countBroken_4 (Q : Int → cI → cR → Prop) (p : Nat) : Nat → Int → Int → cI → cR → Prop
  | 0 => fun _ _ _ _ => False
  | n + 1 => wbX4_countBroken_4 Q p (wX4_countBroken_4 Q p n)
def wX4_countBroken (p : Nat) (I : cI) (R : cR) (Q : Int → cI → cR → Prop) : Prop := ∃ n, wX4_countBroken_4 Q p n 0 0 I R
def wX11_count (a1 : Int) (I : cI) (R : cR) (Q : Int → cI → cR → Prop) (Qx : Nat → cI → cR → Prop) : Prop := (a1 = 0 → Q ((I ((R 0 7)) 0)) I R) ∧ (a1 = 1 → Q ((I ((R 0 7)) 1)) I R) ∧ (a1 = 2 → Q ((I ((R 0 7)) 2)) I R) ∧ (a1 = 3 → Q ((I ((R 0 7)) 5)) I R) ∧ (a1 = 4 → wX4_countGivens ((R 0 7)) I R (fun r1 I2 R3 => Q r1 I2 R3)) ∧ (a1 = 5 → wX4_countFilled ((R 0 7)) I R (fun r6 I7 R8 => Q r6 I7 R8)) ∧ (a1 = 6 → wX4_countBroken ((R 0 7)) I R (fun r11 I12 R13 => Q r11 I12 R13)) ∧ (a1 = 7 → Q ((I 10 1)) I R) ∧ (a1 = 8 → Q ((I 10 2)) I R) ∧ (a1 = 9 → Q ((I 1 0)) I R) ∧ (a1 = 10 → Q ((I 8 1)) I R) ∧ (¬ a1 = 0 → ¬ a1 = 1 → ¬ a1 = 2 → ¬ a1 = 3 → ¬ a1 = 4 → ¬ a1 = 5 → ¬ a1 = 6 → ¬ a1 = 7 → ¬ a1 = 8 → ¬ a1 = 9 → ¬ a1 = 10 → Qx 2 I R)
def wX11_requireRule_15 (Q : cI → cR → Prop) (Qx : Nat → cI → cR → Prop) (a1 : Int) (I : cI) (R : cR) : Prop := Qx 2 I R
def wX11_requireRule (a1 : Int) (I : cI) (R : cR) (Q : cI → cR → Prop) (Qx : Nat → cI → cR → Prop) : Prop := (a1 < 0 → wX11_requireRule_15 Q Qx a1 I R) ∧ (¬ a1 < 0 → (a1 < (I ((R 0 7)) 5) → Q I R) ∧ (¬ a1 < (I ((R 0 7)) 5) → wX11_requireRule_15 Q Qx a1 I R))
def wX7_cellOrNone (r0 : Nat) (a1 : Int) (I : cI) (R : cR) (Q : Int → cI → cR → Prop) : Prop := (a1 < 0 → Q (-1) I R) ∧ (¬ a1 < 0 → ((I r0 3) ≤ a1 → Q (-1) I R) ∧ (¬ (I r0 3) ≤ a1 → (0 ≤ a1 ∧ a1 < 5) ∧ Q ((I (r0 + 130) a1)) I R))
def wX11_rule (a1 : Int) (a2 : Int) (I : cI) (R : cR) (Q : Int → cI → cR → Prop) (Qx : Nat → cI → cR → Prop) : Prop := wX11_requireRule a1 I R (fun I2 R3 => (0 ≤ a1 ∧ a1 < 65) ∧ (a2 = 0 → Q ((kN ((R3 ((R3 ((R3 0 7) + 2) a1)) 0)))) I2 R3) ∧ (a2 = 1 → Q ((I2 ((R3 ((R3 0 7) + 2) a1)) 1)) I2 R3) ∧ (a2 = 2 → Q ((I2 ((R3 ((R3 0 7) + 2) a1)) 2)) I2 R3) ∧ (a2 = 3 → Q ((I2 ((R3 ((R3 0 7) + 2) a1)) 3)) I2 R3) ∧ (a2 = 4 → inR ((a2 - 4)) ∧ wX7_cellOrNone ((R3 ((R3 0 7) + 2) a1)) ((a2 - 4)) I2 R3 (fun r8 I9 R10 => Q r8 I9 R10)) ∧ (a2 = 5 → inR ((a2 - 4)) ∧ wX7_cellOrNone ((R3 ((R3 0 7) + 2) a1)) ((a2 - 4)) I2 R3 (fun r14 I15 R16 => Q r14 I15 R16)) ∧ (a2 = 6 → inR ((a2 - 4)) ∧ wX7_cellOrNone ((R3 ((R3 0 7) + 2) a1)) ((a2 - 4)) I2 R3 (fun r20 I21 R22 => Q r20 I21 R22)) ∧ (a2 = 7 → inR ((a2 - 4)) ∧ wX7_cellOrNone ((R3 ((R3 0 7) + 2) a1)) ((a2 - 4)) I2 R3 (fun r26 I27 R28 => Q r26 I27 R28)) ∧ (a2 = 8 → inR ((a2 - 4)) ∧ wX7_cellOrNone ((R3 ((R3 0 7) + 2) a1)) ((a2 - 4)) I2 R3 (fun r32 I33 R34 => Q r32 I33 R34)) ∧ (a2 = 9 → wX7_isBroken ((R3 ((R3 0 7) + 2) a1)) ((R3 0 7) + 1) ((I2 ((R3 0 7)) 2)) I2 R3 (fun r37 I38 R39 => (r37 = 0 → Q 0 I38 R39) ∧ (¬ r37 = 0 → Q 1 I38 R39))) ∧ (¬ a2 = 0 → ¬ a2 = 1 → ¬ a2 = 2 → ¬ a2 = 3 → ¬ a2 = 4 → ¬ a2 = 5 → ¬ a2 = 6 → ¬ a2 = 7 → ¬ a2 = 8 → ¬ a2 = 9 → Qx 2 I2 R3)) Qx
def wbX4_removeRule_19 (Q : cI → cR → Prop) (p : Nat) (a1 : Int) (rk : Nat → Int → cI → cR → Prop) (x2 : Nat) (x3 : Int) (I : cI) (R : cR) : Prop := ((I p 5) ≤ x3 → (0 ≤ (I p 5) ∧ (I p 5) < 65) ∧ ∀ R2 : cR, R2 = up2 R (p + 2) ((I p 5)) x2 → Q I R2) ∧ (¬ (I p 5) ≤ x3 → (0 ≤ (x3 + 1) ∧ (x3 + 1) < 65) ∧ (0 ≤ x3 ∧ x3 < 65) ∧ ∀ R7 : cR, R7 = up2 R (p + 2) x3 ((R (p + 2) ((x3 + 1)))) → inR (x3 + 1) ∧ ∀ z10 : Int, z10 = x3 + 1 → rk x2 z10 I R7)
def wX4_removeRule_19 (Q : cI → cR → Prop) (p : Nat) (a1 : Int) : Nat → Nat → Int → cI → cR → Prop
  | 0 => fun _ _ _ _ => False
  | n + 1 => wbX4_removeRule_19 Q p a1 (wX4_removeRule_19 Q p a1 n)
def wX4_removeRule (p : Nat) (a1 : Int) (I : cI) (R : cR) (Q : cI → cR → Prop) : Prop := (0 ≤ a1 ∧ a1 < 65) ∧ inR (((I p 5) - 1)) ∧ ∀ I3 : cI, I3 = up2 I p 5 (((I p 5) - 1)) → ∃ n, wX4_removeRule_19 Q p a1 n ((R (p + 2) a1)) a1 I3 R
def wX11_drop (a1 : Int) (I : cI) (R : cR) (Q : Int → cI → cR → Prop) (Qx : Nat → cI → cR → Prop) : Prop := wX11_requireRule a1 I R (fun I2 R3 => wX4_removeRule ((R3 0 7)) a1 I2 R3 (fun I7 R8 => Q ((I7 ((R8 0 7)) 5)) I7 R8)) Qx
def wX4_isThere (p : Nat) (I : cI) (R : cR) (Q : Int → cI → cR → Prop) : Prop := ((I p 0) ≤ 0 → Q 0 I R) ∧ (¬ (I p 0) ≤ 0 → Q 1 I R)
def wX11_requirePuzzle (I : cI) (R : cR) (Q : cI → cR → Prop) (Qx : Nat → cI → cR → Prop) : Prop := wX4_isThere ((R 0 7)) I R (fun r1 I2 R3 => (¬ r1 = 0 → Q I2 R3) ∧ (r1 = 0 → Qx 0 I2 R3))
def wX3_add (a1 : Int) (I : cI) (R : cR) (Q : cI → cR → Prop) : Prop := (1980 ≤ (I 8 1) → Q I R) ∧ (¬ 1980 ≤ (I 8 1) → (0 ≤ (I 8 1) ∧ (I 8 1) < 1980) ∧ ∀ I2 : cI, I2 = up2 I 9 ((I 8 1)) a1 → inR (((I2 8 1) + 1)) ∧ ∀ I6 : cI, I6 = up2 I2 8 1 (((I2 8 1) + 1)) → Q I6 R)
def wbX3_addWord_2 (Q : cI → cR → Prop) (a1 : Nat) (rk : Int → cI → cR → Prop) (x2 : Int) (I : cI) (R : cR) : Prop := ((txN a1) ≤ x2 → Q I R) ∧ (¬ (txN a1) ≤ x2 → (0 ≤ x2 ∧ x2 < txN a1) ∧ wX3_add ((txC a1 x2)) I R (fun I3 R4 => inR (x2 + 1) ∧ ∀ z7 : Int, z7 = x2 + 1 → rk z7 I3 R4))
def wX3_addWord_2 (Q : cI → cR → Prop) (a1 : Nat) : Nat → Int → cI → cR → Prop
  | 0 => fun _ _ _ => False
  | n + 1 => wbX3_addWord_2 Q a1 (wX3_addWord_2 Q a1 n)
def wX3_addWord (a1 : Nat) (I : cI) (R : cR) (Q : cI → cR → Prop) : Prop := ∃ n, wX3_addWord_2 Q a1 n 0 I R
def wX3_addNumber_25 (Q : cI → cR → Prop) (a1 : Int) (K10 : Int → cI → cR → Prop) (x2 : Int) (I : cI) (R : cR) : Prop := (0 ≤ a1 ∧ 0 < x2) ∧ inR ((a1 / x2)) ∧ 0 ≤ (a1 / x2) ∧ inR ((48 + ((a1 / x2) % 10))) ∧ wX3_add ((48 + ((a1 / x2) % 10))) I R (fun I6 R7 => 0 ≤ x2 ∧ inR ((x2 / 10)) ∧ ∀ z12 : Int, z12 = (x2 / 10) → K10 z12 I6 R7)
def wbX3_addNumber_10 (Q : cI → cR → Prop) (a1 : Int) (rk : Int → cI → cR → Prop) (x2 : Int) (I : cI) (R : cR) : Prop := (x2 < 1 → Q I R) ∧ (¬ x2 < 1 → (x2 ≤ a1 → wX3_addNumber_25 Q a1 rk x2 I R) ∧ (¬ x2 ≤ a1 → (¬ x2 = 1 → 0 ≤ x2 ∧ inR ((x2 / 10)) ∧ ∀ z3 : Int, z3 = (x2 / 10) → rk z3 I R) ∧ (x2 = 1 → wX3_addNumber_25 Q a1 rk x2 I R)))
def wX3_addNumber_10 (Q : cI → cR → Prop) (a1 : Int) : Nat → Int → cI → cR → Prop
  | 0 => fun _ _ _ => False
  | n + 1 => wbX3_addNumber_10 Q a1 (wX3_addNumber_10 Q a1 n)
def wX3_addNumber (a1 : Int) (I : cI) (R : cR) (Q : cI → cR → Prop) : Prop := wX3_add 32 I R (fun I2 R3 => ∃ n, wX3_addNumber_10 Q a1 n 1000 I2 R3)
def wX3_addCell (a1 : Int) (a2 : Int) (I : cI) (R : cR) (Q : cI → cR → Prop) : Prop := (a2 ≤ 0 → Q I R) ∧ (¬ a2 ≤ 0 → wX3_add 32 I R (fun I2 R3 => (0 ≤ a1 ∧ 0 < a2) ∧ inR ((97 + (a1 % a2))) ∧ wX3_add ((97 + (a1 % a2))) I2 R3 (fun I9 R10 => (0 ≤ a1 ∧ 0 < a2) ∧ inR ((49 + (a1 / a2))) ∧ wX3_add ((49 + (a1 / a2))) I9 R10 (fun I16 R17 => Q I16 R17))))
def wbX3_addRule_50 (Q : cI → cR → Prop) (a1 : Nat) (a2 : Int) (rk : Int → cI → cR → Prop) (x3 : Int) (I : cI) (R : cR) : Prop := ((I a1 3) ≤ x3 → (¬ (R a1 0) = 9 → Q I R) ∧ ((R a1 0) = 9 → wX3_addNumber ((I a1 1)) I R (fun I2 R3 => Q I2 R3))) ∧ (¬ (I a1 3) ≤ x3 → (0 ≤ x3 ∧ x3 < 5) ∧ wX3_addCell ((I (a1 + 130) x3)) a2 I R (fun I8 R9 => inR (x3 + 1) ∧ ∀ z12 : Int, z12 = x3 + 1 → rk z12 I8 R9))
def wX3_addRule_50 (Q : cI → cR → Prop) (a1 : Nat) (a2 : Int) : Nat → Int → cI → cR → Prop
  | 0 => fun _ _ _ => False
  | n + 1 => wbX3_addRule_50 Q a1 a2 (wX3_addRule_50 Q a1 a2 n)
def wX3_addRule_48 (Q : cI → cR → Prop) (a1 : Nat) (a2 : Int) (I : cI) (R : cR) : Prop := ∃ n, wX3_addRule_50 Q a1 a2 n 0 I R
def wX3_addRule_29 (Q : cI → cR → Prop) (a1 : Nat) (a2 : Int) (I : cI) (R : cR) : Prop := ((kA ((R a1 0))) ≤ 1 → wX3_addRule_48 Q a1 a2 I R) ∧ (¬ (kA ((R a1 0))) ≤ 1 → wX3_addNumber ((I a1 2)) I R (fun I2 R3 => wX3_addRule_48 Q a1 a2 I2 R3))
def wX3_addRule (a1 : Nat) (a2 : Int) (I : cI) (R : cR) (Q : cI → cR → Prop) : Prop := wX3_addWord ((R a1 0)) I R (fun I2 R3 => ((kA ((R3 a1 0))) ≤ 0 → wX3_addRule_29 Q a1 a2 I2 R3) ∧ (¬ (kA ((R3 a1 0))) ≤ 0 → wX3_addNumber ((I2 a1 1)) I2 R3 (fun I7 R8 => wX3_addRule_29 Q a1 a2 I7 R8)))
def wbX3_show_43 (Q : cI → cR → Prop) (a1 : Nat) (rk : Int → cI → cR → Prop) (x2 : Int) (I : cI) (R : cR) : Prop := ((I a1 5) ≤ x2 → Q I R) ∧ (¬ (I a1 5) ≤ x2 → (0 ≤ x2 ∧ x2 < 65) ∧ wX3_addRule ((R (a1 + 2) x2)) ((I a1 0)) I R (fun I3 R4 => wX3_add 59 I3 R4 (fun I8 R9 => inR (x2 + 1) ∧ ∀ z12 : Int, z12 = x2 + 1 → rk z12 I8 R9)))
def wX3_show_43 (Q : cI → cR → Prop) (a1 : Nat) : Nat → Int → cI → cR → Prop
  | 0 => fun _ _ _ => False
  | n + 1 => wbX3_show_43 Q a1 (wX3_show_43 Q a1 n)
def wX3_show (a1 : Nat) (I : cI) (R : cR) (Q : cI → cR → Prop) : Prop := ∀ I1 : cI, I1 = up2 I 8 1 0 → wX3_addWord 14 I1 R (fun I5 R6 => wX3_addNumber ((I5 a1 0)) I5 R6 (fun I10 R11 => wX3_addNumber ((I10 a1 1)) I10 R11 (fun I15 R16 => wX3_addNumber ((I15 a1 2)) I15 R16 (fun I20 R21 => wX3_add 59 I20 R21 (fun I25 R26 => ∃ n, wX3_show_43 Q a1 n 0 I25 R26)))))
def wX11_write (I : cI) (R : cR) (Q : Int → cI → cR → Prop) (Qx : Nat → cI → cR → Prop) : Prop := wX11_requirePuzzle I R (fun I2 R3 => wX3_show ((R3 0 7)) I2 R3 (fun I7 R8 => Q ((I7 8 1)) I7 R8)) Qx
def wX11_byteAt_15 (Q : Int → cI → cR → Prop) (Qx : Nat → cI → cR → Prop) (a1 : Int) (I : cI) (R : cR) : Prop := Qx 2 I R
def wX11_byteAt (a1 : Int) (I : cI) (R : cR) (Q : Int → cI → cR → Prop) (Qx : Nat → cI → cR → Prop) : Prop := (a1 < 0 → wX11_byteAt_15 Q Qx a1 I R) ∧ (¬ a1 < 0 → (a1 < (I 8 1) → (0 ≤ a1 ∧ a1 < 1980) ∧ Q ((I 9 a1)) I R) ∧ (¬ a1 < (I 8 1) → wX11_byteAt_15 Q Qx a1 I R))
def wX11_requireCell_15 (Q : cI → cR → Prop) (Qx : Nat → cI → cR → Prop) (a1 : Int) (I : cI) (R : cR) : Prop := Qx 2 I R
def wX11_requireCell (a1 : Int) (I : cI) (R : cR) (Q : cI → cR → Prop) (Qx : Nat → cI → cR → Prop) : Prop := (a1 < 0 → wX11_requireCell_15 Q Qx a1 I R) ∧ (¬ a1 < 0 → wX4_cellCount ((R 0 7)) I R (fun r1 I2 R3 => (a1 < r1 → Q I2 R3) ∧ (¬ a1 < r1 → wX11_requireCell_15 Q Qx a1 I2 R3)))
def wX11_put_20 (Q : Int → cI → cR → Prop) (Qx : Nat → cI → cR → Prop) (a1 : Int) (a2 : Int) (I : cI) (R : cR) : Prop := Qx 1 I R
def wX11_put (a1 : Int) (a2 : Int) (I : cI) (R : cR) (Q : Int → cI → cR → Prop) (Qx : Nat → cI → cR → Prop) : Prop := wX11_requireCell a1 I R (fun I2 R3 => (a2 < 0 → wX11_put_20 Q Qx a1 a2 I2 R3) ∧ (¬ a2 < 0 → (a2 ≤ (I2 ((R3 0 7)) 2) → (0 ≤ a1 ∧ a1 < 25) ∧ ∀ z7 : Int, z7 = (I2 ((R3 0 7) + 1) a1) → (0 ≤ a1 ∧ a1 < 25) ∧ ∀ I10 : cI, I10 = up2 I2 ((R3 0 7) + 1) a1 a2 → Q z7 I10 R3) ∧ (¬ a2 ≤ (I2 ((R3 0 7)) 2) → wX11_put_20 Q Qx a1 a2 I2 R3))) Qx
def wX11_value (a1 : Int) (I : cI) (R : cR) (Q : Int → cI → cR → Prop) (Qx : Nat → cI → cR → Prop) : Prop := wX11_requireCell a1 I R (fun I2 R3 => (0 ≤ a1 ∧ a1 < 25) ∧ Q ((I2 ((R3 0 7) + 1) a1)) I2 R3) Qx
def wbX8_begin_27 (Q : cI → cR → Prop) (s0 : Nat) (a1 : Int) (a2 : Int) (rk : Int → cI → cR → Prop) (x3 : Int) (I : cI) (R : cR) : Prop := (25 ≤ x3 → Q I R) ∧ (¬ 25 ≤ x3 → (0 ≤ x3 ∧ x3 < 25) ∧ ∀ I2 : cI, I2 = up2 I (s0 + 2) x3 0 → (0 ≤ x3 ∧ x3 < 25) ∧ ∀ I6 : cI, I6 = up2 I2 (s0 + 3) x3 0 → (0 ≤ x3 ∧ x3 < 25) ∧ ∀ I10 : cI, I10 = up2 I6 (s0 + 4) x3 1 → inR (x3 + 1) ∧ ∀ z13 : Int, z13 = x3 + 1 → rk z13 I10 R)
def wX8_begin_27 (Q : cI → cR → Prop) (s0 : Nat) (a1 : Int) (a2 : Int) : Nat → Int → cI → cR → Prop
  | 0 => fun _ _ _ => False
  | n + 1 => wbX8_begin_27 Q s0 a1 a2 (wX8_begin_27 Q s0 a1 a2 n)
def wX8_begin (s0 : Nat) (a1 : Int) (a2 : Int) (I : cI) (R : cR) (Q : cI → cR → Prop) : Prop := ∀ I1 : cI, I1 = up2 I s0 7 a1 → ∀ I4 : cI, I4 = up2 I1 s0 6 a2 → ∀ I7 : cI, I7 = up2 I4 s0 1 0 → ∀ I10 : cI, I10 = up2 I7 s0 2 0 → ∀ I13 : cI, I13 = up2 I10 s0 8 0 → ∃ n, wX8_begin_27 Q s0 a1 a2 n 0 I13 R
def wbX8_keep_14 (Q : cI → cR → Prop) (s0 : Nat) (rk : Int → cI → cR → Prop) (x1 : Int) (I : cI) (R : cR) : Prop := (25 ≤ x1 → inR (((I s0 1) + 1)) ∧ ∀ I2 : cI, I2 = up2 I s0 1 (((I s0 1) + 1)) → Q I2 R) ∧ (¬ 25 ≤ x1 → (0 ≤ (I s0 1) ∧ (I s0 1) < 30) ∧ (0 ≤ x1 ∧ x1 < 25) ∧ (0 ≤ x1 ∧ x1 < 25) ∧ ∀ I8 : cI, I8 = up2 I ((s0 + 5 + Int.toNat ((I s0 1)))) x1 ((I (s0 + 2) x1)) → inR (x1 + 1) ∧ ∀ z11 : Int, z11 = x1 + 1 → rk z11 I8 R)
def wX8_keep_14 (Q : cI → cR → Prop) (s0 : Nat) : Nat → Int → cI → cR → Prop
  | 0 => fun _ _ _ => False
  | n + 1 => wbX8_keep_14 Q s0 (wX8_keep_14 Q s0 n)
def wX8_keep (s0 : Nat) (I : cI) (R : cR) (Q : cI → cR → Prop) : Prop := (30 ≤ (I s0 1) → Q I R) ∧ (¬ 30 ≤ (I s0 1) → ∃ n, wX8_keep_14 Q s0 n 0 I R)
def wX8_giveUp (s0 : Nat) (I : cI) (R : cR) (Q : cI → cR → Prop) : Prop := ∀ I1 : cI, I1 = up2 I s0 8 1 → ∀ I4 : cI, I4 = up2 I1 s0 1 0 → Q I4 R
def wX8_choice (s0 : Nat) (a1 : Int) (a2 : Int) (a3 : Int) (I : cI) (R : cR) (Q : Int → cI → cR → Prop) : Prop := (0 ≤ a1 ∧ a1 < 25) ∧ ((I (s0 + 3) a1) = 0 → (0 ≤ a1 ∧ a1 < 25) ∧ inR (((I (s0 + 4) a1) + a2)) ∧ ∀ z4 : Int, z4 = ((I (s0 + 4) a1) + a2) → (z4 ≤ a3 → Q z4 I R) ∧ (¬ z4 ≤ a3 → inR ((z4 - a3)) ∧ Q ((z4 - a3)) I R)) ∧ (¬ (I (s0 + 3) a1) = 0 → (0 ≤ a1 ∧ a1 < 25) ∧ Q ((I (s0 + 3) a1)) I R)
def wbX4_isBrokenAt_3 (Q : Int → cI → cR → Prop) (p : Nat) (a1 : Int) (a2 : Nat) (a3 : Int) (rk : Int → cI → cR → Prop) (x4 : Int) (I : cI) (R : cR) : Prop := ((I p 5) ≤ x4 → Q 0 I R) ∧ (¬ (I p 5) ≤ x4 → (x4 = a3 → inR (x4 + 1) ∧ ∀ z1 : Int, z1 = x4 + 1 → rk z1 I R) ∧ (¬ x4 = a3 → (0 ≤ x4 ∧ x4 < 65) ∧ wX7_hasCell ((R (p + 2) x4)) a1 I R (fun r5 I6 R7 => (r5 = 0 → inR (x4 + 1) ∧ ∀ z10 : Int, z10 = x4 + 1 → rk z10 I6 R7) ∧ (¬ r5 = 0 → (0 ≤ x4 ∧ x4 < 65) ∧ wX7_isBroken ((R7 (p + 2) x4)) a2 ((I6 p 2)) I6 R7 (fun r14 I15 R16 => (r14 = 0 → inR (x4 + 1) ∧ ∀ z19 : Int, z19 = x4 + 1 → rk z19 I15 R16) ∧ (¬ r14 = 0 → Q 1 I15 R16))))))
def wX4_isBrokenAt_3 (Q : Int → cI → cR → Prop) (p : Nat) (a1 : Int) (a2 : Nat) (a3 : Int) : Nat → Int → cI → cR → Prop
  | 0 => fun _ _ _ => False
  | n + 1 => wbX4_isBrokenAt_3 Q p a1 a2 a3 (wX4_isBrokenAt_3 Q p a1 a2 a3 n)
def wX4_isBrokenAt (p : Nat) (a1 : Int) (a2 : Nat) (a3 : Int) (I : cI) (R : cR) (Q : Int → cI → cR → Prop) : Prop := ∃ n, wX4_isBrokenAt_3 Q p a1 a2 a3 n 0 I R
def wX8_endsFrom_14 (rc : Nat → Nat → Int → cI → cR → (Int → cI → cR → Prop) → Prop) (Q : Int → cI → cR → Prop) (a0 : Nat) (a1 : Nat) (a2 : Int) (I : cI) (R : cR) : Prop := wX8_keep a0 I R (fun I2 R3 => ((I2 a0 1) < (I2 a0 7) → Q 0 I2 R3) ∧ (¬ (I2 a0 1) < (I2 a0 7) → Q 1 I2 R3))
def wbX8_endsFrom_56 (rc : Nat → Nat → Int → cI → cR → (Int → cI → cR → Prop) → Prop) (Q : Int → cI → cR → Prop) (a0 : Nat) (a1 : Nat) (a2 : Int) (rk : Int → Int → cI → cR → Prop) (x3 : Int) (x4 : Int) (I : cI) (R : cR) : Prop := (x3 ≤ x4 → (0 ≤ a2 ∧ a2 < 25) ∧ ∀ I2 : cI, I2 = up2 I (a0 + 2) a2 0 → Q 0 I2 R) ∧ (¬ x3 ≤ x4 → ((I a0 2) < 5000 → inR (((I a0 2) + 1)) ∧ ∀ I6 : cI, I6 = up2 I a0 2 (((I a0 2) + 1)) → wX8_choice a0 a2 x4 ((I6 a1 2)) I6 R (fun r9 I10 R11 => (0 ≤ a2 ∧ a2 < 25) ∧ ∀ I15 : cI, I15 = up2 I10 (a0 + 2) a2 r9 → wX4_isBrokenAt a1 a2 (a0 + 2) ((I15 a0 6)) I15 R11 (fun r18 I19 R20 => (¬ r18 = 0 → inR (x4 + 1) ∧ ∀ z23 : Int, z23 = x4 + 1 → rk x3 z23 I19 R20) ∧ (r18 = 0 → inR ((a2 + 1)) ∧ rc a0 a1 ((a2 + 1)) I19 R20 (fun r27 I28 R29 => (r27 = 0 → inR (x4 + 1) ∧ ∀ z32 : Int, z32 = x4 + 1 → rk x3 z32 I28 R29) ∧ (¬ r27 = 0 → Q 1 I28 R29)))))) ∧ (¬ (I a0 2) < 5000 → wX8_giveUp a0 I R (fun I36 R37 => Q 1 I36 R37)))
def wX8_endsFrom_56 (rc : Nat → Nat → Int → cI → cR → (Int → cI → cR → Prop) → Prop) (Q : Int → cI → cR → Prop) (a0 : Nat) (a1 : Nat) (a2 : Int) : Nat → Int → Int → cI → cR → Prop
  | 0 => fun _ _ _ _ => False
  | n + 1 => wbX8_endsFrom_56 rc Q a0 a1 a2 (wX8_endsFrom_56 rc Q a0 a1 a2 n)
def wX8_endsFrom_52 (rc : Nat → Nat → Int → cI → cR → (Int → cI → cR → Prop) → Prop) (Q : Int → cI → cR → Prop) (a0 : Nat) (a1 : Nat) (a2 : Int) (y0 : Int) (I : cI) (R : cR) : Prop := ∃ n, wX8_endsFrom_56 rc Q a0 a1 a2 n y0 0 I R
def wbX8_endsFrom (rc : Nat → Nat → Int → cI → cR → (Int → cI → cR → Prop) → Prop) (a0 : Nat) (a1 : Nat) (a2 : Int) (I : cI) (R : cR) (Q : Int → cI → cR → Prop) : Prop := wX4_cellCount a1 I R (fun r1 I2 R3 => (r1 ≤ a2 → wX8_endsFrom_14 rc Q a0 a1 a2 I2 R3) ∧ (¬ r1 ≤ a2 → (a2 < 25 → (0 ≤ a2 ∧ a2 < 25) ∧ (¬ (I2 (a0 + 3) a2) = 0 → wX8_endsFrom_52 rc Q a0 a1 a2 1 I2 R3) ∧ ((I2 (a0 + 3) a2) = 0 → wX8_endsFrom_52 rc Q a0 a1 a2 ((I2 a1 2)) I2 R3)) ∧ (¬ a2 < 25 → wX8_endsFrom_14 rc Q a0 a1 a2 I2 R3)))
def wX8_endsFrom : Nat → Nat → Nat → Int → cI → cR → (Int → cI → cR → Prop) → Prop
  | 0 => fun _ _ _ _ _ _ => False
  | d + 1 => wbX8_endsFrom (wX8_endsFrom d)
def wbX8_findInGrid_8 (Q : Int → cI → cR → Prop) (s0 : Nat) (a1 : Nat) (a2 : Int) (rk : Int → cI → cR → Prop) (x3 : Int) (I : cI) (R : cR) : Prop := wX4_cellCount a1 I R (fun r1 I2 R3 => (r1 ≤ x3 → wX8_endsFrom 27 s0 a1 0 I2 R3 (fun r6 I7 R8 => ((I7 s0 8) = 0 → Q ((I7 s0 1)) I7 R8) ∧ (¬ (I7 s0 8) = 0 → Q (-1) I7 R8))) ∧ (¬ r1 ≤ x3 → (0 ≤ x3 ∧ x3 < 25) ∧ (0 ≤ x3 ∧ x3 < 25) ∧ ∀ I13 : cI, I13 = up2 I2 (s0 + 3) x3 ((I2 (a1 + 1) x3)) → inR (x3 + 1) ∧ ∀ z16 : Int, z16 = x3 + 1 → rk z16 I13 R3))
def wX8_findInGrid_8 (Q : Int → cI → cR → Prop) (s0 : Nat) (a1 : Nat) (a2 : Int) : Nat → Int → cI → cR → Prop
  | 0 => fun _ _ _ => False
  | n + 1 => wbX8_findInGrid_8 Q s0 a1 a2 (wX8_findInGrid_8 Q s0 a1 a2 n)
def wX8_findInGrid (s0 : Nat) (a1 : Nat) (a2 : Int) (I : cI) (R : cR) (Q : Int → cI → cR → Prop) : Prop := wX8_begin s0 a2 (-1) I R (fun I2 R3 => ∃ n, wX8_findInGrid_8 Q s0 a1 a2 n 0 I2 R3)
def wX11_search_11 (Q : Int → cI → cR → Prop) (Qx : Nat → cI → cR → Prop) (a1 : Int) (I : cI) (R : cR) : Prop := Qx 1 I R
def wX11_search (a1 : Int) (I : cI) (R : cR) (Q : Int → cI → cR → Prop) (Qx : Nat → cI → cR → Prop) : Prop := (a1 < 1 → wX11_search_11 Q Qx a1 I R) ∧ (¬ a1 < 1 → (a1 ≤ 30 → wX11_requirePuzzle I R (fun I2 R3 => wX8_findInGrid 10 ((R3 0 7)) a1 I2 R3 (fun r6 I7 R8 => Q r6 I7 R8)) Qx) ∧ (¬ a1 ≤ 30 → wX11_search_11 Q Qx a1 I R))
def wX11_solution_15 (Q : Int → cI → cR → Prop) (Qx : Nat → cI → cR → Prop) (a1 : Int) (a2 : Int) (I : cI) (R : cR) : Prop := Qx 2 I R
def wX11_solution (a1 : Int) (a2 : Int) (I : cI) (R : cR) (Q : Int → cI → cR → Prop) (Qx : Nat → cI → cR → Prop) : Prop := (a1 < 0 → wX11_solution_15 Q Qx a1 a2 I R) ∧ (¬ a1 < 0 → (a1 < (I 10 1) → wX11_requireCell a2 I R (fun I2 R3 => (0 ≤ a1 ∧ a1 < 30) ∧ (0 ≤ a2 ∧ a2 < 25) ∧ Q ((I2 ((15 + Int.toNat (a1))) a2)) I2 R3) Qx) ∧ (¬ a1 < (I 10 1) → wX11_solution_15 Q Qx a1 a2 I R))
def wX8_findsJustOne (s0 : Nat) (a1 : Nat) (a2 : Int) (I : cI) (R : cR) (Q : Int → cI → cR → Prop) : Prop := wX8_begin s0 2 a2 I R (fun I2 R3 => wX8_endsFrom 27 s0 a1 0 I2 R3 (fun r6 I7 R8 => (¬ (I7 s0 1) = 1 → Q 0 I7 R8) ∧ ((I7 s0 1) = 1 → Q 1 I7 R8)))
def wX11_isNeeded (a1 : Int) (I : cI) (R : cR) (Q : Int → cI → cR → Prop) (Qx : Nat → cI → cR → Prop) : Prop := wX11_requireRule a1 I R (fun I2 R3 => wX8_findsJustOne 45 ((R3 0 7)) (-1) I2 R3 (fun r6 I7 R8 => (r6 = 0 → Q 1 I7 R8) ∧ (¬ r6 = 0 → wX8_findsJustOne 45 ((R8 0 7)) a1 I7 R8 (fun r11 I12 R13 => (¬ r11 = 0 → Q 0 I12 R13) ∧ (r11 = 0 → Q 1 I12 R13))))) Qx
def wbX6_countValues_4 (Q : Int → cI → cR → Prop) (a1 : Nat) (rk : Int → Int → cI → cR → Prop) (x2 : Int) (x3 : Int) (I : cI) (R : cR) : Prop := wX4_cellCount a1 I R (fun r1 I2 R3 => (r1 ≤ x3 → Q x2 I2 R3) ∧ (¬ r1 ≤ x3 → (0 ≤ x3 ∧ x3 < 25) ∧ inR ((x2 + (bc ((I2 81 x3))))) ∧ ∀ z8 : Int, z8 = (x2 + (bc ((I2 81 x3)))) → inR (x3 + 1) ∧ ∀ z10 : Int, z10 = x3 + 1 → rk z8 z10 I2 R3))
def wX6_countValues_4 (Q : Int → cI → cR → Prop) (a1 : Nat) : Nat → Int → Int → cI → cR → Prop
  | 0 => fun _ _ _ _ => False
  | n + 1 => wbX6_countValues_4 Q a1 (wX6_countValues_4 Q a1 n)
def wX6_countValues (a1 : Nat) (I : cI) (R : cR) (Q : Int → cI → cR → Prop) : Prop := ∃ n, wX6_countValues_4 Q a1 n 0 0 I R
def wX11_look (I : cI) (R : cR) (Q : Int → cI → cR → Prop) : Prop := wX6_begin ((R 0 7)) I R (fun I2 R3 => wX6_countValues ((R3 0 7)) I2 R3 (fun r6 I7 R8 => Q r6 I7 R8))
def wX11_possible (a1 : Int) (I : cI) (R : cR) (Q : Int → cI → cR → Prop) (Qx : Nat → cI → cR → Prop) : Prop := wX11_requireCell a1 I R (fun I2 R3 => (0 ≤ a1 ∧ a1 < 25) ∧ Q ((I2 81 a1)) I2 R3) Qx
def wX6_hasValue (a1 : Int) (a2 : Int) (I : cI) (R : cR) (Q : Int → cI → cR → Prop) : Prop := (0 ≤ a1 ∧ a1 < 25) ∧ ((iAnd ((iShr ((I 81 a1)) ((a2 - 1)))) 1) = 0 → Q 0 I R) ∧ (¬ (iAnd ((iShr ((I 81 a1)) ((a2 - 1)))) 1) = 0 → Q 1 I R)
def wbX6_holdsFrom_53 (rc : Nat → Int → Int → Int → cI → cR → (Int → cI → cR → Prop) → Prop) (Q : Int → cI → cR → Prop) (a1 : Nat) (a2 : Int) (a3 : Int) (a4 : Int) (rk : Int → Int → cI → cR → Prop) (x5 : Int) (x6 : Int) (I : cI) (R : cR) : Prop := (a4 < x6 → (0 ≤ x5 ∧ x5 < 25) ∧ ∀ I2 : cI, I2 = up2 I 82 x5 0 → Q 0 I2 R) ∧ (¬ a4 < x6 → wX6_hasValue x5 x6 I R (fun r5 I6 R7 => (r5 = 0 → inR (x6 + 1) ∧ ∀ z10 : Int, z10 = x6 + 1 → rk x5 z10 I6 R7) ∧ (¬ r5 = 0 → (0 ≤ x5 ∧ x5 < 25) ∧ ∀ I14 : cI, I14 = up2 I6 82 x5 x6 → inR ((a3 + 1)) ∧ rc a1 a2 ((a3 + 1)) a4 I14 R7 (fun r18 I19 R20 => (r18 = 0 → inR (x6 + 1) ∧ ∀ z23 : Int, z23 = x6 + 1 → rk x5 z23 I19 R20) ∧ (¬ r18 = 0 → Q 1 I19 R20)))))
def wX6_holdsFrom_53 (rc : Nat → Int → Int → Int → cI → cR → (Int → cI → cR → Prop) → Prop) (Q : Int → cI → cR → Prop) (a1 : Nat) (a2 : Int) (a3 : Int) (a4 : Int) : Nat → Int → Int → cI → cR → Prop
  | 0 => fun _ _ _ _ => False
  | n + 1 => wbX6_holdsFrom_53 rc Q a1 a2 a3 a4 (wX6_holdsFrom_53 rc Q a1 a2 a3 a4 n)
def wbX6_holdsFrom (rc : Nat → Int → Int → Int → cI → cR → (Int → cI → cR → Prop) → Prop) (a1 : Nat) (a2 : Int) (a3 : Int) (a4 : Int) (I : cI) (R : cR) (Q : Int → cI → cR → Prop) : Prop := wX7_isBroken a1 82 a4 I R (fun r1 I2 R3 => (r1 = 0 → (a3 < (I2 a1 3) → (¬ a3 = a2 → (0 ≤ a3 ∧ a3 < 5) ∧ ∀ z7 : Int, z7 = (I2 (a1 + 130) a3) → ∃ n, wX6_holdsFrom_53 rc Q a1 a2 a3 a4 n z7 1 I2 R3) ∧ (a3 = a2 → inR ((a3 + 1)) ∧ rc a1 a2 ((a3 + 1)) a4 I2 R3 (fun r11 I12 R13 => (r11 = 0 ∨ r11 = 1) ∧ Q r11 I12 R13))) ∧ (¬ a3 < (I2 a1 3) → Q 1 I2 R3)) ∧ (¬ r1 = 0 → Q 0 I2 R3))
def wX6_holdsFrom : Nat → Nat → Int → Int → Int → cI → cR → (Int → cI → cR → Prop) → Prop
  | 0 => fun _ _ _ _ _ _ _ => False
  | d + 1 => wbX6_holdsFrom (wX6_holdsFrom d)
def wbX6_isRefuted_19 (Q : Int → cI → cR → Prop) (a1 : Nat) (a2 : Int) (a3 : Int) (a4 : Int) (rk : Int → cI → cR → Prop) (x5 : Int) (I : cI) (R : cR) : Prop := ((I a1 3) ≤ x5 → (0 ≤ a2 ∧ a2 < 5) ∧ (0 ≤ (I (a1 + 130) a2) ∧ (I (a1 + 130) a2) < 25) ∧ ∀ I3 : cI, I3 = up2 I 82 ((I (a1 + 130) a2)) a3 → wX6_holdsFrom 7 a1 a2 0 a4 I3 R (fun r6 I7 R8 => (¬ r6 = 0 → Q 0 I7 R8) ∧ (r6 = 0 → Q 1 I7 R8))) ∧ (¬ (I a1 3) ≤ x5 → (0 ≤ x5 ∧ x5 < 5) ∧ (0 ≤ (I (a1 + 130) x5) ∧ (I (a1 + 130) x5) < 25) ∧ ∀ I13 : cI, I13 = up2 I 82 ((I (a1 + 130) x5)) 0 → inR (x5 + 1) ∧ ∀ z16 : Int, z16 = x5 + 1 → rk z16 I13 R)
def wX6_isRefuted_19 (Q : Int → cI → cR → Prop) (a1 : Nat) (a2 : Int) (a3 : Int) (a4 : Int) : Nat → Int → cI → cR → Prop
  | 0 => fun _ _ _ => False
  | n + 1 => wbX6_isRefuted_19 Q a1 a2 a3 a4 (wX6_isRefuted_19 Q a1 a2 a3 a4 n)
def wX6_isRefuted (a1 : Nat) (a2 : Int) (a3 : Int) (a4 : Int) (I : cI) (R : cR) (Q : Int → cI → cR → Prop) : Prop := (0 ≤ a2 ∧ a2 < 5) ∧ wX6_hasValue ((I (a1 + 130) a2)) a3 I R (fun r2 I3 R4 => (¬ r2 = 0 → ∃ n, wX6_isRefuted_19 Q a1 a2 a3 a4 n 0 I3 R4) ∧ (r2 = 0 → Q 0 I3 R4))
def wbX6_gradeOf_4 (Q : Int → cI → cR → Prop) (a1 : Nat) (rk : Int → Int → cI → cR → Prop) (x2 : Int) (x3 : Int) (I : cI) (R : cR) : Prop := ((I a1 3) ≤ x3 → Q x2 I R) ∧ (¬ (I a1 3) ≤ x3 → (0 ≤ x3 ∧ x3 < 5) ∧ (0 ≤ (I (a1 + 130) x3) ∧ (I (a1 + 130) x3) < 25) ∧ ((bc ((I 81 ((I (a1 + 130) x3))))) ≤ 1 → inR (x3 + 1) ∧ ∀ z3 : Int, z3 = x3 + 1 → rk x2 z3 I R) ∧ (¬ (bc ((I 81 ((I (a1 + 130) x3))))) ≤ 1 → inR (x2 + 1) ∧ ∀ z6 : Int, z6 = x2 + 1 → inR (x3 + 1) ∧ ∀ z9 : Int, z9 = x3 + 1 → rk z6 z9 I R))
def wX6_gradeOf_4 (Q : Int → cI → cR → Prop) (a1 : Nat) : Nat → Int → Int → cI → cR → Prop
  | 0 => fun _ _ _ _ => False
  | n + 1 => wbX6_gradeOf_4 Q a1 (wX6_gradeOf_4 Q a1 n)
def wX6_gradeOf (a1 : Nat) (I : cI) (R : cR) (Q : Int → cI → cR → Prop) : Prop := ∃ n, wX6_gradeOf_4 Q a1 n 0 0 I R
def wbX6_findFirstBy_13 (Q : Int → cI → cR → Prop) (a1 : Nat) (a2 : Int) (K2 : Int → cI → cR → Prop) (rk : Int → Int → cI → cR → Prop) (x3 : Int) (x4 : Int) (I : cI) (R : cR) : Prop := (a2 < x4 → inR (x3 + 1) ∧ ∀ z1 : Int, z1 = x3 + 1 → K2 z1 I R) ∧ (¬ a2 < x4 → wX6_isRefuted a1 x3 x4 a2 I R (fun r4 I5 R6 => (r4 = 0 → inR (x4 + 1) ∧ ∀ z9 : Int, z9 = x4 + 1 → rk x3 z9 I5 R6) ∧ (¬ r4 = 0 → (0 ≤ x3 ∧ x3 < 5) ∧ ∀ I13 : cI, I13 = up2 I5 80 4 ((I5 (a1 + 130) x3)) → ∀ I16 : cI, I16 = up2 I13 80 5 x4 → wX6_gradeOf a1 I16 R6 (fun r19 I20 R21 => ∀ I24 : cI, I24 = up2 I20 80 6 r19 → Q 1 I24 R21))))
def wX6_findFirstBy_13 (Q : Int → cI → cR → Prop) (a1 : Nat) (a2 : Int) (K2 : Int → cI → cR → Prop) : Nat → Int → Int → cI → cR → Prop
  | 0 => fun _ _ _ _ => False
  | n + 1 => wbX6_findFirstBy_13 Q a1 a2 K2 (wX6_findFirstBy_13 Q a1 a2 K2 n)
def wbX6_findFirstBy_2 (Q : Int → cI → cR → Prop) (a1 : Nat) (a2 : Int) (rk : Int → cI → cR → Prop) (x3 : Int) (I : cI) (R : cR) : Prop := ((I a1 3) ≤ x3 → Q 0 I R) ∧ (¬ (I a1 3) ≤ x3 → ∃ n, wX6_findFirstBy_13 Q a1 a2 rk n x3 1 I R)
def wX6_findFirstBy_2 (Q : Int → cI → cR → Prop) (a1 : Nat) (a2 : Int) : Nat → Int → cI → cR → Prop
  | 0 => fun _ _ _ => False
  | n + 1 => wbX6_findFirstBy_2 Q a1 a2 (wX6_findFirstBy_2 Q a1 a2 n)
def wX6_findFirstBy (a1 : Nat) (a2 : Int) (I : cI) (R : cR) (Q : Int → cI → cR → Prop) : Prop := ∃ n, wX6_findFirstBy_2 Q a1 a2 n 0 I R
def wbX6_findFirst_2 (Q : Int → cI → cR → Prop) (a1 : Nat) (rk : Int → cI → cR → Prop) (x2 : Int) (I : cI) (R : cR) : Prop := ((I a1 5) ≤ x2 → Q 0 I R) ∧ (¬ (I a1 5) ≤ x2 → (0 ≤ x2 ∧ x2 < 65) ∧ wX6_findFirstBy ((R (a1 + 2) x2)) ((I a1 2)) I R (fun r2 I3 R4 => (r2 = 0 → inR (x2 + 1) ∧ ∀ z7 : Int, z7 = x2 + 1 → rk z7 I3 R4) ∧ (¬ r2 = 0 → ∀ I10 : cI, I10 = up2 I3 80 3 x2 → Q 1 I10 R4)))
def wX6_findFirst_2 (Q : Int → cI → cR → Prop) (a1 : Nat) : Nat → Int → cI → cR → Prop
  | 0 => fun _ _ _ => False
  | n + 1 => wbX6_findFirst_2 Q a1 (wX6_findFirst_2 Q a1 n)
def wX6_findFirst (a1 : Nat) (I : cI) (R : cR) (Q : Int → cI → cR → Prop) : Prop := ∃ n, wX6_findFirst_2 Q a1 n 0 I R
def wX11_hint_9 (Q : Int → cI → cR → Prop) (Qx : Nat → cI → cR → Prop) (a1 : Int) (I : cI) (R : cR) : Prop := Qx 2 I R
def wX11_hint (a1 : Int) (I : cI) (R : cR) (Q : Int → cI → cR → Prop) (Qx : Nat → cI → cR → Prop) : Prop := (a1 < 0 → wX11_hint_9 Q Qx a1 I R) ∧ (¬ a1 < 0 → (a1 ≤ 3 → wX6_findFirst ((R 0 7)) I R (fun r1 I2 R3 => (¬ r1 = 0 → (a1 = 0 → Q ((I2 80 3)) I2 R3) ∧ (a1 = 1 → Q ((I2 80 4)) I2 R3) ∧ (a1 = 2 → Q ((I2 80 5)) I2 R3) ∧ (¬ a1 = 0 → ¬ a1 = 1 → ¬ a1 = 2 → Q ((I2 80 6)) I2 R3)) ∧ (r1 = 0 → Q (-1) I2 R3))) ∧ (¬ a1 ≤ 3 → wX11_hint_9 Q Qx a1 I R))
def wX6_takeOut (a1 : Int) (a2 : Int) (I : cI) (R : cR) (Q : cI → cR → Prop) : Prop := wX6_hasValue a1 a2 I R (fun r1 I2 R3 => (r1 = 0 → Q I2 R3) ∧ (¬ r1 = 0 → (0 ≤ a1 ∧ a1 < 25) ∧ inR (((I2 81 a1) - (iShl 1 ((a2 - 1))))) ∧ (0 ≤ a1 ∧ a1 < 25) ∧ ∀ I9 : cI, I9 = up2 I2 81 a1 (((I2 81 a1) - (iShl 1 ((a2 - 1))))) → Q I9 R3))
def wbX6_deduceBy_17 (Q : Int → cI → cR → Prop) (a1 : Nat) (a2 : Int) (K5 : Int → Int → cI → cR → Prop) (rk : Int → Int → Int → cI → cR → Prop) (x3 : Int) (x4 : Int) (x5 : Int) (I : cI) (R : cR) : Prop := (a2 < x5 → inR (x4 + 1) ∧ ∀ z1 : Int, z1 = x4 + 1 → K5 x3 z1 I R) ∧ (¬ a2 < x5 → wX6_isRefuted a1 x4 x5 a2 I R (fun r4 I5 R6 => (r4 = 0 → inR (x5 + 1) ∧ ∀ z9 : Int, z9 = x5 + 1 → rk x3 x4 z9 I5 R6) ∧ (¬ r4 = 0 → wX6_gradeOf a1 I5 R6 (fun r12 I13 R14 => ∀ I17 : cI, I17 = up2 I13 80 2 ((imax ((I5 80 2)) r12)) → (0 ≤ x4 ∧ x4 < 5) ∧ wX6_takeOut ((I17 (a1 + 130) x4)) x5 I17 R14 (fun I22 R23 => inR (x3 + 1) ∧ ∀ z26 : Int, z26 = x3 + 1 → inR (x5 + 1) ∧ ∀ z29 : Int, z29 = x5 + 1 → rk z26 x4 z29 I22 R23)))))
def wX6_deduceBy_17 (Q : Int → cI → cR → Prop) (a1 : Nat) (a2 : Int) (K5 : Int → Int → cI → cR → Prop) : Nat → Int → Int → Int → cI → cR → Prop
  | 0 => fun _ _ _ _ _ => False
  | n + 1 => wbX6_deduceBy_17 Q a1 a2 K5 (wX6_deduceBy_17 Q a1 a2 K5 n)
def wbX6_deduceBy_5 (Q : Int → cI → cR → Prop) (a1 : Nat) (a2 : Int) (rk : Int → Int → cI → cR → Prop) (x3 : Int) (x4 : Int) (I : cI) (R : cR) : Prop := ((I a1 3) ≤ x4 → Q x3 I R) ∧ (¬ (I a1 3) ≤ x4 → ∃ n, wX6_deduceBy_17 Q a1 a2 rk n x3 x4 1 I R)
def wX6_deduceBy_5 (Q : Int → cI → cR → Prop) (a1 : Nat) (a2 : Int) : Nat → Int → Int → cI → cR → Prop
  | 0 => fun _ _ _ _ => False
  | n + 1 => wbX6_deduceBy_5 Q a1 a2 (wX6_deduceBy_5 Q a1 a2 n)
def wX6_deduceBy (a1 : Nat) (a2 : Int) (I : cI) (R : cR) (Q : Int → cI → cR → Prop) : Prop := ∃ n, wX6_deduceBy_5 Q a1 a2 n 0 0 I R
def wbX6_doPasses_26 (Q : Int → cI → cR → Prop) (a1 : Nat) (K14 : Int → Int → cI → cR → Prop) (rk : Int → Int → Int → Int → cI → cR → Prop) (x2 : Int) (x3 : Int) (x4 : Int) (x5 : Int) (I : cI) (R : cR) : Prop := ((I a1 5) ≤ x5 → inR (((I 80 1) + 1)) ∧ ∀ I2 : cI, I2 = up2 I 80 1 (((I 80 1) + 1)) → inR ((x2 + x4)) ∧ ∀ z6 : Int, z6 = (x2 + x4) → (¬ x4 = 0 → inR (x3 + 1) ∧ ∀ z8 : Int, z8 = x3 + 1 → K14 z6 z8 I2 R) ∧ (x4 = 0 → Q z6 I2 R)) ∧ (¬ (I a1 5) ≤ x5 → (0 ≤ x5 ∧ x5 < 65) ∧ wX6_deduceBy ((R (a1 + 2) x5)) ((I a1 2)) I R (fun r12 I13 R14 => inR ((x4 + r12)) ∧ ∀ z18 : Int, z18 = (x4 + r12) → inR (x5 + 1) ∧ ∀ z20 : Int, z20 = x5 + 1 → rk x2 x3 z18 z20 I13 R14))
def wX6_doPasses_26 (Q : Int → cI → cR → Prop) (a1 : Nat) (K14 : Int → Int → cI → cR → Prop) : Nat → Int → Int → Int → Int → cI → cR → Prop
  | 0 => fun _ _ _ _ _ _ => False
  | n + 1 => wbX6_doPasses_26 Q a1 K14 (wX6_doPasses_26 Q a1 K14 n)
def wbX6_doPasses_14 (Q : Int → cI → cR → Prop) (a1 : Nat) (rk : Int → Int → cI → cR → Prop) (x2 : Int) (x3 : Int) (I : cI) (R : cR) : Prop := (125 < x3 → Q x2 I R) ∧ (¬ 125 < x3 → ∃ n, wX6_doPasses_26 Q a1 rk n x2 x3 0 0 I R)
def wX6_doPasses_14 (Q : Int → cI → cR → Prop) (a1 : Nat) : Nat → Int → Int → cI → cR → Prop
  | 0 => fun _ _ _ _ => False
  | n + 1 => wbX6_doPasses_14 Q a1 (wX6_doPasses_14 Q a1 n)
def wX6_doPasses (a1 : Nat) (I : cI) (R : cR) (Q : Int → cI → cR → Prop) : Prop := ∀ I1 : cI, I1 = up2 I 80 1 0 → ∀ I4 : cI, I4 = up2 I1 80 2 0 → ∃ n, wX6_doPasses_14 Q a1 n 0 0 I4 R
def wX11_reason (I : cI) (R : cR) (Q : Int → cI → cR → Prop) : Prop := wX6_doPasses ((R 0 7)) I R (fun r1 I2 R3 => Q r1 I2 R3)
def wbX6_countCellsWith_5 (Q : Int → cI → cR → Prop) (a1 : Nat) (a2 : Int) (rk : Int → Int → cI → cR → Prop) (x3 : Int) (x4 : Int) (I : cI) (R : cR) : Prop := wX4_cellCount a1 I R (fun r1 I2 R3 => (r1 ≤ x4 → Q x3 I2 R3) ∧ (¬ r1 ≤ x4 → (0 ≤ x4 ∧ x4 < 25) ∧ (¬ (bc ((I2 81 x4))) = a2 → inR (x4 + 1) ∧ ∀ z7 : Int, z7 = x4 + 1 → rk x3 z7 I2 R3) ∧ ((bc ((I2 81 x4))) = a2 → inR (x3 + 1) ∧ ∀ z10 : Int, z10 = x3 + 1 → inR (x4 + 1) ∧ ∀ z13 : Int, z13 = x4 + 1 → rk z10 z13 I2 R3)))
def wX6_countCellsWith_5 (Q : Int → cI → cR → Prop) (a1 : Nat) (a2 : Int) : Nat → Int → Int → cI → cR → Prop
  | 0 => fun _ _ _ _ => False
  | n + 1 => wbX6_countCellsWith_5 Q a1 a2 (wX6_countCellsWith_5 Q a1 a2 n)
def wX6_countCellsWith (a1 : Nat) (a2 : Int) (I : cI) (R : cR) (Q : Int → cI → cR → Prop) : Prop := ∃ n, wX6_countCellsWith_5 Q a1 a2 n 0 0 I R
def wX11_reasoned (a1 : Int) (I : cI) (R : cR) (Q : Int → cI → cR → Prop) (Qx : Nat → cI → cR → Prop) : Prop := (a1 = 0 → Q ((I 80 1)) I R) ∧ (a1 = 1 → Q ((I 80 2)) I R) ∧ (a1 = 2 → wX6_countCellsWith ((R 0 7)) 1 I R (fun r1 I2 R3 => Q r1 I2 R3)) ∧ (a1 = 3 → wX6_countCellsWith ((R 0 7)) 0 I R (fun r6 I7 R8 => Q r6 I7 R8)) ∧ (¬ a1 = 0 → ¬ a1 = 1 → ¬ a1 = 2 → ¬ a1 = 3 → Qx 2 I R)
def wbX7_takeParts_18 (Q : cI → cR → Prop) (r0 : Nat) (a1 : Nat) (rk : Int → cI → cR → Prop) (x2 : Int) (I : cI) (R : cR) : Prop := ((I a1 3) ≤ x2 → Q I R) ∧ (¬ (I a1 3) ≤ x2 → (0 ≤ x2 ∧ x2 < 5) ∧ wX7_addCell r0 ((I (a1 + 130) x2)) I R (fun I3 R4 => inR (x2 + 1) ∧ ∀ z7 : Int, z7 = x2 + 1 → rk z7 I3 R4))
def wX7_takeParts_18 (Q : cI → cR → Prop) (r0 : Nat) (a1 : Nat) : Nat → Int → cI → cR → Prop
  | 0 => fun _ _ _ => False
  | n + 1 => wbX7_takeParts_18 Q r0 a1 (wX7_takeParts_18 Q r0 a1 n)
def wX7_takeParts (r0 : Nat) (a1 : Nat) (I : cI) (R : cR) (Q : cI → cR → Prop) : Prop := ∀ I1 : cI, I1 = up2 I r0 1 ((I a1 1)) → ∀ I4 : cI, I4 = up2 I1 r0 2 ((I1 a1 2)) → ∃ n, wX7_takeParts_18 Q r0 a1 n 0 I4 R
def wbX4_becomeCopyWithoutGivens_18 (Q : cI → cR → Prop) (p : Nat) (a1 : Nat) (rk : Int → cI → cR → Prop) (x2 : Int) (I : cI) (R : cR) : Prop := ((I a1 5) ≤ x2 → Q I R) ∧ (¬ (I a1 5) ≤ x2 → (0 ≤ x2 ∧ x2 < 65) ∧ ((R ((R (a1 + 2) x2)) 0) = 9 → inR (x2 + 1) ∧ ∀ z2 : Int, z2 = x2 + 1 → rk z2 I R) ∧ (¬ (R ((R (a1 + 2) x2)) 0) = 9 → wX4_addRule p ((R ((R (a1 + 2) x2)) 0)) I R (fun r5 I6 R7 => wX7_takeParts r5 ((R (a1 + 2) x2)) I6 R7 (fun I11 R12 => inR (x2 + 1) ∧ ∀ z15 : Int, z15 = x2 + 1 → rk z15 I11 R12))))
def wX4_becomeCopyWithoutGivens_18 (Q : cI → cR → Prop) (p : Nat) (a1 : Nat) : Nat → Int → cI → cR → Prop
  | 0 => fun _ _ _ => False
  | n + 1 => wbX4_becomeCopyWithoutGivens_18 Q p a1 (wX4_becomeCopyWithoutGivens_18 Q p a1 n)
def wX4_becomeCopyWithoutGivens (p : Nat) (a1 : Nat) (I : cI) (R : cR) (Q : cI → cR → Prop) : Prop := wX4_begin p ((I a1 0)) ((I a1 1)) ((I a1 2)) I R (fun I2 R3 => ∃ n, wX4_becomeCopyWithoutGivens_18 Q p a1 n 0 I2 R3)
def wX2_draw (I : cI) (R : cR) (Q : Int → cI → cR → Prop) : Prop := inR ((((I 83 1) * 1103) + 12345)) ∧ 0 ≤ (((I 83 1) * 1103) + 12345) ∧ inR (((((I 83 1) * 1103) + 12345) % 65536)) ∧ ∀ I4 : cI, I4 = up2 I 83 1 (((((I 83 1) * 1103) + 12345) % 65536)) → 0 ≤ (I4 83 1) ∧ inR (((I4 83 1) / 16)) ∧ Q (((I4 83 1) / 16)) I4 R
def wbX8_findsOneFrom_8 (Q : Int → cI → cR → Prop) (s0 : Nat) (a1 : Nat) (a2 : Nat) (rk : Int → cI → cR → Prop) (x3 : Int) (I : cI) (R : cR) : Prop := wX4_cellCount a1 I R (fun r1 I2 R3 => (r1 ≤ x3 → wX8_endsFrom 27 s0 a1 0 I2 R3 (fun r6 I7 R8 => (¬ (I7 s0 1) = 1 → Q 0 I7 R8) ∧ ((I7 s0 1) = 1 → Q 1 I7 R8))) ∧ (¬ r1 ≤ x3 → (0 ≤ x3 ∧ x3 < 25) ∧ (0 ≤ x3 ∧ x3 < 25) ∧ ∀ I13 : cI, I13 = up2 I2 (s0 + 4) x3 ((I2 a2 x3)) → inR (x3 + 1) ∧ ∀ z16 : Int, z16 = x3 + 1 → rk z16 I13 R3))
def wX8_findsOneFrom_8 (Q : Int → cI → cR → Prop) (s0 : Nat) (a1 : Nat) (a2 : Nat) : Nat → Int → cI → cR → Prop
  | 0 => fun _ _ _ => False
  | n + 1 => wbX8_findsOneFrom_8 Q s0 a1 a2 (wX8_findsOneFrom_8 Q s0 a1 a2 n)
def wX8_findsOneFrom (s0 : Nat) (a1 : Nat) (a2 : Nat) (I : cI) (R : cR) (Q : Int → cI → cR → Prop) : Prop := wX8_begin s0 1 (-1) I R (fun I2 R3 => ∃ n, wX8_findsOneFrom_8 Q s0 a1 a2 n 0 I2 R3)
def wX4_addGiven (p : Nat) (a1 : Int) (a2 : Int) (I : cI) (R : cR) (Q : cI → cR → Prop) : Prop := wX4_addRule p 9 I R (fun r1 I2 R3 => ∀ I6 : cI, I6 = up2 I2 r1 1 a2 → wX7_addCell r1 a1 I6 R3 (fun I10 R11 => Q I10 R11))
def wbX2_giveAll_74 (Q : Int → cI → cR → Prop) (a1 : Nat) (a2 : Nat) (a3 : Nat) (a4 : Int) (rk : Int → cI → cR → Prop) (x5 : Int) (I : cI) (R : cR) : Prop := wX4_cellCount a1 I R (fun r1 I2 R3 => (r1 ≤ x5 → Q 1 I2 R3) ∧ (¬ r1 ≤ x5 → (0 ≤ x5 ∧ x5 < 25) ∧ wX4_addGiven a1 x5 ((I2 ((a3 + 5 + Int.toNat (0))) x5)) I2 R3 (fun I8 R9 => inR (x5 + 1) ∧ ∀ z12 : Int, z12 = x5 + 1 → rk z12 I8 R9)))
def wX2_giveAll_74 (Q : Int → cI → cR → Prop) (a1 : Nat) (a2 : Nat) (a3 : Nat) (a4 : Int) : Nat → Int → cI → cR → Prop
  | 0 => fun _ _ _ => False
  | n + 1 => wbX2_giveAll_74 Q a1 a2 a3 a4 (wX2_giveAll_74 Q a1 a2 a3 a4 n)
def wbX2_giveAll_24 (Q : Int → cI → cR → Prop) (a1 : Nat) (a2 : Nat) (a3 : Nat) (a4 : Int) (rk : Int → cI → cR → Prop) (x5 : Int) (I : cI) (R : cR) : Prop := wX4_cellCount a1 I R (fun r1 I2 R3 => (r1 ≤ x5 → wX8_findsOneFrom a3 a1 84 I2 R3 (fun r6 I7 R8 => (¬ r6 = 0 → ∃ n, wX2_giveAll_74 Q a1 a2 a3 a4 n 0 I7 R8) ∧ (r6 = 0 → Q 0 I7 R8))) ∧ (¬ r1 ≤ x5 → wX2_draw I2 R3 (fun r12 I13 R14 => (0 ≤ r12 ∧ 0 < (I13 a1 2)) ∧ inR ((1 + (r12 % (I13 a1 2)))) ∧ (0 ≤ x5 ∧ x5 < 25) ∧ ∀ I20 : cI, I20 = up2 I13 84 x5 ((1 + (r12 % (I13 a1 2)))) → inR (x5 + 1) ∧ ∀ z23 : Int, z23 = x5 + 1 → rk z23 I20 R14)))
def wX2_giveAll_24 (Q : Int → cI → cR → Prop) (a1 : Nat) (a2 : Nat) (a3 : Nat) (a4 : Int) : Nat → Int → cI → cR → Prop
  | 0 => fun _ _ _ => False
  | n + 1 => wbX2_giveAll_24 Q a1 a2 a3 a4 (wX2_giveAll_24 Q a1 a2 a3 a4 n)
def wX2_giveAll (a1 : Nat) (a2 : Nat) (a3 : Nat) (a4 : Int) (I : cI) (R : cR) (Q : Int → cI → cR → Prop) : Prop := ∀ I1 : cI, I1 = up2 I 83 1 a4 → wX4_becomeCopyWithoutGivens a1 a2 I1 R (fun I5 R6 => (1 ≤ (I5 a1 2) → ∃ n, wX2_giveAll_24 Q a1 a2 a3 a4 n 0 I5 R6) ∧ (¬ 1 ≤ (I5 a1 2) → Q 0 I5 R6))
def wX7_isGivenOf (r0 : Nat) (a1 : Int) (I : cI) (R : cR) (Q : Int → cI → cR → Prop) : Prop := (¬ (R r0 0) = 9 → Q 0 I R) ∧ ((R r0 0) = 9 → wX7_hasCell r0 a1 I R (fun r1 I2 R3 => (r1 = 0 → Q 0 I2 R3) ∧ (¬ r1 = 0 → Q 1 I2 R3)))
def wbX4_findGiven_2 (Q : Int → cI → cR → Prop) (p : Nat) (a1 : Int) (rk : Int → cI → cR → Prop) (x2 : Int) (I : cI) (R : cR) : Prop := ((I p 5) ≤ x2 → Q (-1) I R) ∧ (¬ (I p 5) ≤ x2 → (0 ≤ x2 ∧ x2 < 65) ∧ wX7_isGivenOf ((R (p + 2) x2)) a1 I R (fun r2 I3 R4 => (r2 = 0 → inR (x2 + 1) ∧ ∀ z7 : Int, z7 = x2 + 1 → rk z7 I3 R4) ∧ (¬ r2 = 0 → Q x2 I3 R4)))
def wX4_findGiven_2 (Q : Int → cI → cR → Prop) (p : Nat) (a1 : Int) : Nat → Int → cI → cR → Prop
  | 0 => fun _ _ _ => False
  | n + 1 => wbX4_findGiven_2 Q p a1 (wX4_findGiven_2 Q p a1 n)
def wX4_findGiven (p : Nat) (a1 : Int) (I : cI) (R : cR) (Q : Int → cI → cR → Prop) : Prop := ∃ n, wX4_findGiven_2 Q p a1 n 0 I R
def wX2_dropGivens_58 (Q : cI → cR → Prop) (a1 : Nat) (a2 : Nat) (K22 : Int → Int → Int → cI → cR → Prop) (x3 : Int) (x4 : Int) (x5 : Int) (I : cI) (R : cR) : Prop := inR ((x4 + 7)) ∧ (0 ≤ (x4 + 7) ∧ 0 < x3) ∧ inR (((x4 + 7) % x3)) ∧ ∀ z4 : Int, z4 = ((x4 + 7) % x3) → inR (x5 + 1) ∧ ∀ z6 : Int, z6 = x5 + 1 → K22 x3 z4 z6 I R
def wbX2_dropGivens_22 (Q : cI → cR → Prop) (a1 : Nat) (a2 : Nat) (rk : Int → Int → Int → cI → cR → Prop) (x3 : Int) (x4 : Int) (x5 : Int) (I : cI) (R : cR) : Prop := (x3 ≤ x5 → Q I R) ∧ (¬ x3 ≤ x5 → wX4_findGiven a1 x4 I R (fun r1 I2 R3 => (r1 = -1 → wX2_dropGivens_58 Q a1 a2 rk x3 x4 x5 I2 R3) ∧ (¬ r1 = -1 → wX8_findsJustOne a2 a1 r1 I2 R3 (fun r6 I7 R8 => (r6 = 0 → wX2_dropGivens_58 Q a1 a2 rk x3 x4 x5 I7 R8) ∧ (¬ r6 = 0 → wX4_removeRule a1 r1 I7 R8 (fun I12 R13 => wX2_dropGivens_58 Q a1 a2 rk x3 x4 x5 I12 R13))))))
def wX2_dropGivens_22 (Q : cI → cR → Prop) (a1 : Nat) (a2 : Nat) : Nat → Int → Int → Int → cI → cR → Prop
  | 0 => fun _ _ _ _ _ => False
  | n + 1 => wbX2_dropGivens_22 Q a1 a2 (wX2_dropGivens_22 Q a1 a2 n)
def wX2_dropGivens (a1 : Nat) (a2 : Nat) (I : cI) (R : cR) (Q : cI → cR → Prop) : Prop := wX4_cellCount a1 I R (fun r1 I2 R3 => (1 ≤ r1 → wX2_draw I2 R3 (fun r6 I7 R8 => (0 ≤ r6 ∧ 0 < r1) ∧ inR ((r6 % r1)) ∧ ∀ z13 : Int, z13 = (r6 % r1) → ∃ n, wX2_dropGivens_22 Q a1 a2 n r1 z13 0 I7 R8)) ∧ (¬ 1 ≤ r1 → Q I2 R3))
def wX11_make_10 (Q : Int → cI → cR → Prop) (Qx : Nat → cI → cR → Prop) (a1 : Int) (I : cI) (R : cR) : Prop := Qx 1 I R
def wX11_make (a1 : Int) (I : cI) (R : cR) (Q : Int → cI → cR → Prop) (Qx : Nat → cI → cR → Prop) : Prop := (a1 < 0 → wX11_make_10 Q Qx a1 I R) ∧ (¬ a1 < 0 → (a1 ≤ 65535 → wX11_requirePuzzle I R (fun I2 R3 => wX2_giveAll ((R3 0 8)) ((R3 0 7)) 45 a1 I2 R3 (fun r6 I7 R8 => (¬ r6 = 0 → wX2_dropGivens ((R8 0 8)) 45 I7 R8 (fun I12 R13 => wX11_takeDraft I12 R13 (fun I17 R18 => wX4_countGivens ((R18 0 7)) I17 R18 (fun r21 I22 R23 => Q r21 I22 R23)))) ∧ (r6 = 0 → Q (-1) I7 R8))) Qx) ∧ (¬ a1 ≤ 65535 → wX11_make_10 Q Qx a1 I R))
def wbX7_moveCells_7 (Q : cI → cR → Prop) (r0 : Nat) (a1 : Nat) (rk : Int → cI → cR → Prop) (x2 : Int) (I : cI) (R : cR) : Prop := ((I r0 3) ≤ x2 → Q I R) ∧ (¬ (I r0 3) ≤ x2 → (0 ≤ x2 ∧ x2 < 5) ∧ (0 ≤ (I (r0 + 130) x2) ∧ (I (r0 + 130) x2) < 25) ∧ (0 ≤ x2 ∧ x2 < 5) ∧ ∀ I4 : cI, I4 = up2 I (r0 + 130) x2 ((I a1 ((I (r0 + 130) x2)))) → (0 ≤ x2 ∧ x2 < 5) ∧ ∀ I8 : cI, I8 = up2 I4 r0 5 ((iOr ((I4 r0 5)) ((iShl 1 ((I4 (r0 + 130) x2)))))) → inR (x2 + 1) ∧ ∀ z11 : Int, z11 = x2 + 1 → rk z11 I8 R)
def wX7_moveCells_7 (Q : cI → cR → Prop) (r0 : Nat) (a1 : Nat) : Nat → Int → cI → cR → Prop
  | 0 => fun _ _ _ => False
  | n + 1 => wbX7_moveCells_7 Q r0 a1 (wX7_moveCells_7 Q r0 a1 n)
def wX7_moveCells (r0 : Nat) (a1 : Nat) (I : cI) (R : cR) (Q : cI → cR → Prop) : Prop := ∀ I1 : cI, I1 = up2 I r0 5 0 → ∃ n, wX7_moveCells_7 Q r0 a1 n 0 I1 R
def wbX4_becomeMoved_160 (Q : cI → cR → Prop) (p : Nat) (a1 : Nat) (a2 : Int) (rk : Int → cI → cR → Prop) (x3 : Int) (I : cI) (R : cR) : Prop := ((I a1 5) ≤ x3 → Q I R) ∧ (¬ (I a1 5) ≤ x3 → (0 ≤ x3 ∧ x3 < 65) ∧ wX4_addRule p ((R ((R (a1 + 2) x3)) 0)) I R (fun r2 I3 R4 => (0 ≤ x3 ∧ x3 < 65) ∧ wX7_takeParts r2 ((R4 (a1 + 2) x3)) I3 R4 (fun I9 R10 => wX7_moveCells r2 (p + 3) I9 R10 (fun I14 R15 => inR (x3 + 1) ∧ ∀ z18 : Int, z18 = x3 + 1 → rk z18 I14 R15))))
def wX4_becomeMoved_160 (Q : cI → cR → Prop) (p : Nat) (a1 : Nat) (a2 : Int) : Nat → Int → cI → cR → Prop
  | 0 => fun _ _ _ => False
  | n + 1 => wbX4_becomeMoved_160 Q p a1 a2 (wX4_becomeMoved_160 Q p a1 a2 n)
def wX4_becomeMoved_97 (Q : cI → cR → Prop) (p : Nat) (a1 : Nat) (a2 : Int) (K41 : Int → cI → cR → Prop) (K52 : Int → Int → cI → cR → Prop) (x3 : Int) (x4 : Int) (x5 : Int) (y0 : Int) (I : cI) (R : cR) : Prop := inR ((x4 + ((I a1 0) * x3))) ∧ ∀ z2 : Int, z2 = (x4 + ((I a1 0) * x3)) → inR ((x5 + ((I p 0) * y0))) ∧ (0 ≤ z2 ∧ z2 < 25) ∧ ∀ I6 : cI, I6 = up2 I (p + 3) z2 ((x5 + ((I p 0) * y0))) → (0 ≤ z2 ∧ z2 < 25) ∧ (0 ≤ z2 ∧ z2 < 25) ∧ (0 ≤ (I6 (p + 3) z2) ∧ (I6 (p + 3) z2) < 25) ∧ ∀ I12 : cI, I12 = up2 I6 (p + 1) ((I6 (p + 3) z2)) ((I6 (a1 + 1) z2)) → inR (x4 + 1) ∧ ∀ z15 : Int, z15 = x4 + 1 → K52 x3 z15 I12 R
def wX4_becomeMoved_85 (Q : cI → cR → Prop) (p : Nat) (a1 : Nat) (a2 : Int) (K41 : Int → cI → cR → Prop) (K52 : Int → Int → cI → cR → Prop) (x3 : Int) (x4 : Int) (y0 : Int) (I : cI) (R : cR) : Prop := (a2 = 0 → wX4_becomeMoved_97 Q p a1 a2 K41 K52 x3 x4 y0 x3 I R) ∧ (¬ a2 = 0 → wX4_becomeMoved_97 Q p a1 a2 K41 K52 x3 x4 y0 x4 I R)
def wbX4_becomeMoved_52 (Q : cI → cR → Prop) (p : Nat) (a1 : Nat) (a2 : Int) (K41 : Int → cI → cR → Prop) (rk : Int → Int → cI → cR → Prop) (x3 : Int) (x4 : Int) (I : cI) (R : cR) : Prop := ((I a1 0) ≤ x4 → inR (x3 + 1) ∧ ∀ z1 : Int, z1 = x3 + 1 → K41 z1 I R) ∧ (¬ (I a1 0) ≤ x4 → (a2 = 0 → inR ((((I a1 0) - 1) - x4)) ∧ wX4_becomeMoved_85 Q p a1 a2 K41 rk x3 x4 ((((I a1 0) - 1) - x4)) I R) ∧ (¬ a2 = 0 → inR ((((I a1 1) - 1) - x3)) ∧ wX4_becomeMoved_85 Q p a1 a2 K41 rk x3 x4 ((((I a1 1) - 1) - x3)) I R))
def wX4_becomeMoved_52 (Q : cI → cR → Prop) (p : Nat) (a1 : Nat) (a2 : Int) (K41 : Int → cI → cR → Prop) : Nat → Int → Int → cI → cR → Prop
  | 0 => fun _ _ _ _ => False
  | n + 1 => wbX4_becomeMoved_52 Q p a1 a2 K41 (wX4_becomeMoved_52 Q p a1 a2 K41 n)
def wbX4_becomeMoved_41 (Q : cI → cR → Prop) (p : Nat) (a1 : Nat) (a2 : Int) (rk : Int → cI → cR → Prop) (x3 : Int) (I : cI) (R : cR) : Prop := ((I a1 1) ≤ x3 → ∃ n, wX4_becomeMoved_160 Q p a1 a2 n 0 I R) ∧ (¬ (I a1 1) ≤ x3 → ∃ n, wX4_becomeMoved_52 Q p a1 a2 rk n x3 0 I R)
def wX4_becomeMoved_41 (Q : cI → cR → Prop) (p : Nat) (a1 : Nat) (a2 : Int) : Nat → Int → cI → cR → Prop
  | 0 => fun _ _ _ => False
  | n + 1 => wbX4_becomeMoved_41 Q p a1 a2 (wX4_becomeMoved_41 Q p a1 a2 n)
def wX4_becomeMoved_39 (Q : cI → cR → Prop) (p : Nat) (a1 : Nat) (a2 : Int) (I : cI) (R : cR) : Prop := ∃ n, wX4_becomeMoved_41 Q p a1 a2 n 0 I R
def wX4_becomeMoved (p : Nat) (a1 : Nat) (a2 : Int) (I : cI) (R : cR) (Q : cI → cR → Prop) : Prop := (a2 = 0 → wX4_begin p ((I a1 0)) ((I a1 1)) ((I a1 2)) I R (fun I2 R3 => wX4_becomeMoved_39 Q p a1 a2 I2 R3)) ∧ (¬ a2 = 0 → wX4_begin p ((I a1 1)) ((I a1 0)) ((I a1 2)) I R (fun I7 R8 => wX4_becomeMoved_39 Q p a1 a2 I7 R8))
def wX11_change_41 (Q : Int → cI → cR → Prop) (Qx : Nat → cI → cR → Prop) (a1 : Int) (y0 : Nat) (y1 : Nat) (y2 : Int) (I : cI) (R : cR) : Prop := wX4_becomeMoved y0 y1 y2 I R (fun I2 R3 => wX11_takeDraft I2 R3 (fun I7 R8 => wX4_cellCount ((R8 0 7)) I7 R8 (fun r11 I12 R13 => Q r11 I12 R13)))
def wX11_change_20 (Q : Int → cI → cR → Prop) (Qx : Nat → cI → cR → Prop) (a1 : Int) (I : cI) (R : cR) : Prop := wX11_requirePuzzle I R (fun I2 R3 => (¬ a1 = 0 → wX11_change_41 Q Qx a1 ((R3 0 8)) ((R3 0 7)) 0 I2 R3) ∧ (a1 = 0 → wX11_change_41 Q Qx a1 ((R3 0 8)) ((R3 0 7)) 1 I2 R3)) Qx
def wX11_change (a1 : Int) (I : cI) (R : cR) (Q : Int → cI → cR → Prop) (Qx : Nat → cI → cR → Prop) : Prop := (a1 = 0 → wX11_change_20 Q Qx a1 I R) ∧ (¬ a1 = 0 → (a1 = 1 → wX11_change_20 Q Qx a1 I R) ∧ (¬ a1 = 1 → Qx 1 I R))
def wbX11_digest_222 (Q : Int → cI → cR → Prop) (rk : Int → Int → cI → cR → Prop) (x1 : Int) (x3 : Int) (I : cI) (R : cR) : Prop := ((I 8 1) ≤ x3 → Q x1 I R) ∧ (¬ (I 8 1) ≤ x3 → (0 ≤ x3 ∧ x3 < 1980) ∧ inR (x3 + 1) ∧ ∀ z2 : Int, z2 = x3 + 1 → rk (((x1 * 31) + (I 9 x3))) z2 I R)
def wX11_digest_222 (Q : Int → cI → cR → Prop) : Nat → Int → Int → cI → cR → Prop
  | 0 => fun _ _ _ _ => False
  | n + 1 => wbX11_digest_222 Q (wX11_digest_222 Q n)
def wbX11_digest_196 (Q : Int → cI → cR → Prop) (rk : Int → Int → cI → cR → Prop) (x1 : Int) (x3 : Int) (I : cI) (R : cR) : Prop := (3 < x3 → ∃ n, wX11_digest_222 Q n x1 0 I R) ∧ (¬ 3 < x3 → wX11_reasoned x3 I R (fun r2 I3 R4 => inR (x3 + 1) ∧ ∀ z7 : Int, z7 = x3 + 1 → rk (((x1 * 31) + r2)) z7 I3 R4) (fun _ _ _ => False))
def wX11_digest_196 (Q : Int → cI → cR → Prop) : Nat → Int → Int → cI → cR → Prop
  | 0 => fun _ _ _ _ => False
  | n + 1 => wbX11_digest_196 Q (wX11_digest_196 Q n)
def wbX11_digest_150 (Q : Int → cI → cR → Prop) (K136 : Int → Int → cI → cR → Prop) (rk : Int → Int → Int → cI → cR → Prop) (x1 : Int) (x3 : Int) (x4 : Int) (I : cI) (R : cR) : Prop := wX4_cellCount ((R 0 7)) I R (fun r1 I2 R3 => (r1 ≤ x4 → inR (x3 + 1) ∧ ∀ z6 : Int, z6 = x3 + 1 → K136 x1 z6 I2 R3) ∧ (¬ r1 ≤ x4 → (0 ≤ x3 ∧ x3 < 30) ∧ (0 ≤ x4 ∧ x4 < 25) ∧ inR (x4 + 1) ∧ ∀ z11 : Int, z11 = x4 + 1 → rk (((x1 * 31) + (I2 ((15 + Int.toNat (x3))) x4))) x3 z11 I2 R3))
def wX11_digest_150 (Q : Int → cI → cR → Prop) (K136 : Int → Int → cI → cR → Prop) : Nat → Int → Int → Int → cI → cR → Prop
  | 0 => fun _ _ _ _ _ => False
  | n + 1 => wbX11_digest_150 Q K136 (wX11_digest_150 Q K136 n)
def wbX11_digest_136 (Q : Int → cI → cR → Prop) (rk : Int → Int → cI → cR → Prop) (x1 : Int) (x3 : Int) (I : cI) (R : cR) : Prop := ((I 10 1) ≤ x3 → ∃ n, wX11_digest_196 Q n x1 0 I R) ∧ (¬ (I 10 1) ≤ x3 → ∃ n, wX11_digest_150 Q rk n x1 x3 0 I R)
def wX11_digest_136 (Q : Int → cI → cR → Prop) : Nat → Int → Int → cI → cR → Prop
  | 0 => fun _ _ _ _ => False
  | n + 1 => wbX11_digest_136 Q (wX11_digest_136 Q n)
def wbX11_digest_83 (Q : Int → cI → cR → Prop) (rk : Int → Int → cI → cR → Prop) (x1 : Int) (x3 : Int) (I : cI) (R : cR) : Prop := wX4_cellCount ((R 0 7)) I R (fun r1 I2 R3 => (r1 ≤ x3 → ∃ n, wX11_digest_136 Q n x1 0 I2 R3) ∧ (¬ r1 ≤ x3 → (0 ≤ x3 ∧ x3 < 25) ∧ (0 ≤ x3 ∧ x3 < 25) ∧ inR (x3 + 1) ∧ ∀ z9 : Int, z9 = x3 + 1 → rk (((((x1 * 31) + (I2 ((R3 0 7) + 1) x3)) * 31) + (I2 81 x3))) z9 I2 R3))
def wX11_digest_83 (Q : Int → cI → cR → Prop) : Nat → Int → Int → cI → cR → Prop
  | 0 => fun _ _ _ _ => False
  | n + 1 => wbX11_digest_83 Q (wX11_digest_83 Q n)
def wbX11_digest_47 (Q : Int → cI → cR → Prop) (K33 : Int → Int → cI → cR → Prop) (rk : Int → Int → Int → cI → cR → Prop) (x1 : Int) (x3 : Int) (x4 : Int) (I : cI) (R : cR) : Prop := (9 < x4 → inR (x3 + 1) ∧ ∀ z1 : Int, z1 = x3 + 1 → K33 x1 z1 I R) ∧ (¬ 9 < x4 → wX11_rule x3 x4 I R (fun r4 I5 R6 => inR (x4 + 1) ∧ ∀ z9 : Int, z9 = x4 + 1 → rk (((x1 * 31) + r4)) x3 z9 I5 R6) (fun _ _ _ => False))
def wX11_digest_47 (Q : Int → cI → cR → Prop) (K33 : Int → Int → cI → cR → Prop) : Nat → Int → Int → Int → cI → cR → Prop
  | 0 => fun _ _ _ _ _ => False
  | n + 1 => wbX11_digest_47 Q K33 (wX11_digest_47 Q K33 n)
def wbX11_digest_33 (Q : Int → cI → cR → Prop) (rk : Int → Int → cI → cR → Prop) (x1 : Int) (x3 : Int) (I : cI) (R : cR) : Prop := ((I ((R 0 7)) 5) ≤ x3 → ∃ n, wX11_digest_83 Q n x1 0 I R) ∧ (¬ (I ((R 0 7)) 5) ≤ x3 → ∃ n, wX11_digest_47 Q rk n x1 x3 0 I R)
def wX11_digest_33 (Q : Int → cI → cR → Prop) : Nat → Int → Int → cI → cR → Prop
  | 0 => fun _ _ _ _ => False
  | n + 1 => wbX11_digest_33 Q (wX11_digest_33 Q n)
def wbX11_digest_6 (Q : Int → cI → cR → Prop) (rk : Int → Int → cI → cR → Prop) (x1 : Int) (x3 : Int) (I : cI) (R : cR) : Prop := (10 < x3 → ∃ n, wX11_digest_33 Q n x1 0 I R) ∧ (¬ 10 < x3 → wX11_count x3 I R (fun r2 I3 R4 => inR (x3 + 1) ∧ ∀ z7 : Int, z7 = x3 + 1 → rk (((x1 * 31) + r2)) z7 I3 R4) (fun _ _ _ => False))
def wX11_digest_6 (Q : Int → cI → cR → Prop) : Nat → Int → Int → cI → cR → Prop
  | 0 => fun _ _ _ _ => False
  | n + 1 => wbX11_digest_6 Q (wX11_digest_6 Q n)
def wX11_digest (I : cI) (R : cR) (Q : Int → cI → cR → Prop) : Prop := ∃ n, wX11_digest_6 Q n 457 0 I R
