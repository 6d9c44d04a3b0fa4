/-! ===== what the runs ask: the reference ===== -/
def wX12_thrown (J : cI) (Q : Int → cI → Prop) : Prop := Q ((J 1000 0)) J
def wX12_no (a1 : Int) (J : cI) (Q : Int → cI → Prop) : Prop := ∀ J1 : cI, J1 = up2 J 1000 0 a1 → Q 0 J1
def wX12_isIn (a0 : Int) (a1 : Int) (a2 : Int) (J : cI) (Q : Int → cI → Prop) : Prop := (a0 < a1 → Q 0 J) ∧ (¬ a0 < a1 → (a2 < a0 → Q 0 J) ∧ (¬ a2 < a0 → Q 1 J))
def wX12_cells (J : cI) (Q : Int → cI → Prop) : Prop := inR (((J 1000 11) * (J 1000 12))) ∧ Q (((J 1000 11) * (J 1000 12))) J
def wX12_isCell (a1 : Int) (J : cI) (Q : Int → cI → Prop) : Prop := wX12_cells J (fun r1 J2 => inR ((r1 - 1)) ∧ wX12_isIn a1 0 ((r1 - 1)) J2 (fun r6 J7 => (r6 = 0 ∨ r6 = 1) ∧ Q r6 J7))
def wX12_isRule (a1 : Int) (J : cI) (Q : Int → cI → Prop) : Prop := inR (((J 1000 14) - 1)) ∧ wX12_isIn a1 0 (((J 1000 14) - 1)) J (fun r2 J3 => (r2 = 0 ∨ r2 = 1) ∧ Q r2 J3)
def wbX12_feed_80 (Q : Int → cI → Prop) (a1 : Int) (a2 : Int) (a3 : Int) (a4 : Int) (a5 : Int) (K63 : Int → Int → (Int → Int) → cI → Prop) (rk : Int → Int → Int → Int → (Int → Int) → cI → Prop) (x8 : Int) (x9 : Int) (x10 : Int) (x11 : Int) (f0 : Int → Int) (J : cI) : Prop := (x11 < 0 → inR (x9 + 1) ∧ ∀ z1 : Int, z1 = x9 + 1 → K63 x8 z1 f0 J) ∧ (¬ x11 < 0 → (0 ≤ (J 1000 2) ∧ (J 1000 2) < 1600) ∧ ∀ J5 : cI, J5 = up2 J 1001 ((J 1000 2)) ((iAnd ((iShr x10 ((8 * x11)))) 255)) → inR (((J5 1000 2) + 1)) ∧ ∀ J9 : cI, J9 = up2 J5 1000 2 (((J5 1000 2) + 1)) → inR (x11 + (-1)) ∧ ∀ z12 : Int, z12 = x11 + (-1) → rk x8 x9 x10 z12 f0 J9)
def wX12_feed_80 (Q : Int → cI → Prop) (a1 : Int) (a2 : Int) (a3 : Int) (a4 : Int) (a5 : Int) (K63 : Int → Int → (Int → Int) → cI → Prop) : Nat → Int → Int → Int → Int → (Int → Int) → cI → Prop
  | 0 => fun _ _ _ _ _ _ => False
  | n + 1 => wbX12_feed_80 Q a1 a2 a3 a4 a5 K63 (wX12_feed_80 Q a1 a2 a3 a4 a5 K63 n)
def wbX12_feed_63 (Q : Int → cI → Prop) (a1 : Int) (a2 : Int) (a3 : Int) (a4 : Int) (a5 : Int) (rk : Int → Int → (Int → Int) → cI → Prop) (x8 : Int) (x9 : Int) (f0 : Int → Int) (J : cI) : Prop := (x8 ≤ x9 → Q ((J 1000 2)) J) ∧ (¬ x8 ≤ x9 → (0 ≤ x9 ∧ x9 < 5) ∧ ∀ z2 : Int, z2 = (f0 x9) → ∃ n, wX12_feed_80 Q a1 a2 a3 a4 a5 rk n x8 x9 z2 3 f0 J)
def wX12_feed_63 (Q : Int → cI → Prop) (a1 : Int) (a2 : Int) (a3 : Int) (a4 : Int) (a5 : Int) : Nat → Int → Int → (Int → Int) → cI → Prop
  | 0 => fun _ _ _ _ => False
  | n + 1 => wbX12_feed_63 Q a1 a2 a3 a4 a5 (wX12_feed_63 Q a1 a2 a3 a4 a5 n)
def wX12_feed (a1 : Int) (a2 : Int) (a3 : Int) (a4 : Int) (a5 : Int) (J : cI) (Q : Int → cI → Prop) : Prop := ∀ J1 : cI, J1 = up2 J 1000 0 0 → inR (((J1 1000 2) + 20)) ∧ (((J1 1000 2) + 20) ≤ 1600 → ∀ f6 : Int → Int, f6 = (fun _ => 0) → ∀ f8 : Int → Int, f8 = upF f6 0 a1 → ∀ f10 : Int → Int, f10 = upF f8 1 a2 → ∀ f12 : Int → Int, f12 = upF f10 2 a3 → ∀ f14 : Int → Int, f14 = upF f12 3 a4 → ∀ f16 : Int → Int, f16 = upF f14 4 a5 → ∃ n, wX12_feed_63 Q a1 a2 a3 a4 a5 n 5 0 f16 J1) ∧ (¬ ((J1 1000 2) + 20) ≤ 1600 → wX12_no 1 J1 (fun r19 J20 => Q r19 J20))
def wX12_trim (a1 : Int) (J : cI) (Q : Int → cI → Prop) : Prop := ∀ J1 : cI, J1 = up2 J 1000 0 0 → wX12_isIn a1 0 ((J1 1000 2)) J1 (fun r4 J5 => (¬ r4 = 0 → ∀ J8 : cI, J8 = up2 J5 1000 2 a1 → Q a1 J8) ∧ (r4 = 0 → wX12_no 1 J5 (fun r11 J12 => Q r11 J12)))
def wX12_byteAtTape (a1 : Int) (J : cI) (Q : Int → cI → Prop) : Prop := ((J 1000 2) ≤ a1 → Q (-1) J) ∧ (¬ (J 1000 2) ≤ a1 → (0 ≤ a1 ∧ a1 < 1600) ∧ Q ((J 1001 a1)) J)
def wX12_isLetter (a1 : Int) (J : cI) (Q : Int → cI → Prop) : Prop := wX12_byteAtTape a1 J (fun r1 J2 => wX12_isIn r1 97 122 J2 (fun r5 J6 => (r5 = 0 ∨ r5 = 1) ∧ Q r5 J6))
def wX12_isDigit (a1 : Int) (J : cI) (Q : Int → cI → Prop) : Prop := wX12_byteAtTape a1 J (fun r1 J2 => wX12_isIn r1 48 57 J2 (fun r5 J6 => (r5 = 0 ∨ r5 = 1) ∧ Q r5 J6))
def wX12_scan_181 (Q : cI → Prop) (K6 : Int → Int → Int → cI → Prop) (x1 : Int) (x2 : Int) (x4 : Int) (x5 : Int) (J : cI) : Prop := (0 ≤ x1 ∧ x1 < 1601) ∧ ∀ J2 : cI, J2 = up2 J 1004 x1 x5 → (0 ≤ x1 ∧ x1 < 1601) ∧ ∀ J6 : cI, J6 = up2 J2 1005 x1 x2 → (0 ≤ x1 ∧ x1 < 1601) ∧ ∀ J10 : cI, J10 = up2 J6 1006 x1 x4 → inR (x1 + 1) ∧ ∀ z13 : Int, z13 = x1 + 1 → (x5 = 0 → K6 z13 x4 0 J10) ∧ (¬ x5 = 0 → K6 z13 x4 1 J10)
def wX12_scan_179 (Q : cI → Prop) (K6 : Int → Int → Int → cI → Prop) (x1 : Int) (x2 : Int) (x4 : Int) (y0 : Int) (J : cI) : Prop := wX12_scan_181 Q K6 x1 x2 x4 y0 J
def wX12_scan_147 (Q : cI → Prop) (K6 : Int → Int → Int → cI → Prop) (x1 : Int) (x2 : Int) (x4 : Int) (y0 : Int) (J : cI) : Prop := wX12_scan_181 Q K6 x1 x2 x4 y0 J
def wbX12_scan_119 (Q : cI → Prop) (K6 : Int → Int → Int → cI → Prop) (rk : Int → Int → Int → cI → Prop) (x1 : Int) (x2 : Int) (x4 : Int) (J : cI) : Prop := wX12_isDigit x4 J (fun r1 J2 => (r1 = 0 → inR ((x4 - x2)) ∧ (4 < (x4 - x2) → wX12_scan_147 Q K6 x1 x2 x4 5 J2) ∧ (¬ 4 < (x4 - x2) → wX12_scan_147 Q K6 x1 x2 x4 3 J2)) ∧ (¬ r1 = 0 → inR (x4 + 1) ∧ ∀ z6 : Int, z6 = x4 + 1 → rk x1 x2 z6 J2))
def wX12_scan_119 (Q : cI → Prop) (K6 : Int → Int → Int → cI → Prop) : Nat → Int → Int → Int → cI → Prop
  | 0 => fun _ _ _ _ => False
  | n + 1 => wbX12_scan_119 Q K6 (wX12_scan_119 Q K6 n)
def wX12_scan_106 (Q : cI → Prop) (K6 : Int → Int → Int → cI → Prop) (x1 : Int) (x2 : Int) (x4 : Int) (y0 : Int) (J : cI) : Prop := wX12_scan_181 Q K6 x1 x2 x4 y0 J
def wbX12_scan_77 (Q : cI → Prop) (K6 : Int → Int → Int → cI → Prop) (rk : Int → Int → Int → cI → Prop) (x1 : Int) (x2 : Int) (x4 : Int) (J : cI) : Prop := wX12_isLetter x4 J (fun r1 J2 => (r1 = 0 → inR ((x4 - x2)) ∧ (8 < (x4 - x2) → wX12_scan_106 Q K6 x1 x2 x4 5 J2) ∧ (¬ 8 < (x4 - x2) → wX12_scan_106 Q K6 x1 x2 x4 2 J2)) ∧ (¬ r1 = 0 → inR (x4 + 1) ∧ ∀ z6 : Int, z6 = x4 + 1 → rk x1 x2 z6 J2))
def wX12_scan_77 (Q : cI → Prop) (K6 : Int → Int → Int → cI → Prop) : Nat → Int → Int → Int → cI → Prop
  | 0 => fun _ _ _ _ => False
  | n + 1 => wbX12_scan_77 Q K6 (wX12_scan_77 Q K6 n)
def wX12_scan_69 (Q : cI → Prop) (K6 : Int → Int → Int → cI → Prop) (x1 : Int) (x2 : Int) (x4 : Int) (x5 : Int) (J : cI) : Prop := wX12_isLetter x2 J (fun r1 J2 => (r1 = 0 → wX12_isDigit x2 J2 (fun r5 J6 => (r5 = 0 → ((J6 1000 2) ≤ x2 → wX12_scan_181 Q K6 x1 x2 x4 x5 J6) ∧ (¬ (J6 1000 2) ≤ x2 → inR (x4 + 1) ∧ ∀ z9 : Int, z9 = x4 + 1 → (0 ≤ x2 ∧ x2 < 1600) ∧ (¬ (J6 1001 x2) = 59 → wX12_scan_179 Q K6 x1 x2 z9 5 J6) ∧ ((J6 1001 x2) = 59 → wX12_scan_179 Q K6 x1 x2 z9 4 J6))) ∧ (¬ r5 = 0 → ∃ n, wX12_scan_119 Q K6 n x1 x2 x4 J6))) ∧ (¬ r1 = 0 → ∃ n, wX12_scan_77 Q K6 n x1 x2 x4 J2))
def wbX12_scan_10 (Q : cI → Prop) (K6 : Int → Int → Int → cI → Prop) (rk : Int → Int → cI → Prop) (x1 : Int) (x2 : Int) (J : cI) : Prop := wX12_byteAtTape x2 J (fun r1 J2 => (r1 = 32 → inR (x2 + 1) ∧ ∀ z5 : Int, z5 = x2 + 1 → rk x1 z5 J2) ∧ (¬ r1 = 32 → wX12_byteAtTape x2 J2 (fun r8 J9 => (¬ r8 = 10 → wX12_isLetter x2 J9 (fun r12 J13 => (r12 = 0 → wX12_scan_69 Q K6 x1 x2 x2 0 J13) ∧ (¬ r12 = 0 → inR ((x2 + 1)) ∧ wX12_isDigit ((x2 + 1)) J13 (fun r17 J18 => (r17 = 0 → wX12_scan_69 Q K6 x1 x2 x2 0 J18) ∧ (¬ r17 = 0 → inR (x2 + 2) ∧ ∀ z21 : Int, z21 = x2 + 2 → wX12_scan_181 Q K6 x1 x2 z21 1 J18))))) ∧ (r8 = 10 → inR (x2 + 1) ∧ ∀ z24 : Int, z24 = x2 + 1 → rk x1 z24 J9))))
def wX12_scan_10 (Q : cI → Prop) (K6 : Int → Int → Int → cI → Prop) : Nat → Int → Int → cI → Prop
  | 0 => fun _ _ _ => False
  | n + 1 => wbX12_scan_10 Q K6 (wX12_scan_10 Q K6 n)
def wbX12_scan_6 (Q : cI → Prop) (rk : Int → Int → Int → cI → Prop) (x1 : Int) (x2 : Int) (x3 : Int) (J : cI) : Prop := (x3 = 0 → Q J) ∧ (¬ x3 = 0 → ∃ n, wX12_scan_10 Q rk n x1 x2 J)
def wX12_scan_6 (Q : cI → Prop) : Nat → Int → Int → Int → cI → Prop
  | 0 => fun _ _ _ _ => False
  | n + 1 => wbX12_scan_6 Q (wX12_scan_6 Q n)
def wX12_scan (J : cI) (Q : cI → Prop) : Prop := ∃ n, wX12_scan_6 Q n 0 0 1 J
def wbX12_is_39 (Q : Int → cI → Prop) (a1 : Int) (a2 : Nat) (rk : Int → Int → cI → Prop) (x3 : Int) (x4 : Int) (J : cI) : Prop := ((txN a2) ≤ x4 → (x3 = 0 ∨ x3 = 1) ∧ Q x3 J) ∧ (¬ (txN a2) ≤ x4 → (x3 = 0 → (x3 = 0 ∨ x3 = 1) ∧ Q x3 J) ∧ (¬ x3 = 0 → (0 ≤ a1 ∧ a1 < 1601) ∧ (0 ≤ ((J 1005 a1) + x4) ∧ ((J 1005 a1) + x4) < 1600) ∧ (0 ≤ x4 ∧ x4 < txN a2) ∧ (¬ (J 1001 (((J 1005 a1) + x4))) = (txC a2 x4) → inR (x4 + 1) ∧ ∀ z6 : Int, z6 = x4 + 1 → rk 0 z6 J) ∧ ((J 1001 (((J 1005 a1) + x4))) = (txC a2 x4) → inR (x4 + 1) ∧ ∀ z9 : Int, z9 = x4 + 1 → rk 1 z9 J)))
def wX12_is_39 (Q : Int → cI → Prop) (a1 : Int) (a2 : Nat) : Nat → Int → Int → cI → Prop
  | 0 => fun _ _ _ => False
  | n + 1 => wbX12_is_39 Q a1 a2 (wX12_is_39 Q a1 a2 n)
def wX12_is_35 (Q : Int → cI → Prop) (a1 : Int) (a2 : Nat) (y0 : Int) (J : cI) : Prop := ∃ n, wX12_is_39 Q a1 a2 n y0 0 J
def wX12_is_34 (Q : Int → cI → Prop) (a1 : Int) (a2 : Nat) (J : cI) : Prop := wX12_is_35 Q a1 a2 0 J
def wX12_is (a1 : Int) (a2 : Nat) (J : cI) (Q : Int → cI → Prop) : Prop := (0 ≤ a1 ∧ a1 < 1601) ∧ (¬ (J 1004 a1) = 2 → wX12_is_34 Q a1 a2 J) ∧ ((J 1004 a1) = 2 → (0 ≤ a1 ∧ a1 < 1601) ∧ (0 ≤ a1 ∧ a1 < 1601) ∧ inR (((J 1006 a1) - (J 1005 a1))) ∧ (¬ ((J 1006 a1) - (J 1005 a1)) = (txN a2) → wX12_is_34 Q a1 a2 J) ∧ (((J 1006 a1) - (J 1005 a1)) = (txN a2) → wX12_is_35 Q a1 a2 1 J))
def wbX12_wordAt_4 (Q : Int → cI → Prop) (a1 : Int) (rk : Int → Int → cI → Prop) (x2 : Int) (x3 : Int) (J : cI) : Prop := (14 ≤ x3 → Q x2 J) ∧ (¬ 14 ≤ x3 → (0 ≤ x3 ∧ x3 < 14) ∧ wX12_is a1 (Int.toNat (x3)) J (fun r2 J3 => (r2 = 0 → inR (x3 + 1) ∧ ∀ z6 : Int, z6 = x3 + 1 → rk x2 z6 J3) ∧ (¬ r2 = 0 → inR (x3 + 1) ∧ ∀ z9 : Int, z9 = x3 + 1 → rk x3 z9 J3)))
def wX12_wordAt_4 (Q : Int → cI → Prop) (a1 : Int) : Nat → Int → Int → cI → Prop
  | 0 => fun _ _ _ => False
  | n + 1 => wbX12_wordAt_4 Q a1 (wX12_wordAt_4 Q a1 n)
def wX12_wordAt (a1 : Int) (J : cI) (Q : Int → cI → Prop) : Prop := ∃ n, wX12_wordAt_4 Q a1 n (-1) 0 J
def wbX12_numberAt_9 (Q : Int → cI → Prop) (a1 : Int) (rk : Int → Int → cI → Prop) (x2 : Int) (x3 : Int) (J : cI) : Prop := (0 ≤ a1 ∧ a1 < 1601) ∧ ((J 1006 a1) ≤ x3 → Q x2 J) ∧ (¬ (J 1006 a1) ≤ x3 → (0 ≤ x3 ∧ x3 < 1600) ∧ inR ((((10 * x2) + (J 1001 x3)) - 48)) ∧ ∀ z4 : Int, z4 = (((10 * x2) + (J 1001 x3)) - 48) → inR (x3 + 1) ∧ ∀ z6 : Int, z6 = x3 + 1 → rk z4 z6 J)
def wX12_numberAt_9 (Q : Int → cI → Prop) (a1 : Int) : Nat → Int → Int → cI → Prop
  | 0 => fun _ _ _ => False
  | n + 1 => wbX12_numberAt_9 Q a1 (wX12_numberAt_9 Q a1 n)
def wX12_numberAt (a1 : Int) (J : cI) (Q : Int → cI → Prop) : Prop := (0 ≤ a1 ∧ a1 < 1601) ∧ ∀ z2 : Int, z2 = (J 1005 a1) → ∃ n, wX12_numberAt_9 Q a1 n 0 z2 J
def wX12_takes (a1 : Int) (J : cI) (Q : Int → cI → Prop) : Prop := (0 ≤ (J 1000 7) ∧ (J 1000 7) < 1601) ∧ ((J 1004 ((J 1000 7))) = a1 → inR (((J 1000 7) + 1)) ∧ ∀ J3 : cI, J3 = up2 J 1000 7 (((J 1000 7) + 1)) → Q 1 J3) ∧ (¬ (J 1004 ((J 1000 7))) = a1 → Q 0 J)
def wbX12_ruleForm_94 (Q : Int → cI → Prop) (rk : cI → Prop) (J : cI) : Prop := (0 ≤ (J 1000 7) ∧ (J 1000 7) < 1601) ∧ (¬ (J 1004 ((J 1000 7))) = 1 → Q 1 J) ∧ ((J 1004 ((J 1000 7))) = 1 → inR (((J 1000 7) + 1)) ∧ ∀ J3 : cI, J3 = up2 J 1000 7 (((J 1000 7) + 1)) → rk J3)
def wX12_ruleForm_94 (Q : Int → cI → Prop) : Nat → cI → Prop
  | 0 => fun _ => False
  | n + 1 => wbX12_ruleForm_94 Q (wX12_ruleForm_94 Q n)
def wbX12_ruleForm_28 (Q : Int → cI → Prop) (rk : Int → Int → cI → Prop) (x1 : Int) (x2 : Int) (J : cI) : Prop := (0 ≤ x1 ∧ x1 < 14) ∧ ((nuT x1) ≤ x2 → (x1 < 12 → wX12_takes 1 J (fun r2 J3 => (¬ r2 = 0 → (¬ x1 = 9 → (¬ x1 = 3 → ∃ n, wX12_ruleForm_94 Q n J3) ∧ (x1 = 3 → wX12_takes 1 J3 (fun r7 J8 => (r7 = 0 ∨ r7 = 1) ∧ Q r7 J8))) ∧ (x1 = 9 → wX12_takes 3 J3 (fun r12 J13 => (r12 = 0 ∨ r12 = 1) ∧ Q r12 J13))) ∧ (r2 = 0 → Q 0 J3))) ∧ (¬ x1 < 12 → Q 1 J)) ∧ (¬ (nuT x1) ≤ x2 → wX12_takes 3 J (fun r17 J18 => (¬ r17 = 0 → inR (x2 + 1) ∧ ∀ z21 : Int, z21 = x2 + 1 → rk x1 z21 J18) ∧ (r17 = 0 → Q 0 J18)))
def wX12_ruleForm_28 (Q : Int → cI → Prop) : Nat → Int → Int → cI → Prop
  | 0 => fun _ _ _ => False
  | n + 1 => wbX12_ruleForm_28 Q (wX12_ruleForm_28 Q n)
def wX12_ruleForm (J : cI) (Q : Int → cI → Prop) : Prop := wX12_wordAt ((J 1000 7)) J (fun r1 J2 => (¬ r1 = -1 → inR (((J2 1000 7) + 1)) ∧ ∀ J6 : cI, J6 = up2 J2 1000 7 (((J2 1000 7) + 1)) → ∃ n, wX12_ruleForm_28 Q n r1 0 J6) ∧ (r1 = -1 → Q 0 J2))
def wbX12_form_56 (Q : Int → cI → Prop) (rk : cI → Prop) (J : cI) : Prop := (0 ≤ (J 1000 7) ∧ (J 1000 7) < 1601) ∧ ((J 1004 ((J 1000 7))) = 0 → Q 1 J) ∧ (¬ (J 1004 ((J 1000 7))) = 0 → wX12_ruleForm J (fun r2 J3 => (r2 = 0 → Q 0 J3) ∧ (¬ r2 = 0 → wX12_takes 4 J3 (fun r6 J7 => (¬ r6 = 0 → rk J7) ∧ (r6 = 0 → Q 0 J7)))))
def wX12_form_56 (Q : Int → cI → Prop) : Nat → cI → Prop
  | 0 => fun _ => False
  | n + 1 => wbX12_form_56 Q (wX12_form_56 Q n)
def wX12_form (J : cI) (Q : Int → cI → Prop) : Prop := ∀ J1 : cI, J1 = up2 J 1000 7 0 → wX12_is 0 14 J1 (fun r4 J5 => (¬ r4 = 0 → ∀ J8 : cI, J8 = up2 J5 1000 7 1 → wX12_takes 3 J8 (fun r11 J12 => (r11 = 0 → Q 0 J12) ∧ (¬ r11 = 0 → wX12_takes 3 J12 (fun r15 J16 => (r15 = 0 → Q 0 J16) ∧ (¬ r15 = 0 → wX12_takes 3 J16 (fun r19 J20 => (r19 = 0 → Q 0 J20) ∧ (¬ r19 = 0 → wX12_takes 4 J20 (fun r23 J24 => (¬ r23 = 0 → ∃ n, wX12_form_56 Q n J24) ∧ (r23 = 0 → Q 0 J24))))))))) ∧ (r4 = 0 → Q 0 J5))
def wX12_wrong (a1 : Int) (a2 : Int) (J : cI) (Q : Int → cI → Prop) : Prop := ∀ J1 : cI, J1 = up2 J 1000 8 a1 → (0 ≤ a2 ∧ a2 < 1601) ∧ ∀ J5 : cI, J5 = up2 J1 1000 3 ((J1 1005 a2)) → Q 0 J5
def wX12_lay (a1 : Int) (a2 : Int) (a3 : Int) (J : cI) (Q : cI → Prop) : Prop := (0 ≤ (J 1000 36) ∧ (J 1000 36) < 70) ∧ ∀ J2 : cI, J2 = up2 J 1037 ((J 1000 36)) a1 → (0 ≤ (J2 1000 36) ∧ (J2 1000 36) < 70) ∧ ∀ J6 : cI, J6 = up2 J2 1038 ((J2 1000 36)) a2 → (0 ≤ (J6 1000 36) ∧ (J6 1000 36) < 70) ∧ ∀ J10 : cI, J10 = up2 J6 1039 ((J6 1000 36)) a3 → (0 ≤ (J10 1000 36) ∧ (J10 1000 36) < 70) ∧ ∀ J14 : cI, J14 = up2 J10 1040 ((J10 1000 36)) 0 → Q J14
def wX12_layCell (a1 : Int) (J : cI) (Q : cI → Prop) : Prop := (0 ≤ (J 1000 36) ∧ (J 1000 36) < 70) ∧ (0 ≤ ((5 * (J 1000 36)) + (J 1040 ((J 1000 36)))) ∧ ((5 * (J 1000 36)) + (J 1040 ((J 1000 36)))) < 350) ∧ ∀ J3 : cI, J3 = up2 J 1041 (((5 * (J 1000 36)) + (J 1040 ((J 1000 36))))) a1 → (0 ≤ (J3 1000 36) ∧ (J3 1000 36) < 70) ∧ inR (((J3 1040 ((J3 1000 36))) + 1)) ∧ (0 ≤ (J3 1000 36) ∧ (J3 1000 36) < 70) ∧ ∀ J9 : cI, J9 = up2 J3 1040 ((J3 1000 36)) (((J3 1040 ((J3 1000 36))) + 1)) → Q J9
def wX12_isNumber (a1 : Int) (a2 : Int) (a3 : Int) (J : cI) (Q : Int → cI → Prop) : Prop := (¬ a1 = 8 → (¬ a1 = 5 → (¬ a1 = 10 → Q 1 J) ∧ (a1 = 10 → wX12_isIn a3 1 4 J (fun r1 J2 => (r1 = 0 → Q 0 J2) ∧ (¬ r1 = 0 → Q 1 J2)))) ∧ (a1 = 5 → wX12_isIn a3 1 5 J (fun r5 J6 => (r5 = 0 ∨ r5 = 1) ∧ Q r5 J6))) ∧ (a1 = 8 → (¬ a2 = 0 → wX12_isIn a3 0 5 J (fun r10 J11 => (r10 = 0 ∨ r10 = 1) ∧ Q r10 J11)) ∧ (a2 = 0 → wX12_isIn a3 1 ((J 1000 35)) J (fun r15 J16 => (r15 = 0 ∨ r15 = 1) ∧ Q r15 J16)))
def wX12_ruleMeaning_519 (Q : Int → cI → Prop) (a1 : Int) (J : cI) : Prop := inR (((J 1000 36) + 1)) ∧ ∀ J2 : cI, J2 = up2 J 1000 36 (((J 1000 36) + 1)) → Q 1 J2
def wX12_ruleMeaning_342 (Q : Int → cI → Prop) (a1 : Int) (J : cI) : Prop := wX12_wrong 2 ((J 1000 7)) J (fun r1 J2 => (r1 = 0 ∨ r1 = 1) ∧ Q r1 J2)
def wbX12_ruleMeaning_366 (Q : Int → cI → Prop) (a1 : Int) (K261 : cI → Prop) (rk : Int → Int → cI → Prop) (x5 : Int) (x6 : Int) (J : cI) : Prop := (0 ≤ (J 1000 36) ∧ (J 1000 36) < 70) ∧ ((J 1040 ((J 1000 36))) ≤ x6 → (0 ≤ (J 1000 36) ∧ (J 1000 36) < 70) ∧ (¬ (J 1040 ((J 1000 36))) = 5 → wX12_layCell x5 J (fun J4 => inR (((J4 1000 7) + 1)) ∧ ∀ J8 : cI, J8 = up2 J4 1000 7 (((J4 1000 7) + 1)) → K261 J8)) ∧ ((J 1040 ((J 1000 36))) = 5 → wX12_wrong 4 ((J 1000 7)) J (fun r11 J12 => (r11 = 0 ∨ r11 = 1) ∧ Q r11 J12))) ∧ (¬ (J 1040 ((J 1000 36))) ≤ x6 → (0 ≤ ((5 * (J 1000 36)) + x6) ∧ ((5 * (J 1000 36)) + x6) < 350) ∧ (¬ (J 1041 (((5 * (J 1000 36)) + x6))) = x5 → inR (x6 + 1) ∧ ∀ z17 : Int, z17 = x6 + 1 → rk x5 z17 J) ∧ ((J 1041 (((5 * (J 1000 36)) + x6))) = x5 → wX12_wrong 3 ((J 1000 7)) J (fun r20 J21 => (r20 = 0 ∨ r20 = 1) ∧ Q r20 J21)))
def wX12_ruleMeaning_366 (Q : Int → cI → Prop) (a1 : Int) (K261 : cI → Prop) : Nat → Int → Int → cI → Prop
  | 0 => fun _ _ _ => False
  | n + 1 => wbX12_ruleMeaning_366 Q a1 K261 (wX12_ruleMeaning_366 Q a1 K261 n)
def wbX12_ruleMeaning_261 (Q : Int → cI → Prop) (a1 : Int) (rk : cI → Prop) (J : cI) : Prop := (0 ≤ (J 1000 7) ∧ (J 1000 7) < 1601) ∧ (¬ (J 1004 ((J 1000 7))) = 1 → (¬ a1 = 9 → wX12_ruleMeaning_519 Q a1 J) ∧ (a1 = 9 → wX12_numberAt ((J 1000 7)) J (fun r2 J3 => wX12_isIn r2 1 ((J3 1000 35)) J3 (fun r6 J7 => (¬ r6 = 0 → wX12_numberAt ((J7 1000 7)) J7 (fun r10 J11 => (0 ≤ (J7 1000 36) ∧ (J7 1000 36) < 70) ∧ ∀ J15 : cI, J15 = up2 J11 1038 ((J7 1000 36)) r10 → inR (((J15 1000 7) + 1)) ∧ ∀ J19 : cI, J19 = up2 J15 1000 7 (((J15 1000 7) + 1)) → wX12_ruleMeaning_519 Q a1 J19)) ∧ (r6 = 0 → wX12_wrong 2 ((J7 1000 7)) J7 (fun r22 J23 => (r22 = 0 ∨ r22 = 1) ∧ Q r22 J23)))))) ∧ ((J 1004 ((J 1000 7))) = 1 → (0 ≤ (J 1000 7) ∧ (J 1000 7) < 1601) ∧ (0 ≤ (J 1005 ((J 1000 7))) ∧ (J 1005 ((J 1000 7))) < 1600) ∧ inR (((J 1001 ((J 1005 ((J 1000 7))))) - 97)) ∧ ∀ z30 : Int, z30 = ((J 1001 ((J 1005 ((J 1000 7))))) - 97) → (0 ≤ (J 1000 7) ∧ (J 1000 7) < 1601) ∧ (0 ≤ ((J 1005 ((J 1000 7))) + 1) ∧ ((J 1005 ((J 1000 7))) + 1) < 1600) ∧ inR (((J 1001 (((J 1005 ((J 1000 7))) + 1))) - 49)) ∧ ∀ z35 : Int, z35 = ((J 1001 (((J 1005 ((J 1000 7))) + 1))) - 49) → inR (((J 1000 33) - 1)) ∧ wX12_isIn z30 0 (((J 1000 33) - 1)) J (fun r38 J39 => (r38 = 0 → wX12_ruleMeaning_342 Q a1 J39) ∧ (¬ r38 = 0 → inR (((J39 1000 34) - 1)) ∧ wX12_isIn z35 0 (((J39 1000 34) - 1)) J39 (fun r43 J44 => (¬ r43 = 0 → inR ((z30 + ((J44 1000 33) * z35))) ∧ ∀ z48 : Int, z48 = (z30 + ((J44 1000 33) * z35)) → ∃ n, wX12_ruleMeaning_366 Q a1 rk n z48 0 J44) ∧ (r43 = 0 → wX12_ruleMeaning_342 Q a1 J44)))))
def wX12_ruleMeaning_261 (Q : Int → cI → Prop) (a1 : Int) : Nat → cI → Prop
  | 0 => fun _ => False
  | n + 1 => wbX12_ruleMeaning_261 Q a1 (wX12_ruleMeaning_261 Q a1 n)
def wX12_ruleMeaning_245 (Q : Int → cI → Prop) (a1 : Int) (K168 : Int → cI → Prop) (x3 : Int) (J : cI) : Prop := inR (((J 1000 7) + 1)) ∧ ∀ J2 : cI, J2 = up2 J 1000 7 (((J 1000 7) + 1)) → inR (x3 + 1) ∧ ∀ z5 : Int, z5 = x3 + 1 → K168 z5 J2
def wbX12_ruleMeaning_168 (Q : Int → cI → Prop) (a1 : Int) (rk : Int → cI → Prop) (x3 : Int) (J : cI) : Prop := (0 ≤ a1 ∧ a1 < 14) ∧ ((nuT a1) ≤ x3 → ∃ n, wX12_ruleMeaning_261 Q a1 n J) ∧ (¬ (nuT a1) ≤ x3 → wX12_numberAt ((J 1000 7)) J (fun r3 J4 => wX12_isNumber a1 x3 r3 J4 (fun r7 J8 => (¬ r7 = 0 → (¬ x3 = 0 → wX12_numberAt ((J8 1000 7)) J8 (fun r11 J12 => (0 ≤ (J8 1000 36) ∧ (J8 1000 36) < 70) ∧ ∀ J16 : cI, J16 = up2 J12 1039 ((J8 1000 36)) r11 → wX12_ruleMeaning_245 Q a1 rk x3 J16)) ∧ (x3 = 0 → wX12_numberAt ((J8 1000 7)) J8 (fun r19 J20 => (0 ≤ (J8 1000 36) ∧ (J8 1000 36) < 70) ∧ ∀ J24 : cI, J24 = up2 J20 1038 ((J8 1000 36)) r19 → wX12_ruleMeaning_245 Q a1 rk x3 J24))) ∧ (r7 = 0 → wX12_wrong 2 ((J8 1000 7)) J8 (fun r27 J28 => (r27 = 0 ∨ r27 = 1) ∧ Q r27 J28)))))
def wX12_ruleMeaning_168 (Q : Int → cI → Prop) (a1 : Int) : Nat → Int → cI → Prop
  | 0 => fun _ _ => False
  | n + 1 => wbX12_ruleMeaning_168 Q a1 (wX12_ruleMeaning_168 Q a1 n)
def wX12_ruleMeaning_132 (Q : Int → cI → Prop) (a1 : Int) (K67 : Int → Int → cI → Prop) (K82 : Int → Int → Int → cI → Prop) (x2 : Int) (x3 : Int) (x4 : Int) (y1 : Int) (J : cI) : Prop := wX12_layCell y1 J (fun J2 => inR (x4 + 1) ∧ ∀ z5 : Int, z5 = x4 + 1 → K82 x2 x3 z5 J2)
def wX12_ruleMeaning_101 (Q : Int → cI → Prop) (a1 : Int) (K67 : Int → Int → cI → Prop) (K82 : Int → Int → Int → cI → Prop) (x2 : Int) (x3 : Int) (x4 : Int) (y0 : Int) (y1 : Int) (J : cI) : Prop := (y1 ≤ y0 → inR (((J 1000 36) + 1)) ∧ ∀ J2 : cI, J2 = up2 J 1000 36 (((J 1000 36) + 1)) → inR (x3 + 1) ∧ ∀ z5 : Int, z5 = x3 + 1 → K67 x2 z5 J2) ∧ (¬ y1 ≤ y0 → (¬ a1 = 12 → inR ((x3 + ((J 1000 33) * x4))) ∧ wX12_ruleMeaning_132 Q a1 K67 K82 x2 x3 x4 ((x3 + ((J 1000 33) * x4))) J) ∧ (a1 = 12 → inR ((x4 + ((J 1000 33) * x3))) ∧ wX12_ruleMeaning_132 Q a1 K67 K82 x2 x3 x4 ((x4 + ((J 1000 33) * x3))) J))
def wbX12_ruleMeaning_82 (Q : Int → cI → Prop) (a1 : Int) (K67 : Int → Int → cI → Prop) (rk : Int → Int → Int → cI → Prop) (x2 : Int) (x3 : Int) (x4 : Int) (J : cI) : Prop := (¬ a1 = 12 → wX12_ruleMeaning_101 Q a1 K67 rk x2 x3 x4 x4 ((J 1000 34)) J) ∧ (a1 = 12 → wX12_ruleMeaning_101 Q a1 K67 rk x2 x3 x4 x4 ((J 1000 33)) J)
def wX12_ruleMeaning_82 (Q : Int → cI → Prop) (a1 : Int) (K67 : Int → Int → cI → Prop) : Nat → Int → Int → Int → cI → Prop
  | 0 => fun _ _ _ _ => False
  | n + 1 => wbX12_ruleMeaning_82 Q a1 K67 (wX12_ruleMeaning_82 Q a1 K67 n)
def wbX12_ruleMeaning_67 (Q : Int → cI → Prop) (a1 : Int) (rk : Int → Int → cI → Prop) (x2 : Int) (x3 : Int) (J : cI) : Prop := (x2 ≤ x3 → Q 1 J) ∧ (¬ x2 ≤ x3 → wX12_lay 0 0 0 J (fun J2 => ∃ n, wX12_ruleMeaning_82 Q a1 rk n x2 x3 0 J2))
def wX12_ruleMeaning_67 (Q : Int → cI → Prop) (a1 : Int) : Nat → Int → Int → cI → Prop
  | 0 => fun _ _ _ => False
  | n + 1 => wbX12_ruleMeaning_67 Q a1 (wX12_ruleMeaning_67 Q a1 n)
def wX12_ruleMeaning_27 (Q : Int → cI → Prop) (a1 : Int) (y0 : Int) (J : cI) : Prop := inR (((J 1000 36) + y0)) ∧ (((J 1000 36) + y0) ≤ 40 → inR (((J 1000 7) + 1)) ∧ ∀ J3 : cI, J3 = up2 J 1000 7 (((J 1000 7) + 1)) → (a1 < 12 → wX12_lay a1 0 0 J3 (fun J7 => ∃ n, wX12_ruleMeaning_168 Q a1 n 0 J7)) ∧ (¬ a1 < 12 → ∃ n, wX12_ruleMeaning_67 Q a1 n y0 0 J3)) ∧ (¬ ((J 1000 36) + y0) ≤ 40 → wX12_wrong 4 ((J 1000 7)) J (fun r12 J13 => (r12 = 0 ∨ r12 = 1) ∧ Q r12 J13))
def wX12_ruleMeaning (a1 : Int) (J : cI) (Q : Int → cI → Prop) : Prop := (¬ a1 = 12 → (¬ a1 = 13 → wX12_ruleMeaning_27 Q a1 1 J) ∧ (a1 = 13 → wX12_ruleMeaning_27 Q a1 ((J 1000 33)) J)) ∧ (a1 = 12 → wX12_ruleMeaning_27 Q a1 ((J 1000 34)) J)
def wbX12_meaning_70 (Q : Int → cI → Prop) (rk : cI → Prop) (J : cI) : Prop := (0 ≤ (J 1000 7) ∧ (J 1000 7) < 1601) ∧ ((J 1004 ((J 1000 7))) = 0 → Q 1 J) ∧ (¬ (J 1004 ((J 1000 7))) = 0 → wX12_wordAt ((J 1000 7)) J (fun r2 J3 => wX12_ruleMeaning r2 J3 (fun r6 J7 => (¬ r6 = 0 → inR (((J7 1000 7) + 1)) ∧ ∀ J11 : cI, J11 = up2 J7 1000 7 (((J7 1000 7) + 1)) → rk J11) ∧ (r6 = 0 → Q 0 J7))))
def wX12_meaning_70 (Q : Int → cI → Prop) : Nat → cI → Prop
  | 0 => fun _ => False
  | n + 1 => wbX12_meaning_70 Q (wX12_meaning_70 Q n)
def wbX12_meaning_2 (Q : Int → cI → Prop) (rk : Int → cI → Prop) (x1 : Int) (J : cI) : Prop := (4 ≤ x1 → wX12_numberAt 1 J (fun r1 J2 => ∀ J5 : cI, J5 = up2 J2 1000 33 r1 → wX12_numberAt 2 J5 (fun r8 J9 => ∀ J12 : cI, J12 = up2 J9 1000 34 r8 → wX12_numberAt 3 J12 (fun r15 J16 => ∀ J19 : cI, J19 = up2 J16 1000 35 r15 → ∀ J22 : cI, J22 = up2 J19 1000 36 0 → ∀ J25 : cI, J25 = up2 J22 1000 7 5 → ∃ n, wX12_meaning_70 Q n J25)))) ∧ (¬ 4 ≤ x1 → wX12_numberAt x1 J (fun r29 J30 => wX12_isIn r29 2 5 J30 (fun r33 J34 => (¬ r33 = 0 → inR (x1 + 1) ∧ ∀ z37 : Int, z37 = x1 + 1 → rk z37 J34) ∧ (r33 = 0 → wX12_wrong 2 x1 J34 (fun r40 J41 => (r40 = 0 ∨ r40 = 1) ∧ Q r40 J41)))))
def wX12_meaning_2 (Q : Int → cI → Prop) : Nat → Int → cI → Prop
  | 0 => fun _ _ => False
  | n + 1 => wbX12_meaning_2 Q (wX12_meaning_2 Q n)
def wX12_meaning (J : cI) (Q : Int → cI → Prop) : Prop := ∃ n, wX12_meaning_2 Q n 1 J
def wbX12_copyRule_48 (Q : cI → Prop) (a1 : Nat) (a2 : Nat) (a3 : Nat) (a4 : Nat) (a5 : Nat) (a6 : Int) (a7 : Int) (rk : Int → cI → Prop) (x8 : Int) (J : cI) : Prop := (5 ≤ x8 → Q J) ∧ (¬ 5 ≤ x8 → (0 ≤ ((5 * a6) + x8) ∧ ((5 * a6) + x8) < 350) ∧ (0 ≤ ((5 * a7) + x8) ∧ ((5 * a7) + x8) < 350) ∧ ∀ J3 : cI, J3 = up2 J 1019 (((5 * a7) + x8)) ((J a5 (((5 * a6) + x8)))) → inR (x8 + 1) ∧ ∀ z6 : Int, z6 = x8 + 1 → rk z6 J3)
def wX12_copyRule_48 (Q : cI → Prop) (a1 : Nat) (a2 : Nat) (a3 : Nat) (a4 : Nat) (a5 : Nat) (a6 : Int) (a7 : Int) : Nat → Int → cI → Prop
  | 0 => fun _ _ => False
  | n + 1 => wbX12_copyRule_48 Q a1 a2 a3 a4 a5 a6 a7 (wX12_copyRule_48 Q a1 a2 a3 a4 a5 a6 a7 n)
def wX12_copyRule (a1 : Nat) (a2 : Nat) (a3 : Nat) (a4 : Nat) (a5 : Nat) (a6 : Int) (a7 : Int) (J : cI) (Q : cI → Prop) : Prop := (0 ≤ a6 ∧ a6 < 70) ∧ (0 ≤ a7 ∧ a7 < 70) ∧ ∀ J3 : cI, J3 = up2 J 1015 a7 ((J a1 a6)) → (0 ≤ a6 ∧ a6 < 70) ∧ (0 ≤ a7 ∧ a7 < 70) ∧ ∀ J8 : cI, J8 = up2 J3 1016 a7 ((J3 a2 a6)) → (0 ≤ a6 ∧ a6 < 70) ∧ (0 ≤ a7 ∧ a7 < 70) ∧ ∀ J13 : cI, J13 = up2 J8 1017 a7 ((J8 a3 a6)) → (0 ≤ a6 ∧ a6 < 70) ∧ (0 ≤ a7 ∧ a7 < 70) ∧ ∀ J18 : cI, J18 = up2 J13 1018 a7 ((J13 a4 a6)) → ∃ n, wX12_copyRule_48 Q a1 a2 a3 a4 a5 a6 a7 n 0 J18
def wX12_lookAnew_47 (Q : Int → cI → Prop) (K4 : Int → Int → cI → Prop) (x1 : Int) (x2 : Int) (y1 : Int) (y2 : Int) (J : cI) : Prop := (0 ≤ y1 ∧ y1 < 25) ∧ ∀ J2 : cI, J2 = up2 J 1030 y1 y2 → (0 ≤ x2 ∧ x2 < 25) ∧ inR ((x1 + (bc ((J2 1030 x2))))) ∧ ∀ z7 : Int, z7 = (x1 + (bc ((J2 1030 x2)))) → inR (x2 + 1) ∧ ∀ z9 : Int, z9 = x2 + 1 → K4 z7 z9 J2
def wbX12_lookAnew_4 (Q : Int → cI → Prop) (rk : Int → Int → cI → Prop) (x1 : Int) (x2 : Int) (J : cI) : Prop := wX12_cells J (fun r1 J2 => (r1 ≤ x2 → ∀ J5 : cI, J5 = up2 J2 1000 31 0 → ∀ J8 : cI, J8 = up2 J5 1000 32 0 → Q x1 J8) ∧ (¬ r1 ≤ x2 → (0 ≤ x2 ∧ x2 < 25) ∧ ((J2 1020 x2) ≤ 0 → inR (((iShl 1 ((J2 1000 13))) - 1)) ∧ wX12_lookAnew_47 Q rk x1 x2 x2 (((iShl 1 ((J2 1000 13))) - 1)) J2) ∧ (¬ (J2 1020 x2) ≤ 0 → (0 ≤ x2 ∧ x2 < 25) ∧ wX12_lookAnew_47 Q rk x1 x2 x2 ((iShl 1 (((J2 1020 x2) - 1)))) J2)))
def wX12_lookAnew_4 (Q : Int → cI → Prop) : Nat → Int → Int → cI → Prop
  | 0 => fun _ _ _ => False
  | n + 1 => wbX12_lookAnew_4 Q (wX12_lookAnew_4 Q n)
def wX12_lookAnew (J : cI) (Q : Int → cI → Prop) : Prop := ∃ n, wX12_lookAnew_4 Q n 0 0 J
def wbX12_begin_76 (Q : cI → Prop) (rk : Int → cI → Prop) (x1 : Int) (J : cI) : Prop := (25 ≤ x1 → ∀ J1 : cI, J1 = up2 J 1000 28 0 → wX12_lookAnew J1 (fun r4 J5 => Q J5)) ∧ (¬ 25 ≤ x1 → (0 ≤ x1 ∧ x1 < 25) ∧ ∀ J9 : cI, J9 = up2 J 1020 x1 0 → inR (x1 + 1) ∧ ∀ z12 : Int, z12 = x1 + 1 → rk z12 J9)
def wX12_begin_76 (Q : cI → Prop) : Nat → Int → cI → Prop
  | 0 => fun _ _ => False
  | n + 1 => wbX12_begin_76 Q (wX12_begin_76 Q n)
def wbX12_begin_34 (Q : cI → Prop) (rk : Int → cI → Prop) (x1 : Int) (J : cI) : Prop := ((J 1000 36) ≤ x1 → ∃ n, wX12_begin_76 Q n 0 J) ∧ (¬ (J 1000 36) ≤ x1 → wX12_copyRule 1037 1038 1039 1040 1041 x1 x1 J (fun J3 => inR (x1 + 1) ∧ ∀ z6 : Int, z6 = x1 + 1 → rk z6 J3))
def wX12_begin_34 (Q : cI → Prop) : Nat → Int → cI → Prop
  | 0 => fun _ _ => False
  | n + 1 => wbX12_begin_34 Q (wX12_begin_34 Q n)
def wX12_begin (J : cI) (Q : cI → Prop) : Prop := ∀ J1 : cI, J1 = up2 J 1000 11 ((J 1000 33)) → ∀ J4 : cI, J4 = up2 J1 1000 12 ((J1 1000 34)) → ∀ J7 : cI, J7 = up2 J4 1000 13 ((J4 1000 35)) → ∀ J10 : cI, J10 = up2 J7 1000 14 ((J7 1000 36)) → ∃ n, wX12_begin_34 Q n 0 J10
def wX12_compile (J : cI) (Q : Int → cI → Prop) : Prop := ∀ J1 : cI, J1 = up2 J 1000 0 0 → ∀ J4 : cI, J4 = up2 J1 1000 8 0 → ∀ J7 : cI, J7 = up2 J4 1000 3 (-1) → wX12_scan J7 (fun J11 => wX12_form J11 (fun r14 J15 => (¬ r14 = 0 → wX12_meaning J15 (fun r18 J19 => (r18 = 0 → ∀ J22 : cI, J22 = up2 J19 1000 2 0 → Q ((J22 1000 8)) J22) ∧ (¬ r18 = 0 → wX12_begin J19 (fun J26 => ∀ J29 : cI, J29 = up2 J26 1000 2 0 → Q ((J29 1000 8)) J29)))) ∧ (r14 = 0 → wX12_wrong 1 ((J15 1000 7)) J15 (fun r32 J33 => ∀ J36 : cI, J36 = up2 J33 1000 2 0 → Q ((J36 1000 8)) J36))))
def wX12_moveRule (a1 : Int) (a2 : Int) (J : cI) (Q : cI → Prop) : Prop := wX12_copyRule 1015 1016 1017 1018 1019 a1 a2 J (fun J2 => Q J2)
def wX12_errorAt (J : cI) (Q : Int → cI → Prop) : Prop := ∀ J1 : cI, J1 = up2 J 1000 0 0 → Q ((J1 1000 3)) J1
def wX12_cellOf (a1 : Int) (a2 : Int) (J : cI) (Q : Int → cI → Prop) : Prop := (0 ≤ ((5 * a1) + a2) ∧ ((5 * a1) + a2) < 350) ∧ Q ((J 1019 (((5 * a1) + a2)))) J
def wX12_seen_43 (Q : Int → cI → Prop) (a1 : Int) (a2 : Nat) (K8 : Int → Int → Int → cI → Prop) (x3 : Int) (x5 : Int) (x6 : Int) (y0 : Int) (y1 : Int) (J : cI) : Prop := inR ((y0 + y1)) ∧ ∀ z2 : Int, z2 = (y0 + y1) → ∀ z4 : Int, z4 = (imax x3 x6) → inR (x5 + 1) ∧ ∀ z6 : Int, z6 = x5 + 1 → K8 z4 z2 z6 J
def wbX12_seen_8 (Q : Int → cI → Prop) (a1 : Int) (a2 : Nat) (rk : Int → Int → Int → cI → Prop) (x3 : Int) (x4 : Int) (x5 : Int) (J : cI) : Prop := (0 ≤ a1 ∧ a1 < 70) ∧ ((J 1018 a1) ≤ x5 → Q x4 J) ∧ (¬ (J 1018 a1) ≤ x5 → wX12_cellOf a1 x5 J (fun r2 J3 => (0 ≤ r2 ∧ r2 < 25) ∧ ∀ z7 : Int, z7 = (J3 a2 r2) → (z7 ≤ x3 → wX12_seen_43 Q a1 a2 rk x3 x5 z7 x4 0 J3) ∧ (¬ z7 ≤ x3 → wX12_seen_43 Q a1 a2 rk x3 x5 z7 x4 1 J3)))
def wX12_seen_8 (Q : Int → cI → Prop) (a1 : Int) (a2 : Nat) : Nat → Int → Int → Int → cI → Prop
  | 0 => fun _ _ _ _ => False
  | n + 1 => wbX12_seen_8 Q a1 a2 (wX12_seen_8 Q a1 a2 n)
def wX12_seen (a1 : Int) (a2 : Nat) (J : cI) (Q : Int → cI → Prop) : Prop := ∃ n, wX12_seen_8 Q a1 a2 n 0 0 0 J
def wbX12_isPairBroken_22 (Q : Int → cI → Prop) (a1 : Int) (a2 : Nat) (K5 : Int → Int → cI → Prop) (rk : Int → Int → Int → cI → Prop) (x3 : Int) (x4 : Int) (x5 : Int) (J : cI) : Prop := (0 ≤ a1 ∧ a1 < 70) ∧ ((J 1018 a1) ≤ x5 → inR (x4 + 1) ∧ ∀ z2 : Int, z2 = x4 + 1 → K5 x3 z2 J) ∧ (¬ (J 1018 a1) ≤ x5 → wX12_cellOf a1 x4 J (fun r5 J6 => (0 ≤ r5 ∧ r5 < 25) ∧ ∀ z10 : Int, z10 = (J6 a2 r5) → wX12_cellOf a1 x5 J6 (fun r12 J13 => (0 ≤ r12 ∧ r12 < 25) ∧ ∀ z17 : Int, z17 = (J13 a2 r12) → (z10 = 0 → inR (x5 + 1) ∧ ∀ z19 : Int, z19 = x5 + 1 → rk x3 x4 z19 J13) ∧ (¬ z10 = 0 → (¬ z17 = 0 → (0 ≤ a1 ∧ a1 < 70) ∧ ∀ z23 : Int, z23 = (J13 1015 a1) → (¬ z23 = 0 → (¬ z23 = 11 → (¬ z23 = 3 → (¬ z23 = 4 → (¬ x3 = 0 → inR (x5 + 1) ∧ ∀ z25 : Int, z25 = x5 + 1 → rk 1 x4 z25 J13) ∧ (x3 = 0 → inR ((x4 + 1)) ∧ (¬ x5 = (x4 + 1) → inR (x5 + 1) ∧ ∀ z29 : Int, z29 = x5 + 1 → rk 0 x4 z29 J13) ∧ (x5 = (x4 + 1) → inR ((z10 - z17)) ∧ (0 ≤ a1 ∧ a1 < 70) ∧ inR ((iabs ((z10 - z17)))) ∧ ((J13 1016 a1) ≤ (iabs ((z10 - z17))) → inR (x5 + 1) ∧ ∀ z35 : Int, z35 = x5 + 1 → rk 0 x4 z35 J13) ∧ (¬ (J13 1016 a1) ≤ (iabs ((z10 - z17))) → inR (x5 + 1) ∧ ∀ z38 : Int, z38 = x5 + 1 → rk 1 x4 z38 J13)))) ∧ (z23 = 4 → (¬ x3 = 0 → inR (x5 + 1) ∧ ∀ z41 : Int, z41 = x5 + 1 → rk 1 x4 z41 J13) ∧ (x3 = 0 → inR ((z17 - z10)) ∧ inR ((x5 - x4)) ∧ ((x5 - x4) ≤ (z17 - z10) → inR (x5 + 1) ∧ ∀ z46 : Int, z46 = x5 + 1 → rk 0 x4 z46 J13) ∧ (¬ (x5 - x4) ≤ (z17 - z10) → inR (x5 + 1) ∧ ∀ z49 : Int, z49 = x5 + 1 → rk 1 x4 z49 J13)))) ∧ (z23 = 3 → (¬ x3 = 0 → inR (x5 + 1) ∧ ∀ z52 : Int, z52 = x5 + 1 → rk 1 x4 z52 J13) ∧ (x3 = 0 → (z10 < z17 → inR (x5 + 1) ∧ ∀ z55 : Int, z55 = x5 + 1 → rk 0 x4 z55 J13) ∧ (¬ z10 < z17 → inR (x5 + 1) ∧ ∀ z58 : Int, z58 = x5 + 1 → rk 1 x4 z58 J13)))) ∧ (z23 = 11 → (¬ x3 = 0 → inR (x5 + 1) ∧ ∀ z61 : Int, z61 = x5 + 1 → rk 1 x4 z61 J13) ∧ (x3 = 0 → (z10 = z17 → inR (x5 + 1) ∧ ∀ z64 : Int, z64 = x5 + 1 → rk 0 x4 z64 J13) ∧ (¬ z10 = z17 → inR (x5 + 1) ∧ ∀ z67 : Int, z67 = x5 + 1 → rk 1 x4 z67 J13)))) ∧ (z23 = 0 → (¬ x3 = 0 → inR (x5 + 1) ∧ ∀ z70 : Int, z70 = x5 + 1 → rk 1 x4 z70 J13) ∧ (x3 = 0 → (¬ z10 = z17 → inR (x5 + 1) ∧ ∀ z73 : Int, z73 = x5 + 1 → rk 0 x4 z73 J13) ∧ (z10 = z17 → inR (x5 + 1) ∧ ∀ z76 : Int, z76 = x5 + 1 → rk 1 x4 z76 J13)))) ∧ (z17 = 0 → inR (x5 + 1) ∧ ∀ z79 : Int, z79 = x5 + 1 → rk x3 x4 z79 J13)))))
def wX12_isPairBroken_22 (Q : Int → cI → Prop) (a1 : Int) (a2 : Nat) (K5 : Int → Int → cI → Prop) : Nat → Int → Int → Int → cI → Prop
  | 0 => fun _ _ _ _ => False
  | n + 1 => wbX12_isPairBroken_22 Q a1 a2 K5 (wX12_isPairBroken_22 Q a1 a2 K5 n)
def wbX12_isPairBroken_5 (Q : Int → cI → Prop) (a1 : Int) (a2 : Nat) (rk : Int → Int → cI → Prop) (x3 : Int) (x4 : Int) (J : cI) : Prop := (0 ≤ a1 ∧ a1 < 70) ∧ ((J 1018 a1) ≤ x4 → (x3 = 0 ∨ x3 = 1) ∧ Q x3 J) ∧ (¬ (J 1018 a1) ≤ x4 → inR ((x4 + 1)) ∧ ∀ z4 : Int, z4 = (x4 + 1) → ∃ n, wX12_isPairBroken_22 Q a1 a2 rk n x3 x4 z4 J)
def wX12_isPairBroken_5 (Q : Int → cI → Prop) (a1 : Int) (a2 : Nat) : Nat → Int → Int → cI → Prop
  | 0 => fun _ _ _ => False
  | n + 1 => wbX12_isPairBroken_5 Q a1 a2 (wX12_isPairBroken_5 Q a1 a2 n)
def wX12_isPairBroken (a1 : Int) (a2 : Nat) (J : cI) (Q : Int → cI → Prop) : Prop := ∃ n, wX12_isPairBroken_5 Q a1 a2 n 0 0 J
def wX12_isBroken_151 (Q : Int → cI → Prop) (a1 : Int) (a2 : Nat) (K121 : Int → Int → Int → Int → Int → cI → Prop) (x3 : Int) (x4 : Int) (x7 : Int) (x8 : Int) (x9 : Int) (y0 : Int) (y1 : Int) (J : cI) : Prop := inR ((y0 + y1)) ∧ ∀ z2 : Int, z2 = (y0 + y1) → (¬ x9 = 0 → inR ((x7 + x9)) ∧ ∀ z5 : Int, z5 = (x7 + x9) → inR (x8 + 1) ∧ ∀ z7 : Int, z7 = x8 + 1 → K121 x3 x4 z2 z5 z7 J) ∧ (x9 = 0 → inR ((x7 + (J 1000 13))) ∧ ∀ z11 : Int, z11 = (x7 + (J 1000 13)) → inR (x8 + 1) ∧ ∀ z13 : Int, z13 = x8 + 1 → K121 x3 x4 z2 z11 z13 J)
def wbX12_isBroken_121 (Q : Int → cI → Prop) (a1 : Int) (a2 : Nat) (rk : Int → Int → Int → Int → Int → cI → Prop) (x3 : Int) (x4 : Int) (x6 : Int) (x7 : Int) (x8 : Int) (J : cI) : Prop := (x3 ≤ x8 → (x4 < x6 → Q 1 J) ∧ (¬ x4 < x6 → (x4 ≤ x7 → Q 0 J) ∧ (¬ x4 ≤ x7 → Q 1 J))) ∧ (¬ x3 ≤ x8 → wX12_cellOf a1 x8 J (fun r1 J2 => (0 ≤ r1 ∧ r1 < 25) ∧ ∀ z6 : Int, z6 = (J2 a2 r1) → (¬ z6 = 0 → wX12_isBroken_151 Q a1 a2 rk x3 x4 x7 x8 z6 x6 z6 J2) ∧ (z6 = 0 → wX12_isBroken_151 Q a1 a2 rk x3 x4 x7 x8 z6 x6 1 J2)))
def wX12_isBroken_121 (Q : Int → cI → Prop) (a1 : Int) (a2 : Nat) : Nat → Int → Int → Int → Int → Int → cI → Prop
  | 0 => fun _ _ _ _ _ _ => False
  | n + 1 => wbX12_isBroken_121 Q a1 a2 (wX12_isBroken_121 Q a1 a2 n)
def wbX12_isBroken_205 (Q : Int → cI → Prop) (a1 : Int) (a2 : Nat) (rk : Int → Int → Int → Int → Int → cI → Prop) (x3 : Int) (x4 : Int) (x5 : Int) (x6 : Int) (x7 : Int) (J : cI) : Prop := (x3 ≤ x7 → (0 ≤ x4 ∧ 0 < x6) ∧ inR ((x4 % x6)) ∧ (¬ (x4 % x6) = 0 → Q 1 J) ∧ ((x4 % x6) = 0 → (¬ x5 = 0 → Q 0 J) ∧ (x5 = 0 → (x6 = x4 → Q 0 J) ∧ (¬ x6 = x4 → Q 1 J)))) ∧ (¬ x3 ≤ x7 → wX12_cellOf a1 x7 J (fun r3 J4 => (0 ≤ r3 ∧ r3 < 25) ∧ inR ((x6 * (imax 1 ((J4 a2 r3))))) ∧ ∀ z9 : Int, z9 = (x6 * (imax 1 ((J4 a2 r3)))) → inR (x7 + 1) ∧ ∀ z11 : Int, z11 = x7 + 1 → rk x3 x4 x5 z9 z11 J4))
def wX12_isBroken_205 (Q : Int → cI → Prop) (a1 : Int) (a2 : Nat) : Nat → Int → Int → Int → Int → Int → cI → Prop
  | 0 => fun _ _ _ _ _ _ => False
  | n + 1 => wbX12_isBroken_205 Q a1 a2 (wX12_isBroken_205 Q a1 a2 n)
def wX12_isBroken_430 (Q : Int → cI → Prop) (a1 : Int) (a2 : Nat) (K362 : Int → Int → Int → Int → cI → Prop) (x3 : Int) (x4 : Int) (x7 : Int) (y0 : Int) (y1 : Int) (J : cI) : Prop := (y0 = y1 → inR (x7 + 1) ∧ ∀ z1 : Int, z1 = x7 + 1 → K362 x3 x4 0 z1 J) ∧ (¬ y0 = y1 → inR (x7 + 1) ∧ ∀ z4 : Int, z4 = x7 + 1 → K362 x3 x4 1 z4 J)
def wbX12_isBroken_362 (Q : Int → cI → Prop) (a1 : Int) (a2 : Nat) (rk : Int → Int → Int → Int → cI → Prop) (x3 : Int) (x4 : Int) (x6 : Int) (x7 : Int) (J : cI) : Prop := (x3 ≤ x7 → (x6 = 0 ∨ x6 = 1) ∧ Q x6 J) ∧ (¬ x3 ≤ x7 → wX12_cellOf a1 x7 J (fun r2 J3 => (0 ≤ r2 ∧ r2 < 25) ∧ ∀ z7 : Int, z7 = (J3 a2 r2) → (¬ x6 = 0 → inR (x7 + 1) ∧ ∀ z9 : Int, z9 = x7 + 1 → rk x3 x4 1 z9 J3) ∧ (x6 = 0 → (z7 = 0 → inR (x7 + 1) ∧ ∀ z12 : Int, z12 = x7 + 1 → rk x3 x4 0 z12 J3) ∧ (¬ z7 = 0 → (0 ≤ a1 ∧ a1 < 70) ∧ (¬ (J3 1015 a1) = 9 → 0 ≤ z7 ∧ (0 ≤ a1 ∧ a1 < 70) ∧ (¬ (J3 1015 a1) = 6 → inR ((z7 % 2)) ∧ wX12_isBroken_430 Q a1 a2 rk x3 x4 x7 ((z7 % 2)) 0 J3) ∧ ((J3 1015 a1) = 6 → inR ((z7 % 2)) ∧ wX12_isBroken_430 Q a1 a2 rk x3 x4 x7 ((z7 % 2)) 1 J3)) ∧ ((J3 1015 a1) = 9 → (z7 = x4 → inR (x7 + 1) ∧ ∀ z20 : Int, z20 = x7 + 1 → rk x3 x4 0 z20 J3) ∧ (¬ z7 = x4 → inR (x7 + 1) ∧ ∀ z23 : Int, z23 = x7 + 1 → rk x3 x4 1 z23 J3))))))
def wX12_isBroken_362 (Q : Int → cI → Prop) (a1 : Int) (a2 : Nat) : Nat → Int → Int → Int → Int → cI → Prop
  | 0 => fun _ _ _ _ _ => False
  | n + 1 => wbX12_isBroken_362 Q a1 a2 (wX12_isBroken_362 Q a1 a2 n)
def wbX12_isBroken_289 (Q : Int → cI → Prop) (a1 : Int) (a2 : Nat) (rk : Int → Int → Int → Int → Int → cI → Prop) (x3 : Int) (x4 : Int) (x5 : Int) (x6 : Int) (x7 : Int) (J : cI) : Prop := (x3 ≤ x7 → (0 ≤ a1 ∧ a1 < 70) ∧ ((J 1017 a1) < x6 → Q 1 J) ∧ (¬ (J 1017 a1) < x6 → (0 ≤ a1 ∧ a1 < 70) ∧ inR ((x6 + x5)) ∧ ((J 1017 a1) ≤ (x6 + x5) → Q 0 J) ∧ (¬ (J 1017 a1) ≤ (x6 + x5) → Q 1 J))) ∧ (¬ x3 ≤ x7 → wX12_cellOf a1 x7 J (fun r4 J5 => (0 ≤ r4 ∧ r4 < 25) ∧ (¬ (J5 a2 r4) = x4 → inR ((x6 + 0)) ∧ ∀ z10 : Int, z10 = (x6 + 0) → inR (x7 + 1) ∧ ∀ z12 : Int, z12 = x7 + 1 → rk x3 x4 x5 z10 z12 J5) ∧ ((J5 a2 r4) = x4 → inR ((x6 + 1)) ∧ ∀ z16 : Int, z16 = (x6 + 1) → inR (x7 + 1) ∧ ∀ z18 : Int, z18 = x7 + 1 → rk x3 x4 x5 z16 z18 J5)))
def wX12_isBroken_289 (Q : Int → cI → Prop) (a1 : Int) (a2 : Nat) : Nat → Int → Int → Int → Int → Int → cI → Prop
  | 0 => fun _ _ _ _ _ _ => False
  | n + 1 => wbX12_isBroken_289 Q a1 a2 (wX12_isBroken_289 Q a1 a2 n)
def wbX12_isBroken_21 (Q : Int → cI → Prop) (a1 : Int) (a2 : Nat) (rk : Int → Int → Int → Int → cI → Prop) (x3 : Int) (x4 : Int) (x5 : Int) (x6 : Int) (J : cI) : Prop := (x3 ≤ x6 → (0 ≤ a1 ∧ a1 < 70) ∧ ((J 1015 a1) = 1 → ∃ n, wX12_isBroken_121 Q a1 a2 n x3 x4 0 0 0 J) ∧ ((J 1015 a1) = 2 → ∃ n, wX12_isBroken_205 Q a1 a2 n x3 x4 x5 1 0 J) ∧ ((J 1015 a1) = 3 → wX12_isPairBroken a1 a2 J (fun r4 J5 => (r4 = 0 ∨ r4 = 1) ∧ Q r4 J5)) ∧ ((J 1015 a1) = 4 → wX12_isPairBroken a1 a2 J (fun r9 J10 => (r9 = 0 ∨ r9 = 1) ∧ Q r9 J10)) ∧ ((J 1015 a1) = 5 → (¬ x5 = 0 → Q 0 J) ∧ (x5 = 0 → wX12_seen a1 a2 J (fun r14 J15 => (r14 = x4 → Q 0 J15) ∧ (¬ r14 = x4 → Q 1 J15)))) ∧ ((J 1015 a1) = 6 → ∃ n, wX12_isBroken_362 Q a1 a2 n x3 x4 0 0 J) ∧ ((J 1015 a1) = 7 → ∃ n, wX12_isBroken_362 Q a1 a2 n x3 x4 0 0 J) ∧ ((J 1015 a1) = 8 → ∃ n, wX12_isBroken_289 Q a1 a2 n x3 x4 x5 0 0 J) ∧ ((J 1015 a1) = 9 → ∃ n, wX12_isBroken_362 Q a1 a2 n x3 x4 0 0 J) ∧ (¬ (J 1015 a1) = 1 → ¬ (J 1015 a1) = 2 → ¬ (J 1015 a1) = 3 → ¬ (J 1015 a1) = 4 → ¬ (J 1015 a1) = 5 → ¬ (J 1015 a1) = 6 → ¬ (J 1015 a1) = 7 → ¬ (J 1015 a1) = 8 → ¬ (J 1015 a1) = 9 → wX12_isPairBroken a1 a2 J (fun r22 J23 => (r22 = 0 ∨ r22 = 1) ∧ Q r22 J23))) ∧ (¬ x3 ≤ x6 → wX12_cellOf a1 x6 J (fun r27 J28 => (0 ≤ r27 ∧ r27 < 25) ∧ (¬ (J28 a2 r27) = 0 → inR ((x5 + 0)) ∧ ∀ z33 : Int, z33 = (x5 + 0) → inR (x6 + 1) ∧ ∀ z35 : Int, z35 = x6 + 1 → rk x3 x4 z33 z35 J28) ∧ ((J28 a2 r27) = 0 → inR ((x5 + 1)) ∧ ∀ z39 : Int, z39 = (x5 + 1) → inR (x6 + 1) ∧ ∀ z41 : Int, z41 = x6 + 1 → rk x3 x4 z39 z41 J28)))
def wX12_isBroken_21 (Q : Int → cI → Prop) (a1 : Int) (a2 : Nat) : Nat → Int → Int → Int → Int → cI → Prop
  | 0 => fun _ _ _ _ _ => False
  | n + 1 => wbX12_isBroken_21 Q a1 a2 (wX12_isBroken_21 Q a1 a2 n)
def wX12_isBroken (a1 : Int) (a2 : Nat) (J : cI) (Q : Int → cI → Prop) : Prop := (0 ≤ a1 ∧ a1 < 70) ∧ ∀ z2 : Int, z2 = (J 1018 a1) → (0 ≤ a1 ∧ a1 < 70) ∧ ∀ z5 : Int, z5 = (J 1016 a1) → ∃ n, wX12_isBroken_21 Q a1 a2 n z2 z5 0 0 J
def wbX12_filled_4 (Q : Int → cI → Prop) (rk : Int → Int → cI → Prop) (x1 : Int) (x2 : Int) (J : cI) : Prop := wX12_cells J (fun r1 J2 => (r1 ≤ x2 → Q x1 J2) ∧ (¬ r1 ≤ x2 → (0 ≤ x2 ∧ x2 < 25) ∧ ((J2 1020 x2) ≤ 0 → inR ((x1 + 0)) ∧ ∀ z7 : Int, z7 = (x1 + 0) → inR (x2 + 1) ∧ ∀ z9 : Int, z9 = x2 + 1 → rk z7 z9 J2) ∧ (¬ (J2 1020 x2) ≤ 0 → inR ((x1 + 1)) ∧ ∀ z13 : Int, z13 = (x1 + 1) → inR (x2 + 1) ∧ ∀ z15 : Int, z15 = x2 + 1 → rk z13 z15 J2)))
def wX12_filled_4 (Q : Int → cI → Prop) : Nat → Int → Int → cI → Prop
  | 0 => fun _ _ _ => False
  | n + 1 => wbX12_filled_4 Q (wX12_filled_4 Q n)
def wX12_filled (J : cI) (Q : Int → cI → Prop) : Prop := ∃ n, wX12_filled_4 Q n 0 0 J
def wbX12_broken_4 (Q : Int → cI → Prop) (rk : Int → Int → cI → Prop) (x1 : Int) (x2 : Int) (J : cI) : Prop := ((J 1000 14) ≤ x2 → Q x1 J) ∧ (¬ (J 1000 14) ≤ x2 → wX12_isBroken x2 1020 J (fun r1 J2 => (r1 = 0 → inR ((x1 + 0)) ∧ ∀ z6 : Int, z6 = (x1 + 0) → inR (x2 + 1) ∧ ∀ z8 : Int, z8 = x2 + 1 → rk z6 z8 J2) ∧ (¬ r1 = 0 → inR ((x1 + 1)) ∧ ∀ z12 : Int, z12 = (x1 + 1) → inR (x2 + 1) ∧ ∀ z14 : Int, z14 = x2 + 1 → rk z12 z14 J2)))
def wX12_broken_4 (Q : Int → cI → Prop) : Nat → Int → Int → cI → Prop
  | 0 => fun _ _ _ => False
  | n + 1 => wbX12_broken_4 Q (wX12_broken_4 Q n)
def wX12_broken (J : cI) (Q : Int → cI → Prop) : Prop := ∃ n, wX12_broken_4 Q n 0 0 J
def wbX12_rulesIs_4 (Q : Int → cI → Prop) (rk : Int → Int → cI → Prop) (x1 : Int) (x2 : Int) (J : cI) : Prop := ((J 1000 14) ≤ x2 → Q x1 J) ∧ (¬ (J 1000 14) ≤ x2 → (0 ≤ x2 ∧ x2 < 70) ∧ (¬ (J 1015 x2) = 9 → inR ((x1 + 0)) ∧ ∀ z3 : Int, z3 = (x1 + 0) → inR (x2 + 1) ∧ ∀ z5 : Int, z5 = x2 + 1 → rk z3 z5 J) ∧ ((J 1015 x2) = 9 → inR ((x1 + 1)) ∧ ∀ z9 : Int, z9 = (x1 + 1) → inR (x2 + 1) ∧ ∀ z11 : Int, z11 = x2 + 1 → rk z9 z11 J))
def wX12_rulesIs_4 (Q : Int → cI → Prop) : Nat → Int → Int → cI → Prop
  | 0 => fun _ _ _ => False
  | n + 1 => wbX12_rulesIs_4 Q (wX12_rulesIs_4 Q n)
def wX12_rulesIs (J : cI) (Q : Int → cI → Prop) : Prop := ∃ n, wX12_rulesIs_4 Q n 0 0 J
def wX12_counted (a1 : Int) (J : cI) (Q : Int → cI → Prop) : Prop := ∀ f2 : Int → Int, f2 = (fun _ => 0) → ∀ f4 : Int → Int, f4 = upF f2 0 ((J 1000 11)) → ∀ f6 : Int → Int, f6 = upF f4 1 ((J 1000 12)) → ∀ f8 : Int → Int, f8 = upF f6 2 ((J 1000 13)) → ∀ f10 : Int → Int, f10 = upF f8 3 ((J 1000 14)) → wX12_rulesIs J (fun r12 J13 => ∀ f16 : Int → Int, f16 = upF f10 4 r12 → wX12_filled J13 (fun r18 J19 => ∀ f22 : Int → Int, f22 = upF f16 5 r18 → wX12_broken J19 (fun r24 J25 => ∀ f28 : Int → Int, f28 = upF f22 6 r24 → ∀ f30 : Int → Int, f30 = upF f28 7 ((J25 1000 28)) → ∀ f32 : Int → Int, f32 = upF f30 8 ((J25 1000 27)) → ∀ f34 : Int → Int, f34 = upF f32 9 ((J25 1000 2)) → ∀ f36 : Int → Int, f36 = upF f34 10 ((J25 1000 10)) → (0 ≤ a1 ∧ a1 < 11) ∧ Q ((f36 a1)) J25)))
def wX12_count (a1 : Int) (J : cI) (Q : Int → cI → Prop) : Prop := ∀ J1 : cI, J1 = up2 J 1000 0 0 → wX12_isIn a1 0 10 J1 (fun r4 J5 => (r4 = 0 → wX12_no 1 J5 (fun r8 J9 => Q r8 J9)) ∧ (¬ r4 = 0 → wX12_counted a1 J5 (fun r12 J13 => Q r12 J13)))
def wX12_ruleTold (a1 : Int) (a2 : Int) (J : cI) (Q : Int → cI → Prop) : Prop := (4 ≤ a2 → (9 ≤ a2 → wX12_isBroken a1 1020 J (fun r1 J2 => (r1 = 0 → Q 0 J2) ∧ (¬ r1 = 0 → Q 1 J2))) ∧ (¬ 9 ≤ a2 → (0 ≤ a1 ∧ a1 < 70) ∧ inR ((a2 - 4)) ∧ ((J 1018 a1) ≤ (a2 - 4) → Q (-1) J) ∧ (¬ (J 1018 a1) ≤ (a2 - 4) → inR ((a2 - 4)) ∧ wX12_cellOf a1 ((a2 - 4)) J (fun r8 J9 => Q r8 J9)))) ∧ (¬ 4 ≤ a2 → (¬ a2 = 0 → (¬ a2 = 1 → (¬ a2 = 2 → (0 ≤ a1 ∧ a1 < 70) ∧ Q ((J 1018 a1)) J) ∧ (a2 = 2 → (0 ≤ a1 ∧ a1 < 70) ∧ Q ((J 1017 a1)) J)) ∧ (a2 = 1 → (0 ≤ a1 ∧ a1 < 70) ∧ Q ((J 1016 a1)) J)) ∧ (a2 = 0 → (0 ≤ a1 ∧ a1 < 70) ∧ Q ((J 1015 a1)) J))
def wX12_rule_32 (Q : Int → cI → Prop) (a1 : Int) (a2 : Int) (J : cI) : Prop := wX12_no 1 J (fun r1 J2 => Q r1 J2)
def wX12_rule (a1 : Int) (a2 : Int) (J : cI) (Q : Int → cI → Prop) : Prop := ∀ J1 : cI, J1 = up2 J 1000 0 0 → wX12_isRule a1 J1 (fun r4 J5 => (r4 = 0 → wX12_rule_32 Q a1 a2 J5) ∧ (¬ r4 = 0 → wX12_isIn a2 0 9 J5 (fun r8 J9 => (r8 = 0 → wX12_rule_32 Q a1 a2 J9) ∧ (¬ r8 = 0 → wX12_ruleTold a1 a2 J9 (fun r12 J13 => Q r12 J13)))))
def wbX12_dropRule_2 (Q : cI → Prop) (a1 : Int) (rk : Int → cI → Prop) (x2 : Int) (J : cI) : Prop := inR ((x2 + 1)) ∧ ((J 1000 14) ≤ (x2 + 1) → inR (((J 1000 14) - 1)) ∧ ∀ J3 : cI, J3 = up2 J 1000 14 (((J 1000 14) - 1)) → Q J3) ∧ (¬ (J 1000 14) ≤ (x2 + 1) → inR ((x2 + 1)) ∧ wX12_moveRule ((x2 + 1)) x2 J (fun J8 => inR (x2 + 1) ∧ ∀ z11 : Int, z11 = x2 + 1 → rk z11 J8))
def wX12_dropRule_2 (Q : cI → Prop) (a1 : Int) : Nat → Int → cI → Prop
  | 0 => fun _ _ => False
  | n + 1 => wbX12_dropRule_2 Q a1 (wX12_dropRule_2 Q a1 n)
def wX12_dropRule (a1 : Int) (J : cI) (Q : cI → Prop) : Prop := ∃ n, wX12_dropRule_2 Q a1 n a1 J
def wX12_drop (a1 : Int) (J : cI) (Q : Int → cI → Prop) : Prop := ∀ J1 : cI, J1 = up2 J 1000 0 0 → wX12_isRule a1 J1 (fun r4 J5 => (¬ r4 = 0 → wX12_dropRule a1 J5 (fun J9 => Q ((J9 1000 14)) J9)) ∧ (r4 = 0 → wX12_no 1 J5 (fun r12 J13 => Q r12 J13)))
def wX12_put (a1 : Int) (J : cI) (Q : cI → Prop) : Prop := (0 ≤ (J 1000 10) ∧ (J 1000 10) < 4000) ∧ ∀ J2 : cI, J2 = up2 J 1009 ((J 1000 10)) a1 → inR (((J2 1000 10) + 1)) ∧ ∀ J6 : cI, J6 = up2 J2 1000 10 (((J2 1000 10) + 1)) → Q J6
def wbX12_put__2 (Q : cI → Prop) (a1 : Nat) (rk : Int → cI → Prop) (x2 : Int) (J : cI) : Prop := ((txN a1) ≤ x2 → Q J) ∧ (¬ (txN a1) ≤ x2 → (0 ≤ x2 ∧ x2 < txN a1) ∧ wX12_put ((txC a1 x2)) J (fun J3 => inR (x2 + 1) ∧ ∀ z6 : Int, z6 = x2 + 1 → rk z6 J3))
def wX12_put__2 (Q : cI → Prop) (a1 : Nat) : Nat → Int → cI → Prop
  | 0 => fun _ _ => False
  | n + 1 => wbX12_put__2 Q a1 (wX12_put__2 Q a1 n)
def wX12_put_ (a1 : Nat) (J : cI) (Q : cI → Prop) : Prop := ∃ n, wX12_put__2 Q a1 n 0 J
def wX12_putNumber_14 (rc : Int → cI → (cI → Prop) → Prop) (Q : cI → Prop) (a1 : Int) (J : cI) : Prop := 0 ≤ a1 ∧ inR ((48 + (a1 % 10))) ∧ wX12_put ((48 + (a1 % 10))) J (fun J4 => Q J4)
def wbX12_putNumber (rc : Int → cI → (cI → Prop) → Prop) (a1 : Int) (J : cI) (Q : cI → Prop) : Prop := (a1 ≤ 9 → wX12_putNumber_14 rc Q a1 J) ∧ (¬ a1 ≤ 9 → 0 ≤ a1 ∧ inR ((a1 / 10)) ∧ rc ((a1 / 10)) J (fun J4 => wX12_putNumber_14 rc Q a1 J4))
def wX12_putNumber : Nat → Int → cI → (cI → Prop) → Prop
  | 0 => fun _ _ _ => False
  | d + 1 => wbX12_putNumber (wX12_putNumber d)
def wX12_putNext (a1 : Int) (J : cI) (Q : cI → Prop) : Prop := wX12_put 32 J (fun J2 => wX12_putNumber 5 a1 J2 (fun J6 => Q J6))
def wX12_write_198 (Q : Int → cI → Prop) (K61 : Int → cI → Prop) (x1 : Int) (J : cI) : Prop := wX12_put 59 J (fun J2 => inR (x1 + 1) ∧ ∀ z5 : Int, z5 = x1 + 1 → K61 z5 J2)
def wbX12_write_124 (Q : Int → cI → Prop) (K61 : Int → cI → Prop) (rk : Int → Int → Int → cI → Prop) (x1 : Int) (x2 : Int) (x3 : Int) (J : cI) : Prop := (0 ≤ x1 ∧ x1 < 70) ∧ ((J 1018 x1) ≤ x3 → (¬ x2 = 9 → wX12_write_198 Q K61 x1 J) ∧ (x2 = 9 → (0 ≤ x1 ∧ x1 < 70) ∧ wX12_putNext ((J 1016 x1)) J (fun J4 => wX12_write_198 Q K61 x1 J4))) ∧ (¬ (J 1018 x1) ≤ x3 → wX12_put 32 J (fun J8 => wX12_cellOf x1 x3 J8 (fun r11 J12 => (0 ≤ r11 ∧ 0 < (J12 1000 11)) ∧ inR ((97 + (r11 % (J12 1000 11)))) ∧ wX12_put ((97 + (r11 % (J12 1000 11)))) J12 (fun J18 => wX12_cellOf x1 x3 J18 (fun r21 J22 => (0 ≤ r21 ∧ 0 < (J22 1000 11)) ∧ inR ((49 + (r21 / (J22 1000 11)))) ∧ wX12_put ((49 + (r21 / (J22 1000 11)))) J22 (fun J28 => inR (x3 + 1) ∧ ∀ z31 : Int, z31 = x3 + 1 → rk x1 x2 z31 J28))))))
def wX12_write_124 (Q : Int → cI → Prop) (K61 : Int → cI → Prop) : Nat → Int → Int → Int → cI → Prop
  | 0 => fun _ _ _ _ => False
  | n + 1 => wbX12_write_124 Q K61 (wX12_write_124 Q K61 n)
def wX12_write_122 (Q : Int → cI → Prop) (K61 : Int → cI → Prop) (x1 : Int) (x2 : Int) (J : cI) : Prop := ∃ n, wX12_write_124 Q K61 n x1 x2 0 J
def wX12_write_103 (Q : Int → cI → Prop) (K61 : Int → cI → Prop) (x1 : Int) (x2 : Int) (J : cI) : Prop := (0 ≤ x2 ∧ x2 < 14) ∧ ((nuT x2) ≤ 1 → wX12_write_122 Q K61 x1 x2 J) ∧ (¬ (nuT x2) ≤ 1 → (0 ≤ x1 ∧ x1 < 70) ∧ wX12_putNext ((J 1017 x1)) J (fun J4 => wX12_write_122 Q K61 x1 x2 J4))
def wbX12_write_61 (Q : Int → cI → Prop) (rk : Int → cI → Prop) (x1 : Int) (J : cI) : Prop := ((J 1000 14) ≤ x1 → Q ((J 1000 10)) J) ∧ (¬ (J 1000 14) ≤ x1 → (0 ≤ x1 ∧ x1 < 70) ∧ ∀ z2 : Int, z2 = (J 1015 x1) → (0 ≤ z2 ∧ z2 < 14) ∧ wX12_put_ (Int.toNat (z2)) J (fun J6 => (0 ≤ z2 ∧ z2 < 14) ∧ ((nuT z2) ≤ 0 → wX12_write_103 Q rk x1 z2 J6) ∧ (¬ (nuT z2) ≤ 0 → (0 ≤ x1 ∧ x1 < 70) ∧ wX12_putNext ((J6 1016 x1)) J6 (fun J12 => wX12_write_103 Q rk x1 z2 J12))))
def wX12_write_61 (Q : Int → cI → Prop) : Nat → Int → cI → Prop
  | 0 => fun _ _ => False
  | n + 1 => wbX12_write_61 Q (wX12_write_61 Q n)
def wX12_write (J : cI) (Q : Int → cI → Prop) : Prop := ∀ J1 : cI, J1 = up2 J 1000 0 0 → (¬ (J1 1000 11) = 0 → ∀ J4 : cI, J4 = up2 J1 1000 10 0 → wX12_put_ 14 J4 (fun J8 => wX12_putNext ((J8 1000 11)) J8 (fun J12 => wX12_putNext ((J12 1000 12)) J12 (fun J16 => wX12_putNext ((J16 1000 13)) J16 (fun J20 => wX12_put 59 J20 (fun J24 => ∃ n, wX12_write_61 Q n 0 J24)))))) ∧ ((J1 1000 11) = 0 → wX12_no 1 J1 (fun r28 J29 => Q r28 J29))
def wX12_byteAt (a1 : Int) (J : cI) (Q : Int → cI → Prop) : Prop := ∀ J1 : cI, J1 = up2 J 1000 0 0 → inR (((J1 1000 10) - 1)) ∧ wX12_isIn a1 0 (((J1 1000 10) - 1)) J1 (fun r5 J6 => (r5 = 0 → wX12_no 1 J6 (fun r9 J10 => Q r9 J10)) ∧ (¬ r5 = 0 → (0 ≤ a1 ∧ a1 < 4000) ∧ Q ((J6 1009 a1)) J6))
def wX12_put__ (a1 : Int) (a2 : Int) (J : cI) (Q : Int → cI → Prop) : Prop := ∀ J1 : cI, J1 = up2 J 1000 0 0 → wX12_isCell a1 J1 (fun r4 J5 => (¬ r4 = 0 → wX12_isIn a2 0 ((J5 1000 13)) J5 (fun r8 J9 => (¬ r8 = 0 → (0 ≤ a1 ∧ a1 < 25) ∧ ∀ z13 : Int, z13 = (J9 1020 a1) → (0 ≤ a1 ∧ a1 < 25) ∧ ∀ J16 : cI, J16 = up2 J9 1020 a1 a2 → Q z13 J16) ∧ (r8 = 0 → wX12_no 2 J9 (fun r19 J20 => Q r19 J20)))) ∧ (r4 = 0 → wX12_no 1 J5 (fun r23 J24 => Q r23 J24)))
def wX12_value (a1 : Int) (J : cI) (Q : Int → cI → Prop) : Prop := ∀ J1 : cI, J1 = up2 J 1000 0 0 → wX12_isCell a1 J1 (fun r4 J5 => (r4 = 0 → wX12_no 1 J5 (fun r8 J9 => Q r8 J9)) ∧ (¬ r4 = 0 → (0 ≤ a1 ∧ a1 < 25) ∧ Q ((J5 1020 a1)) J5))
def wbX12_clear_12 (Q : Int → cI → Prop) (rk : Int → Int → cI → Prop) (x1 : Int) (x2 : Int) (J : cI) : Prop := (25 ≤ x2 → Q x1 J) ∧ (¬ 25 ≤ x2 → (0 ≤ x2 ∧ x2 < 25) ∧ ∀ J2 : cI, J2 = up2 J 1020 x2 0 → inR (x2 + 1) ∧ ∀ z5 : Int, z5 = x2 + 1 → rk x1 z5 J2)
def wX12_clear_12 (Q : Int → cI → Prop) : Nat → Int → Int → cI → Prop
  | 0 => fun _ _ _ => False
  | n + 1 => wbX12_clear_12 Q (wX12_clear_12 Q n)
def wX12_clear (J : cI) (Q : Int → cI → Prop) : Prop := ∀ J1 : cI, J1 = up2 J 1000 0 0 → wX12_filled J1 (fun r4 J5 => ∃ n, wX12_clear_12 Q n r4 0 J5)
def wbX12_hasCell_5 (Q : Int → cI → Prop) (a1 : Int) (a2 : Int) (rk : Int → Int → cI → Prop) (x3 : Int) (x4 : Int) (J : cI) : Prop := (0 ≤ a1 ∧ a1 < 70) ∧ ((J 1018 a1) ≤ x4 → (x3 = 0 ∨ x3 = 1) ∧ Q x3 J) ∧ (¬ (J 1018 a1) ≤ x4 → (¬ x3 = 0 → inR (x4 + 1) ∧ ∀ z3 : Int, z3 = x4 + 1 → rk 1 z3 J) ∧ (x3 = 0 → wX12_cellOf a1 x4 J (fun r6 J7 => (¬ r6 = a2 → inR (x4 + 1) ∧ ∀ z10 : Int, z10 = x4 + 1 → rk 0 z10 J7) ∧ (r6 = a2 → inR (x4 + 1) ∧ ∀ z13 : Int, z13 = x4 + 1 → rk 1 z13 J7))))
def wX12_hasCell_5 (Q : Int → cI → Prop) (a1 : Int) (a2 : Int) : Nat → Int → Int → cI → Prop
  | 0 => fun _ _ _ => False
  | n + 1 => wbX12_hasCell_5 Q a1 a2 (wX12_hasCell_5 Q a1 a2 n)
def wX12_hasCell (a1 : Int) (a2 : Int) (J : cI) (Q : Int → cI → Prop) : Prop := ∃ n, wX12_hasCell_5 Q a1 a2 n 0 0 J
def wbX12_isAmiss_2 (Q : Int → cI → Prop) (a1 : Int) (a2 : Int) (rk : Int → cI → Prop) (x3 : Int) (J : cI) : Prop := ((J 1000 14) ≤ x3 → Q 0 J) ∧ (¬ (J 1000 14) ≤ x3 → (x3 = a2 → inR (x3 + 1) ∧ ∀ z1 : Int, z1 = x3 + 1 → rk z1 J) ∧ (¬ x3 = a2 → wX12_hasCell x3 a1 J (fun r4 J5 => (r4 = 0 → inR (x3 + 1) ∧ ∀ z8 : Int, z8 = x3 + 1 → rk z8 J5) ∧ (¬ r4 = 0 → wX12_isBroken x3 1021 J5 (fun r11 J12 => (r11 = 0 → inR (x3 + 1) ∧ ∀ z15 : Int, z15 = x3 + 1 → rk z15 J12) ∧ (¬ r11 = 0 → Q 1 J12))))))
def wX12_isAmiss_2 (Q : Int → cI → Prop) (a1 : Int) (a2 : Int) : Nat → Int → cI → Prop
  | 0 => fun _ _ => False
  | n + 1 => wbX12_isAmiss_2 Q a1 a2 (wX12_isAmiss_2 Q a1 a2 n)
def wX12_isAmiss (a1 : Int) (a2 : Int) (J : cI) (Q : Int → cI → Prop) : Prop := ∃ n, wX12_isAmiss_2 Q a1 a2 n 0 J
def wbX12_look_232 (Q : Int → cI → Prop) (a1 : Int) (a2 : Int) (K69 : Int → Int → (Int → Int) → cI → Prop) (rk : Int → Int → Int → (Int → Int) → cI → Prop) (x3 : Int) (x5 : Int) (x6 : Int) (f0 : Int → Int) (J : cI) : Prop := (x3 ≤ x6 → inR (((J 1000 25) + 1)) ∧ ∀ J2 : cI, J2 = up2 J 1000 25 (((J 1000 25) + 1)) → (¬ (J2 1000 25) = a1 → K69 x3 x5 f0 J2) ∧ ((J2 1000 25) = a1 → Q ((J2 1000 25)) J2)) ∧ (¬ x3 ≤ x6 → (0 ≤ x6 ∧ x6 < 25) ∧ (0 ≤ ((25 * (J 1000 25)) + x6) ∧ ((25 * (J 1000 25)) + x6) < 750) ∧ ∀ J7 : cI, J7 = up2 J 1026 (((25 * (J 1000 25)) + x6)) ((J 1021 x6)) → inR (x6 + 1) ∧ ∀ z10 : Int, z10 = x6 + 1 → rk x3 x5 z10 f0 J7)
def wX12_look_232 (Q : Int → cI → Prop) (a1 : Int) (a2 : Int) (K69 : Int → Int → (Int → Int) → cI → Prop) : Nat → Int → Int → Int → (Int → Int) → cI → Prop
  | 0 => fun _ _ _ _ _ => False
  | n + 1 => wbX12_look_232 Q a1 a2 K69 (wX12_look_232 Q a1 a2 K69 n)
def wX12_look_169 (Q : Int → cI → Prop) (a1 : Int) (a2 : Int) (K69 : Int → Int → (Int → Int) → cI → Prop) (x3 : Int) (x5 : Int) (y1 : Int) (y2 : Int) (f0 : Int → Int) (J : cI) : Prop := (0 ≤ y1 ∧ y1 < 25) ∧ ∀ J2 : cI, J2 = up2 J 1021 y1 y2 → (0 ≤ x5 ∧ x5 < 25) ∧ inR (((f0 x5) - 1)) ∧ (0 ≤ x5 ∧ x5 < 25) ∧ ∀ f8 : Int → Int, f8 = upF f0 x5 (((f0 x5) - 1)) → wX12_isAmiss x5 a2 J2 (fun r10 J11 => (r10 = 0 → inR ((x5 + 1)) ∧ (x3 ≤ (x5 + 1) → ∃ n, wX12_look_232 Q a1 a2 K69 n x3 x5 0 f8 J11) ∧ (¬ x3 ≤ (x5 + 1) → inR (x5 + 1) ∧ ∀ z16 : Int, z16 = x5 + 1 → (0 ≤ z16 ∧ z16 < 25) ∧ ((J11 1023 z16) ≤ 0 → (0 ≤ z16 ∧ z16 < 25) ∧ ∀ f21 : Int → Int, f21 = upF f8 z16 ((J11 1000 13)) → K69 x3 z16 f21 J11) ∧ (¬ (J11 1023 z16) ≤ 0 → (0 ≤ z16 ∧ z16 < 25) ∧ ∀ f24 : Int → Int, f24 = upF f8 z16 1 → K69 x3 z16 f24 J11))) ∧ (¬ r10 = 0 → K69 x3 x5 f8 J11))
def wbX12_look_69 (Q : Int → cI → Prop) (a1 : Int) (a2 : Int) (rk : Int → Int → (Int → Int) → cI → Prop) (x3 : Int) (x5 : Int) (f0 : Int → Int) (J : cI) : Prop := (x5 < 0 → Q ((J 1000 25)) J) ∧ (¬ x5 < 0 → (0 ≤ x5 ∧ x5 < 25) ∧ (¬ (f0 x5) = 0 → (¬ (J 1000 24) = 5000 → inR (((J 1000 24) + 1)) ∧ ∀ J3 : cI, J3 = up2 J 1000 24 (((J 1000 24) + 1)) → (0 ≤ x5 ∧ x5 < 25) ∧ ((J3 1023 x5) ≤ 0 → (0 ≤ x5 ∧ x5 < 25) ∧ (0 ≤ x5 ∧ x5 < 25) ∧ inR ((((J3 1022 x5) + (J3 1000 13)) - (f0 x5))) ∧ (0 ≤ (((J3 1022 x5) + (J3 1000 13)) - (f0 x5)) ∧ 0 < (J3 1000 13)) ∧ inR ((((((J3 1022 x5) + (J3 1000 13)) - (f0 x5)) % (J3 1000 13)) + 1)) ∧ wX12_look_169 Q a1 a2 rk x3 x5 x5 ((((((J3 1022 x5) + (J3 1000 13)) - (f0 x5)) % (J3 1000 13)) + 1)) f0 J3) ∧ (¬ (J3 1023 x5) ≤ 0 → (0 ≤ x5 ∧ x5 < 25) ∧ wX12_look_169 Q a1 a2 rk x3 x5 x5 ((J3 1023 x5)) f0 J3)) ∧ ((J 1000 24) = 5000 → Q (-1) J)) ∧ ((f0 x5) = 0 → (0 ≤ x5 ∧ x5 < 25) ∧ ∀ J14 : cI, J14 = up2 J 1021 x5 0 → inR (x5 + (-1)) ∧ ∀ z17 : Int, z17 = x5 + (-1) → rk x3 z17 f0 J14))
def wX12_look_69 (Q : Int → cI → Prop) (a1 : Int) (a2 : Int) : Nat → Int → Int → (Int → Int) → cI → Prop
  | 0 => fun _ _ _ _ => False
  | n + 1 => wbX12_look_69 Q a1 a2 (wX12_look_69 Q a1 a2 n)
def wX12_look_68 (Q : Int → cI → Prop) (a1 : Int) (a2 : Int) (x3 : Int) (x5 : Int) (y1 : Int) (y2 : Int) (f0 : Int → Int) (J : cI) : Prop := (0 ≤ y1 ∧ y1 < 25) ∧ ∀ f2 : Int → Int, f2 = upF f0 y1 y2 → ∃ n, wX12_look_69 Q a1 a2 n x3 x5 f2 J
def wbX12_look_14 (Q : Int → cI → Prop) (a1 : Int) (a2 : Int) (rk : Int → Int → (Int → Int) → cI → Prop) (x3 : Int) (x5 : Int) (f0 : Int → Int) (J : cI) : Prop := (25 ≤ x5 → ∀ J1 : cI, J1 = up2 J 1000 24 0 → ∀ J4 : cI, J4 = up2 J1 1000 25 0 → ((J4 1023 0) ≤ 0 → wX12_look_68 Q a1 a2 x3 0 0 ((J4 1000 13)) f0 J4) ∧ (¬ (J4 1023 0) ≤ 0 → wX12_look_68 Q a1 a2 x3 0 0 1 f0 J4)) ∧ (¬ 25 ≤ x5 → (0 ≤ x5 ∧ x5 < 25) ∧ ∀ J8 : cI, J8 = up2 J 1021 x5 0 → inR (x5 + 1) ∧ ∀ z11 : Int, z11 = x5 + 1 → rk x3 z11 f0 J8)
def wX12_look_14 (Q : Int → cI → Prop) (a1 : Int) (a2 : Int) : Nat → Int → Int → (Int → Int) → cI → Prop
  | 0 => fun _ _ _ _ => False
  | n + 1 => wbX12_look_14 Q a1 a2 (wX12_look_14 Q a1 a2 n)
def wX12_look (a1 : Int) (a2 : Int) (J : cI) (Q : Int → cI → Prop) : Prop := wX12_cells J (fun r1 J2 => ∀ f6 : Int → Int, f6 = (fun _ => 0) → ∃ n, wX12_look_14 Q a1 a2 n r1 0 f6 J2)
def wbX12_prepare_2 (Q : cI → Prop) (a1 : Int) (rk : Int → cI → Prop) (x2 : Int) (J : cI) : Prop := (25 ≤ x2 → Q J) ∧ (¬ 25 ≤ x2 → (0 ≤ x2 ∧ x2 < 25) ∧ ∀ J2 : cI, J2 = up2 J 1022 x2 0 → (a1 = 0 → (0 ≤ x2 ∧ x2 < 25) ∧ ∀ J6 : cI, J6 = up2 J2 1023 x2 0 → inR (x2 + 1) ∧ ∀ z9 : Int, z9 = x2 + 1 → rk z9 J6) ∧ (¬ a1 = 0 → (0 ≤ x2 ∧ x2 < 25) ∧ (0 ≤ x2 ∧ x2 < 25) ∧ ∀ J14 : cI, J14 = up2 J2 1023 x2 ((J2 1020 x2)) → inR (x2 + 1) ∧ ∀ z17 : Int, z17 = x2 + 1 → rk z17 J14))
def wX12_prepare_2 (Q : cI → Prop) (a1 : Int) : Nat → Int → cI → Prop
  | 0 => fun _ _ => False
  | n + 1 => wbX12_prepare_2 Q a1 (wX12_prepare_2 Q a1 n)
def wX12_prepare (a1 : Int) (J : cI) (Q : cI → Prop) : Prop := ∃ n, wX12_prepare_2 Q a1 n 0 J
def wbX12_search_65 (Q : Int → cI → Prop) (a1 : Int) (rk : Int → Int → cI → Prop) (x2 : Int) (x3 : Int) (J : cI) : Prop := inR (((J 1000 28) * 25)) ∧ (((J 1000 28) * 25) ≤ x3 → Q x2 J) ∧ (¬ ((J 1000 28) * 25) ≤ x3 → (0 ≤ x3 ∧ x3 < 750) ∧ (0 ≤ x3 ∧ x3 < 750) ∧ ∀ J4 : cI, J4 = up2 J 1029 x3 ((J 1026 x3)) → inR (x3 + 1) ∧ ∀ z7 : Int, z7 = x3 + 1 → rk x2 z7 J4)
def wX12_search_65 (Q : Int → cI → Prop) (a1 : Int) : Nat → Int → Int → cI → Prop
  | 0 => fun _ _ _ => False
  | n + 1 => wbX12_search_65 Q a1 (wX12_search_65 Q a1 n)
def wX12_search (a1 : Int) (J : cI) (Q : Int → cI → Prop) : Prop := ∀ J1 : cI, J1 = up2 J 1000 0 0 → wX12_isIn a1 1 30 J1 (fun r4 J5 => (¬ r4 = 0 → (¬ (J5 1000 11) = 0 → wX12_prepare 1 J5 (fun J9 => wX12_look a1 (-1) J9 (fun r12 J13 => ∀ J16 : cI, J16 = up2 J13 1000 27 ((J13 1000 24)) → ∀ J19 : cI, J19 = up2 J16 1000 28 ((imax 0 r12)) → ∃ n, wX12_search_65 Q a1 n r12 0 J19))) ∧ ((J5 1000 11) = 0 → wX12_no 2 J5 (fun r23 J24 => Q r23 J24))) ∧ (r4 = 0 → wX12_no 1 J5 (fun r27 J28 => Q r27 J28)))
def wX12_solution_41 (Q : Int → cI → Prop) (a1 : Int) (a2 : Int) (J : cI) : Prop := wX12_no 1 J (fun r1 J2 => Q r1 J2)
def wX12_solution (a1 : Int) (a2 : Int) (J : cI) (Q : Int → cI → Prop) : Prop := ∀ J1 : cI, J1 = up2 J 1000 0 0 → inR (((J1 1000 28) - 1)) ∧ wX12_isIn a1 0 (((J1 1000 28) - 1)) J1 (fun r5 J6 => (r5 = 0 → wX12_solution_41 Q a1 a2 J6) ∧ (¬ r5 = 0 → wX12_isCell a2 J6 (fun r9 J10 => (r9 = 0 → wX12_solution_41 Q a1 a2 J10) ∧ (¬ r9 = 0 → (0 ≤ ((25 * a1) + a2) ∧ ((25 * a1) + a2) < 750) ∧ Q ((J10 1029 (((25 * a1) + a2)))) J10))))
def wX12_isNeeded_14 (Q : Int → cI → Prop) (a1 : Int) (y1 : Int) (J : cI) : Prop := ∀ J1 : cI, J1 = up2 J 1000 0 y1 → ((J1 1000 0) = 0 → wX12_prepare 0 J1 (fun J5 => wX12_look 2 (-1) J5 (fun r8 J9 => (¬ r8 = 1 → Q 1 J9) ∧ (r8 = 1 → wX12_look 2 a1 J9 (fun r12 J13 => (r12 = 1 → Q 0 J13) ∧ (¬ r12 = 1 → Q 1 J13)))))) ∧ (¬ (J1 1000 0) = 0 → Q 0 J1)
def wX12_isNeeded (a1 : Int) (J : cI) (Q : Int → cI → Prop) : Prop := wX12_isRule a1 J (fun r1 J2 => (r1 = 0 → wX12_isNeeded_14 Q a1 1 J2) ∧ (¬ r1 = 0 → wX12_isNeeded_14 Q a1 0 J2))
def wX12_look_ (J : cI) (Q : Int → cI → Prop) : Prop := ∀ J1 : cI, J1 = up2 J 1000 0 0 → wX12_lookAnew J1 (fun r4 J5 => Q r4 J5)
def wX12_possible (a1 : Int) (J : cI) (Q : Int → cI → Prop) : Prop := ∀ J1 : cI, J1 = up2 J 1000 0 0 → wX12_isCell a1 J1 (fun r4 J5 => (r4 = 0 → wX12_no 1 J5 (fun r8 J9 => Q r8 J9)) ∧ (¬ r4 = 0 → (0 ≤ a1 ∧ a1 < 25) ∧ Q ((J5 1030 a1)) J5))
def wX12_canFill_115 (rc : Int → Int → Int → cI → (Int → cI → Prop) → Prop) (Q : Int → cI → Prop) (a1 : Int) (a2 : Int) (a3 : Int) (x4 : Int) (x5 : Int) (J : cI) : Prop := (0 ≤ x4 ∧ x4 < 25) ∧ ∀ J2 : cI, J2 = up2 J 1021 x4 0 → (x5 = 0 ∨ x5 = 1) ∧ Q x5 J2
def wbX12_canFill_55 (rc : Int → Int → Int → cI → (Int → cI → Prop) → Prop) (Q : Int → cI → Prop) (a1 : Int) (a2 : Int) (a3 : Int) (rk : Int → Int → Int → cI → Prop) (x4 : Int) (x5 : Int) (x6 : Int) (J : cI) : Prop := ((J 1000 13) < x6 → wX12_canFill_115 rc Q a1 a2 a3 x4 x5 J) ∧ (¬ (J 1000 13) < x6 → (¬ x5 = 0 → wX12_canFill_115 rc Q a1 a2 a3 x4 x5 J) ∧ (x5 = 0 → (0 ≤ x4 ∧ x4 < 25) ∧ (¬ (iAnd ((iShr ((J 1030 x4)) ((x6 - 1)))) 1) = 0 → (0 ≤ x4 ∧ x4 < 25) ∧ ∀ J3 : cI, J3 = up2 J 1021 x4 x6 → inR ((a2 + 1)) ∧ rc a1 ((a2 + 1)) a3 J3 (fun r7 J8 => inR (x6 + 1) ∧ ∀ z11 : Int, z11 = x6 + 1 → rk x4 r7 z11 J8)) ∧ ((iAnd ((iShr ((J 1030 x4)) ((x6 - 1)))) 1) = 0 → inR (x6 + 1) ∧ ∀ z14 : Int, z14 = x6 + 1 → rk x4 x5 z14 J)))
def wX12_canFill_55 (rc : Int → Int → Int → cI → (Int → cI → Prop) → Prop) (Q : Int → cI → Prop) (a1 : Int) (a2 : Int) (a3 : Int) : Nat → Int → Int → Int → cI → Prop
  | 0 => fun _ _ _ _ => False
  | n + 1 => wbX12_canFill_55 rc Q a1 a2 a3 (wX12_canFill_55 rc Q a1 a2 a3 n)
def wbX12_canFill (rc : Int → Int → Int → cI → (Int → cI → Prop) → Prop) (a1 : Int) (a2 : Int) (a3 : Int) (J : cI) (Q : Int → cI → Prop) : Prop := wX12_isBroken a1 1021 J (fun r1 J2 => (r1 = 0 → (0 ≤ a1 ∧ a1 < 70) ∧ (¬ a2 = (J2 1018 a1) → (¬ a2 = a3 → wX12_cellOf a1 a2 J2 (fun r6 J7 => ∃ n, wX12_canFill_55 rc Q a1 a2 a3 n r6 0 1 J7)) ∧ (a2 = a3 → inR ((a2 + 1)) ∧ rc a1 ((a2 + 1)) a3 J2 (fun r12 J13 => (r12 = 0 ∨ r12 = 1) ∧ Q r12 J13))) ∧ (a2 = (J2 1018 a1) → Q 1 J2)) ∧ (¬ r1 = 0 → Q 0 J2))
def wX12_canFill : Nat → Int → Int → Int → cI → (Int → cI → Prop) → Prop
  | 0 => fun _ _ _ _ _ => False
  | d + 1 => wbX12_canFill (wX12_canFill d)
def wbX12_isPossible_3 (Q : Int → cI → Prop) (a1 : Int) (a2 : Int) (a3 : Int) (rk : Int → cI → Prop) (x4 : Int) (J : cI) : Prop := (25 ≤ x4 → wX12_cellOf a1 a2 J (fun r1 J2 => (0 ≤ r1 ∧ r1 < 25) ∧ ∀ J6 : cI, J6 = up2 J2 1021 r1 a3 → wX12_canFill 7 a1 0 a2 J6 (fun r9 J10 => (r9 = 0 ∨ r9 = 1) ∧ Q r9 J10))) ∧ (¬ 25 ≤ x4 → (0 ≤ x4 ∧ x4 < 25) ∧ ∀ J15 : cI, J15 = up2 J 1021 x4 0 → inR (x4 + 1) ∧ ∀ z18 : Int, z18 = x4 + 1 → rk z18 J15)
def wX12_isPossible_3 (Q : Int → cI → Prop) (a1 : Int) (a2 : Int) (a3 : Int) : Nat → Int → cI → Prop
  | 0 => fun _ _ => False
  | n + 1 => wbX12_isPossible_3 Q a1 a2 a3 (wX12_isPossible_3 Q a1 a2 a3 n)
def wX12_isPossible (a1 : Int) (a2 : Int) (a3 : Int) (J : cI) (Q : Int → cI → Prop) : Prop := ∃ n, wX12_isPossible_3 Q a1 a2 a3 n 0 J
def wbX12_gradeOf_4 (Q : Int → cI → Prop) (a1 : Int) (rk : Int → Int → cI → Prop) (x2 : Int) (x3 : Int) (J : cI) : Prop := (0 ≤ a1 ∧ a1 < 70) ∧ ((J 1018 a1) ≤ x3 → Q x2 J) ∧ (¬ (J 1018 a1) ≤ x3 → wX12_cellOf a1 x3 J (fun r2 J3 => (0 ≤ r2 ∧ r2 < 25) ∧ ((bc ((J3 1030 r2))) ≤ 1 → inR ((x2 + 0)) ∧ ∀ z8 : Int, z8 = (x2 + 0) → inR (x3 + 1) ∧ ∀ z10 : Int, z10 = x3 + 1 → rk z8 z10 J3) ∧ (¬ (bc ((J3 1030 r2))) ≤ 1 → inR ((x2 + 1)) ∧ ∀ z14 : Int, z14 = (x2 + 1) → inR (x3 + 1) ∧ ∀ z16 : Int, z16 = x3 + 1 → rk z14 z16 J3)))
def wX12_gradeOf_4 (Q : Int → cI → Prop) (a1 : Int) : Nat → Int → Int → cI → Prop
  | 0 => fun _ _ _ => False
  | n + 1 => wbX12_gradeOf_4 Q a1 (wX12_gradeOf_4 Q a1 n)
def wX12_gradeOf (a1 : Int) (J : cI) (Q : Int → cI → Prop) : Prop := ∃ n, wX12_gradeOf_4 Q a1 n 0 0 J
def wbX12_findHint_24 (Q : Int → cI → Prop) (K2 : Int → cI → Prop) (K12 : Int → Int → cI → Prop) (rk : Int → Int → Int → cI → Prop) (x1 : Int) (x2 : Int) (x3 : Int) (J : cI) : Prop := ((J 1000 13) < x3 → inR (x2 + 1) ∧ ∀ z1 : Int, z1 = x2 + 1 → K12 x1 z1 J) ∧ (¬ (J 1000 13) < x3 → wX12_cellOf x1 x2 J (fun r4 J5 => (0 ≤ r4 ∧ r4 < 25) ∧ ((iAnd ((iShr ((J5 1030 r4)) ((x3 - 1)))) 1) = 0 → inR (x3 + 1) ∧ ∀ z9 : Int, z9 = x3 + 1 → rk x1 x2 z9 J5) ∧ (¬ (iAnd ((iShr ((J5 1030 r4)) ((x3 - 1)))) 1) = 0 → wX12_isPossible x1 x2 x3 J5 (fun r12 J13 => (r12 = 0 → ∀ J16 : cI, J16 = up2 J13 1042 0 x1 → wX12_cellOf x1 x2 J16 (fun r19 J20 => ∀ J23 : cI, J23 = up2 J20 1042 1 r19 → ∀ J26 : cI, J26 = up2 J23 1042 2 x3 → wX12_gradeOf x1 J26 (fun r29 J30 => ∀ J33 : cI, J33 = up2 J30 1042 3 r29 → Q 1 J33))) ∧ (¬ r12 = 0 → inR (x3 + 1) ∧ ∀ z36 : Int, z36 = x3 + 1 → rk x1 x2 z36 J13)))))
def wX12_findHint_24 (Q : Int → cI → Prop) (K2 : Int → cI → Prop) (K12 : Int → Int → cI → Prop) : Nat → Int → Int → Int → cI → Prop
  | 0 => fun _ _ _ _ => False
  | n + 1 => wbX12_findHint_24 Q K2 K12 (wX12_findHint_24 Q K2 K12 n)
def wbX12_findHint_12 (Q : Int → cI → Prop) (K2 : Int → cI → Prop) (rk : Int → Int → cI → Prop) (x1 : Int) (x2 : Int) (J : cI) : Prop := (0 ≤ x1 ∧ x1 < 70) ∧ ((J 1018 x1) ≤ x2 → inR (x1 + 1) ∧ ∀ z2 : Int, z2 = x1 + 1 → K2 z2 J) ∧ (¬ (J 1018 x1) ≤ x2 → ∃ n, wX12_findHint_24 Q K2 rk n x1 x2 1 J)
def wX12_findHint_12 (Q : Int → cI → Prop) (K2 : Int → cI → Prop) : Nat → Int → Int → cI → Prop
  | 0 => fun _ _ _ => False
  | n + 1 => wbX12_findHint_12 Q K2 (wX12_findHint_12 Q K2 n)
def wbX12_findHint_2 (Q : Int → cI → Prop) (rk : Int → cI → Prop) (x1 : Int) (J : cI) : Prop := ((J 1000 14) ≤ x1 → Q 0 J) ∧ (¬ (J 1000 14) ≤ x1 → ∃ n, wX12_findHint_12 Q rk n x1 0 J)
def wX12_findHint_2 (Q : Int → cI → Prop) : Nat → Int → cI → Prop
  | 0 => fun _ _ => False
  | n + 1 => wbX12_findHint_2 Q (wX12_findHint_2 Q n)
def wX12_findHint (J : cI) (Q : Int → cI → Prop) : Prop := ∃ n, wX12_findHint_2 Q n 0 J
def wX12_hint (a1 : Int) (J : cI) (Q : Int → cI → Prop) : Prop := ∀ J1 : cI, J1 = up2 J 1000 0 0 → wX12_isIn a1 0 3 J1 (fun r4 J5 => (¬ r4 = 0 → wX12_findHint J5 (fun r8 J9 => (r8 = 0 → Q (-1) J9) ∧ (¬ r8 = 0 → (0 ≤ a1 ∧ a1 < 4) ∧ Q ((J9 1042 a1)) J9))) ∧ (r4 = 0 → wX12_no 1 J5 (fun r13 J14 => Q r13 J14)))
def wX12_step (J : cI) (Q : Int → cI → Prop) : Prop := ∀ J1 : cI, J1 = up2 J 1000 0 0 → wX12_findHint J1 (fun r4 J5 => (¬ r4 = 0 → (0 ≤ (J5 1042 1) ∧ (J5 1042 1) < 25) ∧ (0 ≤ (J5 1042 1) ∧ (J5 1042 1) < 25) ∧ ∀ J10 : cI, J10 = up2 J5 1030 ((J5 1042 1)) ((iAnd ((J5 1030 ((J5 1042 1)))) ((iXor ((iShl 1 (((J5 1042 2) - 1)))) (-1))))) → Q 1 J10) ∧ (r4 = 0 → Q 0 J5))
def wbX12_pass_27 (Q : Int → cI → Prop) (K4 : Int → Int → cI → Prop) (K14 : Int → Int → Int → cI → Prop) (rk : Int → Int → Int → Int → cI → Prop) (x1 : Int) (x2 : Int) (x3 : Int) (x4 : Int) (J : cI) : Prop := ((J 1000 13) < x4 → inR (x3 + 1) ∧ ∀ z1 : Int, z1 = x3 + 1 → K14 x1 x2 z1 J) ∧ (¬ (J 1000 13) < x4 → wX12_cellOf x2 x3 J (fun r4 J5 => (0 ≤ r4 ∧ r4 < 25) ∧ ((iAnd ((iShr ((J5 1030 r4)) ((x4 - 1)))) 1) = 0 → inR (x4 + 1) ∧ ∀ z9 : Int, z9 = x4 + 1 → rk x1 x2 x3 z9 J5) ∧ (¬ (iAnd ((iShr ((J5 1030 r4)) ((x4 - 1)))) 1) = 0 → wX12_isPossible x2 x3 x4 J5 (fun r12 J13 => (r12 = 0 → wX12_gradeOf x2 J13 (fun r16 J17 => ∀ J20 : cI, J20 = up2 J17 1000 32 ((imax ((J13 1000 32)) r16)) → (0 ≤ r4 ∧ r4 < 25) ∧ (0 ≤ r4 ∧ r4 < 25) ∧ ∀ J25 : cI, J25 = up2 J20 1030 r4 ((iAnd ((J20 1030 r4)) ((iXor ((iShl 1 ((x4 - 1)))) (-1))))) → inR (x1 + 1) ∧ ∀ z28 : Int, z28 = x1 + 1 → inR (x4 + 1) ∧ ∀ z31 : Int, z31 = x4 + 1 → rk z28 x2 x3 z31 J25)) ∧ (¬ r12 = 0 → inR (x4 + 1) ∧ ∀ z34 : Int, z34 = x4 + 1 → rk x1 x2 x3 z34 J13)))))
def wX12_pass_27 (Q : Int → cI → Prop) (K4 : Int → Int → cI → Prop) (K14 : Int → Int → Int → cI → Prop) : Nat → Int → Int → Int → Int → cI → Prop
  | 0 => fun _ _ _ _ _ => False
  | n + 1 => wbX12_pass_27 Q K4 K14 (wX12_pass_27 Q K4 K14 n)
def wbX12_pass_14 (Q : Int → cI → Prop) (K4 : Int → Int → cI → Prop) (rk : Int → Int → Int → cI → Prop) (x1 : Int) (x2 : Int) (x3 : Int) (J : cI) : Prop := (0 ≤ x2 ∧ x2 < 70) ∧ ((J 1018 x2) ≤ x3 → inR (x2 + 1) ∧ ∀ z2 : Int, z2 = x2 + 1 → K4 x1 z2 J) ∧ (¬ (J 1018 x2) ≤ x3 → ∃ n, wX12_pass_27 Q K4 rk n x1 x2 x3 1 J)
def wX12_pass_14 (Q : Int → cI → Prop) (K4 : Int → Int → cI → Prop) : Nat → Int → Int → Int → cI → Prop
  | 0 => fun _ _ _ _ => False
  | n + 1 => wbX12_pass_14 Q K4 (wX12_pass_14 Q K4 n)
def wbX12_pass_4 (Q : Int → cI → Prop) (rk : Int → Int → cI → Prop) (x1 : Int) (x2 : Int) (J : cI) : Prop := ((J 1000 14) ≤ x2 → Q x1 J) ∧ (¬ (J 1000 14) ≤ x2 → ∃ n, wX12_pass_14 Q rk n x1 x2 0 J)
def wX12_pass_4 (Q : Int → cI → Prop) : Nat → Int → Int → cI → Prop
  | 0 => fun _ _ _ => False
  | n + 1 => wbX12_pass_4 Q (wX12_pass_4 Q n)
def wX12_pass (J : cI) (Q : Int → cI → Prop) : Prop := ∃ n, wX12_pass_4 Q n 0 0 J
def wbX12_reason_19 (Q : Int → cI → Prop) (rk : Int → Int → cI → Prop) (x1 : Int) (x2 : Int) (J : cI) : Prop := (x2 ≤ 0 → Q x1 J) ∧ (¬ x2 ≤ 0 → wX12_pass J (fun r1 J2 => inR (((J2 1000 31) + 1)) ∧ ∀ J6 : cI, J6 = up2 J2 1000 31 (((J2 1000 31) + 1)) → inR ((x1 + r1)) ∧ ∀ z10 : Int, z10 = (x1 + r1) → rk z10 r1 J6))
def wX12_reason_19 (Q : Int → cI → Prop) : Nat → Int → Int → cI → Prop
  | 0 => fun _ _ _ => False
  | n + 1 => wbX12_reason_19 Q (wX12_reason_19 Q n)
def wX12_reason (J : cI) (Q : Int → cI → Prop) : Prop := ∀ J1 : cI, J1 = up2 J 1000 0 0 → ∀ J4 : cI, J4 = up2 J1 1000 31 0 → ∀ J7 : cI, J7 = up2 J4 1000 32 0 → ∃ n, wX12_reason_19 Q n 0 1 J7
def wX12_withValues_31 (Q : Int → cI → Prop) (a1 : Int) (K4 : Int → Int → cI → Prop) (x3 : Int) (y0 : Int) (y1 : Int) (y2 : Int) (J : cI) : Prop := (¬ y1 = y2 → inR ((y0 + 0)) ∧ ∀ z2 : Int, z2 = (y0 + 0) → inR (x3 + 1) ∧ ∀ z4 : Int, z4 = x3 + 1 → K4 z2 z4 J) ∧ (y1 = y2 → inR ((y0 + 1)) ∧ ∀ z8 : Int, z8 = (y0 + 1) → inR (x3 + 1) ∧ ∀ z10 : Int, z10 = x3 + 1 → K4 z8 z10 J)
def wbX12_withValues_4 (Q : Int → cI → Prop) (a1 : Int) (rk : Int → Int → cI → Prop) (x2 : Int) (x3 : Int) (J : cI) : Prop := wX12_cells J (fun r1 J2 => (r1 ≤ x3 → Q x2 J2) ∧ (¬ r1 ≤ x3 → (0 ≤ x3 ∧ x3 < 25) ∧ (a1 = 0 → wX12_withValues_31 Q a1 rk x3 x2 ((bc ((J2 1030 x3)))) 1 J2) ∧ (¬ a1 = 0 → wX12_withValues_31 Q a1 rk x3 x2 ((bc ((J2 1030 x3)))) 0 J2)))
def wX12_withValues_4 (Q : Int → cI → Prop) (a1 : Int) : Nat → Int → Int → cI → Prop
  | 0 => fun _ _ _ => False
  | n + 1 => wbX12_withValues_4 Q a1 (wX12_withValues_4 Q a1 n)
def wX12_withValues (a1 : Int) (J : cI) (Q : Int → cI → Prop) : Prop := ∃ n, wX12_withValues_4 Q a1 n 0 0 J
def wX12_reasonTold_34 (Q : Int → cI → Prop) (a1 : Int) (y1 : Int) (J : cI) : Prop := wX12_withValues y1 J (fun r1 J2 => Q r1 J2)
def wX12_reasonTold (a1 : Int) (J : cI) (Q : Int → cI → Prop) : Prop := (¬ a1 = 0 → (¬ a1 = 1 → (¬ a1 = 3 → wX12_reasonTold_34 Q a1 0 J) ∧ (a1 = 3 → wX12_reasonTold_34 Q a1 1 J)) ∧ (a1 = 1 → Q ((J 1000 32)) J)) ∧ (a1 = 0 → Q ((J 1000 31)) J)
def wX12_reasoned (a1 : Int) (J : cI) (Q : Int → cI → Prop) : Prop := ∀ J1 : cI, J1 = up2 J 1000 0 0 → wX12_isIn a1 0 3 J1 (fun r4 J5 => (r4 = 0 → wX12_no 1 J5 (fun r8 J9 => Q r8 J9)) ∧ (¬ r4 = 0 → wX12_reasonTold a1 J5 (fun r12 J13 => Q r12 J13)))
def wX12_drawn (J : cI) (Q : Int → cI → Prop) : Prop := inR ((((J 1000 43) * 1103) + 12345)) ∧ 0 ≤ (((J 1000 43) * 1103) + 12345) ∧ inR (((((J 1000 43) * 1103) + 12345) % 65536)) ∧ ∀ J4 : cI, J4 = up2 J 1000 43 (((((J 1000 43) * 1103) + 12345) % 65536)) → 0 ≤ (J4 1000 43) ∧ inR (((J4 1000 43) / 16)) ∧ Q (((J4 1000 43) / 16)) J4
def wX12_thinOut_73 (Q : cI → Prop) (a1 : Int) (K17 : Int → Int → cI → Prop) (x2 : Int) (x3 : Int) (J : cI) : Prop := wX12_cells J (fun r1 J2 => inR ((x2 + 7)) ∧ (0 ≤ (x2 + 7) ∧ 0 < r1) ∧ inR (((x2 + 7) % r1)) ∧ ∀ z8 : Int, z8 = ((x2 + 7) % r1) → inR (x3 + 1) ∧ ∀ z10 : Int, z10 = x3 + 1 → K17 z8 z10 J2)
def wX12_thinOut_56 (Q : cI → Prop) (a1 : Int) (K17 : Int → Int → cI → Prop) (x2 : Int) (x3 : Int) (x4 : Int) (J : cI) : Prop := wX12_look 2 x4 J (fun r1 J2 => (¬ r1 = 1 → wX12_thinOut_73 Q a1 K17 x2 x3 J2) ∧ (r1 = 1 → wX12_dropRule x4 J2 (fun J6 => wX12_thinOut_73 Q a1 K17 x2 x3 J6)))
def wbX12_thinOut_28 (Q : cI → Prop) (a1 : Int) (K17 : Int → Int → cI → Prop) (rk : Int → Int → Int → cI → Prop) (x2 : Int) (x3 : Int) (x4 : Int) (J : cI) : Prop := ((J 1000 14) ≤ x4 → wX12_thinOut_56 Q a1 K17 x2 x3 x4 J) ∧ (¬ (J 1000 14) ≤ x4 → (0 ≤ (5 * x4) ∧ (5 * x4) < 350) ∧ ((J 1019 ((5 * x4))) = x2 → wX12_thinOut_56 Q a1 K17 x2 x3 x4 J) ∧ (¬ (J 1019 ((5 * x4))) = x2 → inR (x4 + 1) ∧ ∀ z2 : Int, z2 = x4 + 1 → rk x2 x3 z2 J))
def wX12_thinOut_28 (Q : cI → Prop) (a1 : Int) (K17 : Int → Int → cI → Prop) : Nat → Int → Int → Int → cI → Prop
  | 0 => fun _ _ _ _ => False
  | n + 1 => wbX12_thinOut_28 Q a1 K17 (wX12_thinOut_28 Q a1 K17 n)
def wbX12_thinOut_17 (Q : cI → Prop) (a1 : Int) (rk : Int → Int → cI → Prop) (x2 : Int) (x3 : Int) (J : cI) : Prop := wX12_cells J (fun r1 J2 => (r1 ≤ x3 → Q J2) ∧ (¬ r1 ≤ x3 → ∃ n, wX12_thinOut_28 Q a1 rk n x2 x3 a1 J2))
def wX12_thinOut_17 (Q : cI → Prop) (a1 : Int) : Nat → Int → Int → cI → Prop
  | 0 => fun _ _ _ => False
  | n + 1 => wbX12_thinOut_17 Q a1 (wX12_thinOut_17 Q a1 n)
def wX12_thinOut (a1 : Int) (J : cI) (Q : cI → Prop) : Prop := wX12_prepare 0 J (fun J2 => wX12_drawn J2 (fun r5 J6 => wX12_cells J6 (fun r9 J10 => (0 ≤ r5 ∧ 0 < r9) ∧ inR ((r5 % r9)) ∧ ∀ z15 : Int, z15 = (r5 % r9) → ∃ n, n ≤ 26 ∧ wX12_thinOut_17 Q a1 n z15 0 J10)))
def wbX12_make_346 (Q : Int → cI → Prop) (a1 : Int) (rk : Int → Int → (Int → Int) → cI → Prop) (x4 : Int) (x5 : Int) (f0 : Int → Int) (J : cI) : Prop := wX12_cells J (fun r1 J2 => (r1 ≤ x5 → wX12_thinOut x4 J2 (fun J6 => ∀ J9 : cI, J9 = up2 J6 1000 28 0 → wX12_lookAnew J9 (fun r12 J13 => wX12_rulesIs J13 (fun r16 J17 => Q r16 J17)))) ∧ (¬ r1 ≤ x5 → (0 ≤ (J2 1000 14) ∧ (J2 1000 14) < 70) ∧ ∀ J21 : cI, J21 = up2 J2 1015 ((J2 1000 14)) 9 → (0 ≤ x5 ∧ x5 < 25) ∧ (0 ≤ (J21 1000 14) ∧ (J21 1000 14) < 70) ∧ ∀ J26 : cI, J26 = up2 J21 1016 ((J21 1000 14)) ((f0 x5)) → (0 ≤ (J26 1000 14) ∧ (J26 1000 14) < 70) ∧ ∀ J30 : cI, J30 = up2 J26 1017 ((J26 1000 14)) 0 → (0 ≤ (J30 1000 14) ∧ (J30 1000 14) < 70) ∧ ∀ J34 : cI, J34 = up2 J30 1018 ((J30 1000 14)) 1 → (0 ≤ (5 * (J34 1000 14)) ∧ (5 * (J34 1000 14)) < 350) ∧ ∀ J38 : cI, J38 = up2 J34 1019 ((5 * (J34 1000 14))) x5 → inR (((J38 1000 14) + 1)) ∧ ∀ J42 : cI, J42 = up2 J38 1000 14 (((J38 1000 14) + 1)) → inR (x5 + 1) ∧ ∀ z45 : Int, z45 = x5 + 1 → rk x4 z45 f0 J42))
def wX12_make_346 (Q : Int → cI → Prop) (a1 : Int) : Nat → Int → Int → (Int → Int) → cI → Prop
  | 0 => fun _ _ _ _ => False
  | n + 1 => wbX12_make_346 Q a1 (wX12_make_346 Q a1 n)
def wbX12_make_316 (Q : Int → cI → Prop) (a1 : Int) (rk : Int → (Int → Int) → cI → Prop) (x4 : Int) (f0 : Int → Int) (J : cI) : Prop := (25 ≤ x4 → ∀ z1 : Int, z1 = (J 1000 14) → ∃ n, wX12_make_346 Q a1 n z1 0 f0 J) ∧ (¬ 25 ≤ x4 → (0 ≤ x4 ∧ x4 < 25) ∧ ∀ J5 : cI, J5 = up2 J 1020 x4 0 → inR (x4 + 1) ∧ ∀ z8 : Int, z8 = x4 + 1 → rk z8 f0 J5)
def wX12_make_316 (Q : Int → cI → Prop) (a1 : Int) : Nat → Int → (Int → Int) → cI → Prop
  | 0 => fun _ _ _ => False
  | n + 1 => wbX12_make_316 Q a1 (wX12_make_316 Q a1 n)
def wbX12_make_287 (Q : Int → cI → Prop) (a1 : Int) (rk : Int → (Int → Int) → cI → Prop) (x4 : Int) (f0 : Int → Int) (J : cI) : Prop := wX12_cells J (fun r1 J2 => (r1 ≤ x4 → ∃ n, wX12_make_316 Q a1 n 0 f0 J2) ∧ (¬ r1 ≤ x4 → (0 ≤ x4 ∧ x4 < 750) ∧ (0 ≤ x4 ∧ x4 < 25) ∧ ∀ f8 : Int → Int, f8 = upF f0 x4 ((J2 1026 x4)) → inR (x4 + 1) ∧ ∀ z10 : Int, z10 = x4 + 1 → rk z10 f8 J2))
def wX12_make_287 (Q : Int → cI → Prop) (a1 : Int) : Nat → Int → (Int → Int) → cI → Prop
  | 0 => fun _ _ _ => False
  | n + 1 => wbX12_make_287 Q a1 (wX12_make_287 Q a1 n)
def wbX12_make_240 (Q : Int → cI → Prop) (a1 : Int) (rk : Int → Int → cI → Prop) (x2 : Int) (x3 : Int) (J : cI) : Prop := (x2 ≤ x3 → Q (-1) J) ∧ (¬ x2 ≤ x3 → wX12_copyRule 1037 1038 1039 1040 1041 x3 x3 J (fun J2 => inR (x3 + 1) ∧ ∀ z5 : Int, z5 = x3 + 1 → rk x2 z5 J2))
def wX12_make_240 (Q : Int → cI → Prop) (a1 : Int) : Nat → Int → Int → cI → Prop
  | 0 => fun _ _ _ => False
  | n + 1 => wbX12_make_240 Q a1 (wX12_make_240 Q a1 n)
def wbX12_make_194 (Q : Int → cI → Prop) (a1 : Int) (rk : Int → Int → cI → Prop) (x2 : Int) (x3 : Int) (J : cI) : Prop := wX12_cells J (fun r1 J2 => (r1 ≤ x3 → wX12_look 1 (-1) J2 (fun r5 J6 => (r5 = 1 → ∀ f10 : Int → Int, f10 = (fun _ => 0) → ∃ n, wX12_make_287 Q a1 n 0 f10 J6) ∧ (¬ r5 = 1 → ∀ J13 : cI, J13 = up2 J6 1000 14 x2 → ∃ n, wX12_make_240 Q a1 n x2 0 J13))) ∧ (¬ r1 ≤ x3 → wX12_drawn J2 (fun r17 J18 => (0 ≤ r17 ∧ 0 < (J18 1000 13)) ∧ inR ((r17 % (J18 1000 13))) ∧ (0 ≤ x3 ∧ x3 < 25) ∧ ∀ J24 : cI, J24 = up2 J18 1022 x3 ((r17 % (J18 1000 13))) → inR (x3 + 1) ∧ ∀ z27 : Int, z27 = x3 + 1 → rk x2 z27 J24)))
def wX12_make_194 (Q : Int → cI → Prop) (a1 : Int) : Nat → Int → Int → cI → Prop
  | 0 => fun _ _ _ => False
  | n + 1 => wbX12_make_194 Q a1 (wX12_make_194 Q a1 n)
def wbX12_make_161 (Q : Int → cI → Prop) (a1 : Int) (rk : Int → Int → cI → Prop) (x2 : Int) (x3 : Int) (J : cI) : Prop := (x3 < 0 → wX12_prepare 0 J (fun J2 => ∃ n, wX12_make_194 Q a1 n x2 0 J2)) ∧ (¬ x3 < 0 → (0 ≤ x3 ∧ x3 < 70) ∧ (¬ (J 1015 x3) = 9 → inR (x3 + (-1)) ∧ ∀ z7 : Int, z7 = x3 + (-1) → rk x2 z7 J) ∧ ((J 1015 x3) = 9 → wX12_dropRule x3 J (fun J11 => inR (x3 + (-1)) ∧ ∀ z14 : Int, z14 = x3 + (-1) → rk x2 z14 J11)))
def wX12_make_161 (Q : Int → cI → Prop) (a1 : Int) : Nat → Int → Int → cI → Prop
  | 0 => fun _ _ _ => False
  | n + 1 => wbX12_make_161 Q a1 (wX12_make_161 Q a1 n)
def wbX12_make_114 (Q : Int → cI → Prop) (a1 : Int) (K55 : Int → Int → cI → Prop) (rk : Int → Int → Int → cI → Prop) (x2 : Int) (x3 : Int) (x4 : Int) (J : cI) : Prop := (5 ≤ x4 → inR (x3 + 1) ∧ ∀ z1 : Int, z1 = x3 + 1 → K55 x2 z1 J) ∧ (¬ 5 ≤ x4 → (0 ≤ ((5 * x3) + x4) ∧ ((5 * x3) + x4) < 350) ∧ (0 ≤ ((5 * x3) + x4) ∧ ((5 * x3) + x4) < 350) ∧ ∀ J6 : cI, J6 = up2 J 1041 (((5 * x3) + x4)) ((J 1019 (((5 * x3) + x4)))) → inR (x4 + 1) ∧ ∀ z9 : Int, z9 = x4 + 1 → rk x2 x3 z9 J6)
def wX12_make_114 (Q : Int → cI → Prop) (a1 : Int) (K55 : Int → Int → cI → Prop) : Nat → Int → Int → Int → cI → Prop
  | 0 => fun _ _ _ _ => False
  | n + 1 => wbX12_make_114 Q a1 K55 (wX12_make_114 Q a1 K55 n)
def wbX12_make_55 (Q : Int → cI → Prop) (a1 : Int) (rk : Int → Int → cI → Prop) (x2 : Int) (x3 : Int) (J : cI) : Prop := ((J 1000 14) ≤ x3 → inR (((J 1000 14) - 1)) ∧ ∀ z2 : Int, z2 = ((J 1000 14) - 1) → ∃ n, wX12_make_161 Q a1 n x2 z2 J) ∧ (¬ (J 1000 14) ≤ x3 → (0 ≤ x3 ∧ x3 < 70) ∧ (0 ≤ x3 ∧ x3 < 70) ∧ ∀ J7 : cI, J7 = up2 J 1037 x3 ((J 1015 x3)) → (0 ≤ x3 ∧ x3 < 70) ∧ (0 ≤ x3 ∧ x3 < 70) ∧ ∀ J12 : cI, J12 = up2 J7 1038 x3 ((J7 1016 x3)) → (0 ≤ x3 ∧ x3 < 70) ∧ (0 ≤ x3 ∧ x3 < 70) ∧ ∀ J17 : cI, J17 = up2 J12 1039 x3 ((J12 1017 x3)) → (0 ≤ x3 ∧ x3 < 70) ∧ (0 ≤ x3 ∧ x3 < 70) ∧ ∀ J22 : cI, J22 = up2 J17 1040 x3 ((J17 1018 x3)) → ∃ n, wX12_make_114 Q a1 rk n x2 x3 0 J22)
def wX12_make_55 (Q : Int → cI → Prop) (a1 : Int) : Nat → Int → Int → cI → Prop
  | 0 => fun _ _ _ => False
  | n + 1 => wbX12_make_55 Q a1 (wX12_make_55 Q a1 n)
def wX12_make (a1 : Int) (J : cI) (Q : Int → cI → Prop) : Prop := ∀ J1 : cI, J1 = up2 J 1000 0 0 → wX12_isIn a1 0 65535 J1 (fun r4 J5 => (¬ r4 = 0 → (¬ (J5 1000 11) = 0 → ∀ J8 : cI, J8 = up2 J5 1000 43 a1 → ∀ z11 : Int, z11 = (J8 1000 14) → ∀ J13 : cI, J13 = up2 J8 1000 36 ((J8 1000 14)) → ∃ n, wX12_make_55 Q a1 n z11 0 J13) ∧ ((J5 1000 11) = 0 → wX12_no 2 J5 (fun r17 J18 => Q r17 J18))) ∧ (r4 = 0 → wX12_no 1 J5 (fun r21 J22 => Q r21 J22)))
def wX12_change_249 (Q : Int → cI → Prop) (a1 : Int) (f0 : Int → Int) (f1 : Int → Int) (J : cI) : Prop := ∀ J1 : cI, J1 = up2 J 1000 28 0 → wX12_lookAnew J1 (fun r4 J5 => wX12_cells J5 (fun r8 J9 => Q r8 J9))
def wbX12_change_179 (Q : Int → cI → Prop) (a1 : Int) (K167 : Int → (Int → Int) → (Int → Int) → cI → Prop) (rk : Int → Int → (Int → Int) → (Int → Int) → cI → Prop) (x4 : Int) (x5 : Int) (f0 : Int → Int) (f1 : Int → Int) (J : cI) : Prop := (0 ≤ x4 ∧ x4 < 70) ∧ ((J 1018 x4) ≤ x5 → inR (x4 + 1) ∧ ∀ z2 : Int, z2 = x4 + 1 → K167 z2 f0 f1 J) ∧ (¬ (J 1018 x4) ≤ x5 → wX12_cellOf x4 x5 J (fun r5 J6 => (0 ≤ r5 ∧ r5 < 25) ∧ (0 ≤ ((5 * x4) + x5) ∧ ((5 * x4) + x5) < 350) ∧ ∀ J11 : cI, J11 = up2 J6 1019 (((5 * x4) + x5)) ((f0 r5)) → inR (x5 + 1) ∧ ∀ z14 : Int, z14 = x5 + 1 → rk x4 z14 f0 f1 J11))
def wX12_change_179 (Q : Int → cI → Prop) (a1 : Int) (K167 : Int → (Int → Int) → (Int → Int) → cI → Prop) : Nat → Int → Int → (Int → Int) → (Int → Int) → cI → Prop
  | 0 => fun _ _ _ _ _ => False
  | n + 1 => wbX12_change_179 Q a1 K167 (wX12_change_179 Q a1 K167 n)
def wbX12_change_167 (Q : Int → cI → Prop) (a1 : Int) (rk : Int → (Int → Int) → (Int → Int) → cI → Prop) (x4 : Int) (f0 : Int → Int) (f1 : Int → Int) (J : cI) : Prop := ((J 1000 14) ≤ x4 → (¬ a1 = 0 → wX12_change_249 Q a1 f0 f1 J) ∧ (a1 = 0 → ∀ z1 : Int, z1 = (J 1000 11) → ∀ J3 : cI, J3 = up2 J 1000 11 ((J 1000 12)) → ∀ J6 : cI, J6 = up2 J3 1000 12 z1 → wX12_change_249 Q a1 f0 f1 J6)) ∧ (¬ (J 1000 14) ≤ x4 → ∃ n, wX12_change_179 Q a1 rk n x4 0 f0 f1 J)
def wX12_change_167 (Q : Int → cI → Prop) (a1 : Int) : Nat → Int → (Int → Int) → (Int → Int) → cI → Prop
  | 0 => fun _ _ _ _ => False
  | n + 1 => wbX12_change_167 Q a1 (wX12_change_167 Q a1 n)
def wbX12_change_140 (Q : Int → cI → Prop) (a1 : Int) (rk : Int → (Int → Int) → (Int → Int) → cI → Prop) (x4 : Int) (f0 : Int → Int) (f1 : Int → Int) (J : cI) : Prop := (25 ≤ x4 → ∃ n, wX12_change_167 Q a1 n 0 f0 f1 J) ∧ (¬ 25 ≤ x4 → (0 ≤ x4 ∧ x4 < 25) ∧ (0 ≤ x4 ∧ x4 < 25) ∧ ∀ J4 : cI, J4 = up2 J 1020 x4 ((f1 x4)) → inR (x4 + 1) ∧ ∀ z7 : Int, z7 = x4 + 1 → rk z7 f0 f1 J4)
def wX12_change_140 (Q : Int → cI → Prop) (a1 : Int) : Nat → Int → (Int → Int) → (Int → Int) → cI → Prop
  | 0 => fun _ _ _ _ => False
  | n + 1 => wbX12_change_140 Q a1 (wX12_change_140 Q a1 n)
def wX12_change_117 (Q : Int → cI → Prop) (a1 : Int) (K46 : Int → (Int → Int) → (Int → Int) → cI → Prop) (x4 : Int) (y1 : Int) (y2 : Int) (f0 : Int → Int) (f1 : Int → Int) (J : cI) : Prop := (0 ≤ y1 ∧ y1 < 25) ∧ ∀ f2 : Int → Int, f2 = upF f0 y1 y2 → (0 ≤ x4 ∧ x4 < 25) ∧ (0 ≤ x4 ∧ x4 < 25) ∧ (0 ≤ (f2 x4) ∧ (f2 x4) < 25) ∧ ∀ f7 : Int → Int, f7 = upF f1 ((f2 x4)) ((J 1020 x4)) → inR (x4 + 1) ∧ ∀ z9 : Int, z9 = x4 + 1 → K46 z9 f2 f7 J
def wbX12_change_46 (Q : Int → cI → Prop) (a1 : Int) (rk : Int → (Int → Int) → (Int → Int) → cI → Prop) (x4 : Int) (f0 : Int → Int) (f1 : Int → Int) (J : cI) : Prop := wX12_cells J (fun r1 J2 => (r1 ≤ x4 → ∃ n, wX12_change_140 Q a1 n 0 f0 f1 J2) ∧ (¬ r1 ≤ x4 → (0 ≤ x4 ∧ 0 < (J2 1000 11)) ∧ inR ((x4 % (J2 1000 11))) ∧ ∀ z8 : Int, z8 = (x4 % (J2 1000 11)) → (0 ≤ x4 ∧ 0 < (J2 1000 11)) ∧ inR ((x4 / (J2 1000 11))) ∧ ∀ z12 : Int, z12 = (x4 / (J2 1000 11)) → (¬ a1 = 0 → inR (((((J2 1000 11) - 1) - z8) + ((J2 1000 11) * z12))) ∧ wX12_change_117 Q a1 rk x4 x4 (((((J2 1000 11) - 1) - z8) + ((J2 1000 11) * z12))) f0 f1 J2) ∧ (a1 = 0 → inR (((((J2 1000 12) - 1) - z12) + ((J2 1000 12) * z8))) ∧ wX12_change_117 Q a1 rk x4 x4 (((((J2 1000 12) - 1) - z12) + ((J2 1000 12) * z8))) f0 f1 J2)))
def wX12_change_46 (Q : Int → cI → Prop) (a1 : Int) : Nat → Int → (Int → Int) → (Int → Int) → cI → Prop
  | 0 => fun _ _ _ _ => False
  | n + 1 => wbX12_change_46 Q a1 (wX12_change_46 Q a1 n)
def wX12_change (a1 : Int) (J : cI) (Q : Int → cI → Prop) : Prop := ∀ J1 : cI, J1 = up2 J 1000 0 0 → wX12_isIn a1 0 1 J1 (fun r4 J5 => (¬ r4 = 0 → (¬ (J5 1000 11) = 0 → ∀ f9 : Int → Int, f9 = (fun _ => 0) → ∀ f12 : Int → Int, f12 = (fun _ => 0) → ∃ n, wX12_change_46 Q a1 n 0 f9 f12 J5) ∧ ((J5 1000 11) = 0 → wX12_no 2 J5 (fun r15 J16 => Q r15 J16))) ∧ (r4 = 0 → wX12_no 1 J5 (fun r19 J20 => Q r19 J20)))
def wbX12_digest_207 (Q : Int → cI → Prop) (rk : Int → Int → cI → Prop) (x1 : Int) (x3 : Int) (J : cI) : Prop := ((J 1000 10) ≤ x3 → Q x1 J) ∧ (¬ (J 1000 10) ≤ x3 → (0 ≤ x3 ∧ x3 < 4000) ∧ inR (x3 + 1) ∧ ∀ z2 : Int, z2 = x3 + 1 → rk (((x1 * 31) + (J 1009 x3))) z2 J)
def wX12_digest_207 (Q : Int → cI → Prop) : Nat → Int → Int → cI → Prop
  | 0 => fun _ _ _ => False
  | n + 1 => wbX12_digest_207 Q (wX12_digest_207 Q n)
def wbX12_digest_181 (Q : Int → cI → Prop) (rk : Int → Int → cI → Prop) (x1 : Int) (x3 : Int) (J : cI) : Prop := (4 ≤ x3 → ∃ n, wX12_digest_207 Q n x1 0 J) ∧ (¬ 4 ≤ x3 → wX12_reasonTold x3 J (fun r2 J3 => inR (x3 + 1) ∧ ∀ z6 : Int, z6 = x3 + 1 → rk (((x1 * 31) + r2)) z6 J3))
def wX12_digest_181 (Q : Int → cI → Prop) : Nat → Int → Int → cI → Prop
  | 0 => fun _ _ _ => False
  | n + 1 => wbX12_digest_181 Q (wX12_digest_181 Q n)
def wbX12_digest_138 (Q : Int → cI → Prop) (K127 : Int → Int → cI → Prop) (rk : Int → Int → Int → cI → Prop) (x1 : Int) (x3 : Int) (x4 : Int) (J : cI) : Prop := wX12_cells J (fun r1 J2 => (r1 ≤ x4 → inR (x3 + 1) ∧ ∀ z5 : Int, z5 = x3 + 1 → K127 x1 z5 J2) ∧ (¬ r1 ≤ x4 → (0 ≤ ((25 * x3) + x4) ∧ ((25 * x3) + x4) < 750) ∧ inR (x4 + 1) ∧ ∀ z9 : Int, z9 = x4 + 1 → rk (((x1 * 31) + (J2 1029 (((25 * x3) + x4))))) x3 z9 J2))
def wX12_digest_138 (Q : Int → cI → Prop) (K127 : Int → Int → cI → Prop) : Nat → Int → Int → Int → cI → Prop
  | 0 => fun _ _ _ _ => False
  | n + 1 => wbX12_digest_138 Q K127 (wX12_digest_138 Q K127 n)
def wbX12_digest_127 (Q : Int → cI → Prop) (rk : Int → Int → cI → Prop) (x1 : Int) (x3 : Int) (J : cI) : Prop := ((J 1000 28) ≤ x3 → ∃ n, wX12_digest_181 Q n x1 0 J) ∧ (¬ (J 1000 28) ≤ x3 → ∃ n, wX12_digest_138 Q rk n x1 x3 0 J)
def wX12_digest_127 (Q : Int → cI → Prop) : Nat → Int → Int → cI → Prop
  | 0 => fun _ _ _ => False
  | n + 1 => wbX12_digest_127 Q (wX12_digest_127 Q n)
def wbX12_digest_85 (Q : Int → cI → Prop) (rk : Int → Int → cI → Prop) (x1 : Int) (x3 : Int) (J : cI) : Prop := wX12_cells J (fun r1 J2 => (r1 ≤ x3 → ∃ n, wX12_digest_127 Q n x1 0 J2) ∧ (¬ r1 ≤ x3 → (0 ≤ x3 ∧ x3 < 25) ∧ (0 ≤ x3 ∧ x3 < 25) ∧ inR (x3 + 1) ∧ ∀ z8 : Int, z8 = x3 + 1 → rk (((((x1 * 31) + (J2 1020 x3)) * 31) + (J2 1030 x3))) z8 J2))
def wX12_digest_85 (Q : Int → cI → Prop) : Nat → Int → Int → cI → Prop
  | 0 => fun _ _ _ => False
  | n + 1 => wbX12_digest_85 Q (wX12_digest_85 Q n)
def wbX12_digest_49 (Q : Int → cI → Prop) (K38 : Int → Int → cI → Prop) (rk : Int → Int → Int → cI → Prop) (x1 : Int) (x3 : Int) (x4 : Int) (J : cI) : Prop := (10 ≤ x4 → inR (x3 + 1) ∧ ∀ z1 : Int, z1 = x3 + 1 → K38 x1 z1 J) ∧ (¬ 10 ≤ x4 → wX12_ruleTold x3 x4 J (fun r4 J5 => inR (x4 + 1) ∧ ∀ z8 : Int, z8 = x4 + 1 → rk (((x1 * 31) + r4)) x3 z8 J5))
def wX12_digest_49 (Q : Int → cI → Prop) (K38 : Int → Int → cI → Prop) : Nat → Int → Int → Int → cI → Prop
  | 0 => fun _ _ _ _ => False
  | n + 1 => wbX12_digest_49 Q K38 (wX12_digest_49 Q K38 n)
def wbX12_digest_38 (Q : Int → cI → Prop) (rk : Int → Int → cI → Prop) (x1 : Int) (x3 : Int) (J : cI) : Prop := ((J 1000 14) ≤ x3 → ∃ n, wX12_digest_85 Q n x1 0 J) ∧ (¬ (J 1000 14) ≤ x3 → ∃ n, wX12_digest_49 Q rk n x1 x3 0 J)
def wX12_digest_38 (Q : Int → cI → Prop) : Nat → Int → Int → cI → Prop
  | 0 => fun _ _ _ => False
  | n + 1 => wbX12_digest_38 Q (wX12_digest_38 Q n)
def wbX12_digest_11 (Q : Int → cI → Prop) (rk : Int → Int → cI → Prop) (x1 : Int) (x3 : Int) (J : cI) : Prop := (11 ≤ x3 → ∃ n, wX12_digest_38 Q n x1 0 J) ∧ (¬ 11 ≤ x3 → wX12_counted x3 J (fun r2 J3 => inR (x3 + 1) ∧ ∀ z6 : Int, z6 = x3 + 1 → rk (((x1 * 31) + r2)) z6 J3))
def wX12_digest_11 (Q : Int → cI → Prop) : Nat → Int → Int → cI → Prop
  | 0 => fun _ _ _ => False
  | n + 1 => wbX12_digest_11 Q (wX12_digest_11 Q n)
def wX12_digest (J : cI) (Q : Int → cI → Prop) : Prop := ∀ J1 : cI, J1 = up2 J 1000 0 0 → ∃ n, n ≤ 12 ∧ wX12_digest_11 Q n 457 0 J1
