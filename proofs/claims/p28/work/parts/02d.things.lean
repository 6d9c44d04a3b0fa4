/-! ===== the things of the class, each by its number: 0 the mill, 1 tape, 2 its bytes, 3 reader, 4 tokens (5, 6, 7), 8 paper (9), 10 and 45 searches (s + 1 the rows s + 5 .., s + 2, s + 3, s + 4), 80 reasoner (81, 82), 83 maker (84), 85 and 89 puzzles (p + 1 grid, p + 2 rules, p + 3 places), 93 .. 222 rules (r + 130 cells) ===== -/
abbrev cI : Type := Nat → Int → Int
abbrev cR : Type := Nat → Int → Nat
def up2 {α : Type} (I : Nat → Int → α) (a : Nat) (x : Int) (v : α) : Nat → Int → α := fun b y => if b = a ∧ y = x then v else I b y
theorem up2_at {α : Type} {I : Nat → Int → α} {a : Nat} {x : Int} {v : α} : up2 I a x v a = fun y => if y = x then v else I a y := by
  funext y
  unfold up2
  by_cases h : y = x
  · rw [if_pos ⟨rfl, h⟩, if_pos h]
  · rw [if_neg (fun z => h z.2), if_neg h]
theorem up2_ne {α : Type} {I : Nat → Int → α} {a b : Nat} {x : Int} {v : α} (h : b ≠ a) : up2 I a x v b = I b := by
  funext y
  unfold up2
  rw [if_neg (fun z => h z.1)]
abbrev cIds : List Nat := List.range 353
theorem cIds_nd : cIds.Nodup := List.nodup_range
theorem cIds_in {i : Nat} (h : i < 353) : i ∈ cIds := List.mem_range.mpr h
def ckT : List Nat := [9, 7, 11, 3, 8, 11, 11, 11, 1, 11, 6, 13, 11, 11, 11] ++ List.replicate 30 11 ++ [6, 13, 11, 11, 11] ++ List.replicate 30 11 ++ [4, 11, 11, 0, 11, 2, 11, 12, 11, 2, 11, 12, 11]
def ckd (i : Nat) : Nat := if i < 93 then ckT.getD i 11 else if i < 223 then 5 else 11
def cln (i : Nat) : Nat := if i < 93 then (if i = 2 then 1600 else if i = 9 then 1980 else if 5 ≤ i ∧ i ≤ 7 then 1601 else 25) else 5
def isP (p : Nat) : Prop := p = 85 ∨ p = 89
def isS (s : Nat) : Prop := s = 10 ∨ s = 45
def isR (r : Nat) : Prop := 93 ≤ r ∧ r < 223
def isV (v : Nat) : Prop := v = 86 ∨ v = 90 ∨ v = 12 ∨ v = 47 ∨ v = 82
/-- a row of numbers, n long -/
def isA (n a : Nat) : Prop := ckd a = 11 ∧ cln a = n ∧ a < 353
theorem kP0 {p : Nat} (h : isP p) : ckd p = 2 ∧ p < 353 := by rcases h with rfl | rfl <;> decide
theorem kP1 {p : Nat} (h : isP p) : isA 25 (p + 1) := by rcases h with rfl | rfl <;> (unfold isA; decide)
theorem kP2 {p : Nat} (h : isP p) : ckd (p + 2) = 12 ∧ p + 2 < 353 := by rcases h with rfl | rfl <;> decide
theorem kP3 {p : Nat} (h : isP p) : isA 25 (p + 3) := by rcases h with rfl | rfl <;> (unfold isA; decide)
theorem kS0 {s : Nat} (h : isS s) : ckd s = 6 ∧ s < 353 := by rcases h with rfl | rfl <;> decide
theorem kS1 {s : Nat} (h : isS s) : ckd (s + 1) = 13 ∧ s + 1 < 353 := by rcases h with rfl | rfl <;> decide
theorem kS2 {s : Nat} (h : isS s) : isA 25 (s + 2) := by rcases h with rfl | rfl <;> (unfold isA; decide)
theorem kS3 {s : Nat} (h : isS s) : isA 25 (s + 3) := by rcases h with rfl | rfl <;> (unfold isA; decide)
theorem kS4 {s : Nat} (h : isS s) : isA 25 (s + 4) := by rcases h with rfl | rfl <;> (unfold isA; decide)
theorem kS5a : ∀ j : Nat, j < 30 → isA 25 (10 + 5 + j) ∧ isA 25 (45 + 5 + j) := by unfold isA; decide +kernel
theorem kS5 {s : Nat} (h : isS s) {x : Int} (hx : 0 ≤ x ∧ x < 30) : isA 25 (s + 5 + x.toNat) := by
  have h1 := kS5a x.toNat (by omega)
  rcases h with rfl | rfl
  · exact h1.1
  · exact h1.2
theorem kR0 {r : Nat} (h : isR r) : ckd r = 5 ∧ r < 353 := by
  unfold isR at h
  unfold ckd
  rw [if_neg (by omega), if_pos h.2]
  omega
theorem kR4 {r : Nat} (h : isR r) : isA 5 (r + 130) := by
  unfold isR at h
  unfold isA ckd cln
  rw [if_neg (by omega), if_neg (by omega), if_neg (by omega)]
  exact ⟨rfl, rfl, by omega⟩
theorem kV {v : Nat} (h : isV v) : isA 25 v := by rcases h with rfl | rfl | rfl | rfl | rfl <;> (unfold isA; decide)

def cent (E : cE) (i : Nat) (f : Int → Int) (g : Int → Nat) : va_E := match ckd i with
  | 0 => .inr (0, [.ref (E.1 (i + 1)), iV (f 1)])
  | 1 => .inr (1, [.ref (E.1 (i + 1)), iV (f 1)])
  | 2 => .inr (2, [iV (f 0), iV (f 1), iV (f 2), .ref (E.1 (i + 1)), .ref (E.1 (i + 2)), iV (f 5), .ref (E.1 (i + 3))])
  | 3 => .inr (3, [iV (f 0), iV (f 1), .ref (E.1 (i + 1)), iV (f 3)])
  | 4 => .inr (4, [.ref (E.1 (i + 1)), iV (f 1), iV (f 2), iV (f 3), iV (f 4), iV (f 5), iV (f 6), .ref (E.1 (i + 2))])
  | 5 => .inr (5, [.ref (E.2.1 0 (g 0)), iV (f 1), iV (f 2), iV (f 3), .ref (E.1 (i + 130)), iV (f 5)])
  | 6 => .inr (6, [.ref (E.1 (i + 1)), iV (f 1), iV (f 2), .ref (E.1 (i + 2)), .ref (E.1 (i + 3)), .ref (E.1 (i + 4)), iV (f 6), iV (f 7), iV (f 8)])
  | 7 => .inr (7, [iV (f 0), .ref (E.1 (i + 1))])
  | 8 => .inr (8, [iV (f 0), .ref (E.1 (i + 1)), .ref (E.1 (i + 2)), .ref (E.1 (i + 3))])
  | 9 => .inr (9, [.ref (E.1 1), .ref (E.1 3), .ref (E.1 8), .ref (E.1 10), .ref (E.1 45), .ref (E.1 80), .ref (E.1 83), .ref (E.1 (g 7)), .ref (E.1 (g 8))])
  | 12 => rA E (yR E) 65 g
  | 13 => rA E (yA E) 30 (fun j => i + 4 + j.toNat)
  | _ => iA E (cln i) f
def cef (E : cE) (u : cI × cR) : Nat → va_E := fun i => cent E i (u.1 i) (u.2 i)
theorem ceMaker {E : cE} {i : Nat} {f : Int → Int} {g : Int → Nat} (h : ckd i = 0) : cent E i f g = .inr (0, [.ref (E.1 (i + 1)), iV (f 1)]) := by unfold cent; rw [h]; rfl
theorem cePaper {E : cE} {i : Nat} {f : Int → Int} {g : Int → Nat} (h : ckd i = 1) : cent E i f g = .inr (1, [.ref (E.1 (i + 1)), iV (f 1)]) := by unfold cent; rw [h]; rfl
theorem cePuzzle {E : cE} {i : Nat} {f : Int → Int} {g : Int → Nat} (h : ckd i = 2) : cent E i f g = .inr (2, [iV (f 0), iV (f 1), iV (f 2), .ref (E.1 (i + 1)), .ref (E.1 (i + 2)), iV (f 5), .ref (E.1 (i + 3))]) := by unfold cent; rw [h]; rfl
theorem ceReader {E : cE} {i : Nat} {f : Int → Int} {g : Int → Nat} (h : ckd i = 3) : cent E i f g = .inr (3, [iV (f 0), iV (f 1), .ref (E.1 (i + 1)), iV (f 3)]) := by unfold cent; rw [h]; rfl
theorem ceReasoner {E : cE} {i : Nat} {f : Int → Int} {g : Int → Nat} (h : ckd i = 4) : cent E i f g = .inr (4, [.ref (E.1 (i + 1)), iV (f 1), iV (f 2), iV (f 3), iV (f 4), iV (f 5), iV (f 6), .ref (E.1 (i + 2))]) := by unfold cent; rw [h]; rfl
theorem ceRule {E : cE} {i : Nat} {f : Int → Int} {g : Int → Nat} (h : ckd i = 5) : cent E i f g = .inr (5, [.ref (E.2.1 0 (g 0)), iV (f 1), iV (f 2), iV (f 3), .ref (E.1 (i + 130)), iV (f 5)]) := by unfold cent; rw [h]; rfl
theorem ceSearch {E : cE} {i : Nat} {f : Int → Int} {g : Int → Nat} (h : ckd i = 6) : cent E i f g = .inr (6, [.ref (E.1 (i + 1)), iV (f 1), iV (f 2), .ref (E.1 (i + 2)), .ref (E.1 (i + 3)), .ref (E.1 (i + 4)), iV (f 6), iV (f 7), iV (f 8)]) := by unfold cent; rw [h]; rfl
theorem ceTape {E : cE} {i : Nat} {f : Int → Int} {g : Int → Nat} (h : ckd i = 7) : cent E i f g = .inr (7, [iV (f 0), .ref (E.1 (i + 1))]) := by unfold cent; rw [h]; rfl
theorem ceTokens {E : cE} {i : Nat} {f : Int → Int} {g : Int → Nat} (h : ckd i = 8) : cent E i f g = .inr (8, [iV (f 0), .ref (E.1 (i + 1)), .ref (E.1 (i + 2)), .ref (E.1 (i + 3))]) := by unfold cent; rw [h]; rfl
theorem ceMill {E : cE} {i : Nat} {f : Int → Int} {g : Int → Nat} (h : ckd i = 9) : cent E i f g = .inr (9, [.ref (E.1 1), .ref (E.1 3), .ref (E.1 8), .ref (E.1 10), .ref (E.1 45), .ref (E.1 80), .ref (E.1 83), .ref (E.1 (g 7)), .ref (E.1 (g 8))]) := by unfold cent; rw [h]; rfl
theorem ceRow {E : cE} {i : Nat} {f : Int → Int} {g : Int → Nat} {n : Nat} (h : isA n i) : cent E i f g = iA E n f := by
  unfold cent
  rw [h.1]
  show iA E (cln i) f = _
  rw [h.2.1]
theorem ceRules {E : cE} {i : Nat} {f : Int → Int} {g : Int → Nat} (h : ckd i = 12) : cent E i f g = rA E (yR E) 65 g := by unfold cent; rw [h]; rfl
theorem ceSols {E : cE} {i : Nat} {f : Int → Int} {g : Int → Nat} (h : ckd i = 13) : cent E i f g = rA E (yA E) 30 (fun j => i + 4 + j.toNat) := by unfold cent; rw [h]; rfl
theorem cef_neI {E : cE} {I : cI} {R : cR} {a : Nat} {x v : Int} : ∀ j, j ≠ a → cef E (up2 I a x v, R) j = cef E (I, R) j := fun j h => by
  show cent E j (up2 I a x v j) (R j) = cent E j (I j) (R j)
  rw [up2_ne h]
theorem cef_neR {E : cE} {I : cI} {R : cR} {a : Nat} {x : Int} {v : Nat} : ∀ j, j ≠ a → cef E (I, up2 R a x v) j = cef E (I, R) j := fun j h => by
  show cent E j (I j) (up2 R a x v j) = cent E j (I j) (R j)
  rw [up2_ne h]
/-- every number is one of the machine's; references are of their kind -/
def cM (I : cI) (R : cR) : Prop := (∀ a x, inR (I a x)) ∧ isP (R 0 7) ∧ isP (R 0 8) ∧ (∀ p, isP p → ∀ j : Int, 0 ≤ j ∧ j < 65 → isR (R (p + 2) j)) ∧ ∀ r, isR r → R r 0 < 12
theorem cM_I {I I' : cI} {R : cR} {a : Nat} {x v : Int} (h : cM I R) (e : I' = up2 I a x v) (hv : inR v) : cM I' R := by
  refine ⟨fun b y => ?_, h.2⟩
  rw [e]
  unfold up2
  by_cases q : b = a ∧ y = x
  · rw [if_pos q]; exact hv
  · rw [if_neg q]; exact h.1 b y
theorem cM_kind {I : cI} {R R' : cR} {r j : Nat} (h : cM I R) (hr : isR r) (e : R' = up2 R r 0 j) (hj : j < 12) : cM I R' := by
  subst e
  unfold isR at hr
  refine ⟨h.1, ?_, ?_, fun p hp i hi => ?_, fun q hq => ?_⟩
  · rw [up2_ne (by omega)]; exact h.2.1
  · rw [up2_ne (by omega)]; exact h.2.2.1
  · rw [up2_ne (by rcases hp with rfl | rfl <;> omega)]; exact h.2.2.2.1 p hp i hi
  · unfold up2
    by_cases q2 : q = r ∧ (0 : Int) = 0
    · rw [if_pos q2]; exact hj
    · rw [if_neg q2]; exact h.2.2.2.2 q hq
theorem cM_rules {I : cI} {R R' : cR} {p r : Nat} {x : Int} (h : cM I R) (hp : isP p) (hr : isR r) (e : R' = up2 R (p + 2) x r) : cM I R' := by
  subst e
  refine ⟨h.1, ?_, ?_, fun q hq i hi => ?_, fun q hq => ?_⟩
  · rw [up2_ne (by rcases hp with rfl | rfl <;> omega)]; exact h.2.1
  · rw [up2_ne (by rcases hp with rfl | rfl <;> omega)]; exact h.2.2.1
  · unfold up2
    by_cases q2 : q + 2 = p + 2 ∧ i = x
    · rw [if_pos q2]; exact hr
    · rw [if_neg q2]; exact h.2.2.2.1 q hq i hi
  · have hq' := hq
    unfold isR at hq'
    rw [up2_ne (by rcases hp with rfl | rfl <;> omega)]; exact h.2.2.2.2 q hq
theorem cM_puz {I : cI} {R R' : cR} {p : Nat} {x : Int} (h : cM I R) (hp : isP p) (hx : x = 7 ∨ x = 8) (e : R' = up2 R 0 x p) : cM I R' := by
  subst e
  refine ⟨h.1, ?_, ?_, fun q hq i hi => ?_, fun q hq => ?_⟩
  · unfold up2
    by_cases q2 : 0 = 0 ∧ (7 : Int) = x
    · rw [if_pos q2]; exact hp
    · rw [if_neg q2]; exact h.2.1
  · unfold up2
    by_cases q2 : 0 = 0 ∧ (8 : Int) = x
    · rw [if_pos q2]; exact hp
    · rw [if_neg q2]; exact h.2.2.1
  · rw [up2_ne (by omega)]; exact h.2.2.2.1 q hq i hi
  · have hq' := hq
    unfold isR at hq'
    rw [up2_ne (by omega)]; exact h.2.2.2.2 q hq
/-- what comes back: a number, nothing, a rule, a long -/
def pI (Q : Int → cI → cR → Prop) : Option Value → cI × cR → Prop := fun v u => ∃ x, v = some (iV x) ∧ inR x ∧ cM u.1 u.2 ∧ Q x u.1 u.2
def pV (Q : cI → cR → Prop) : Option Value → cI × cR → Prop := fun v u => v = none ∧ cM u.1 u.2 ∧ Q u.1 u.2
def pR (E : cE) (Q : Nat → cI → cR → Prop) : Option Value → cI × cR → Prop := fun v u => ∃ r, v = some (.ref (E.1 r)) ∧ isR r ∧ cM u.1 u.2 ∧ Q r u.1 u.2
def pJ (Q : Int → cI → cR → Prop) : Option Value → cI × cR → Prop := fun v u => ∃ x, v = some (jV x) ∧ cM u.1 u.2 ∧ Q x u.1 u.2
/-- what is thrown -/
def xN : List String := ["java/lang/IllegalStateException", "java/lang/IllegalArgumentException", "java/lang/IndexOutOfBoundsException"]
def pX (Q : Nat → cI → cR → Prop) : String → cI × cR → Prop := fun c u => ∃ k, k < 3 ∧ c = xN.getD k "" ∧ cM u.1 u.2 ∧ Q k u.1 u.2
theorem ex1 {α : Sort _} (x : α) : ∃ y, y = x := ⟨x, rfl⟩
def rmK (k mc ms : Nat) : Room := { frames := k, cells := mc, slots := ms, locals := 60 * k }
theorem rmK_le {k k' mc ms mc' ms' n : Nat} {R : Room} (hR : R = rmK k' mc' ms') (h : k + 1 ≤ k') (hn : n ≤ 41) : (rmK k mc ms).frames + 1 ≤ R.frames ∧ 8 + (n + 11) + (rmK k mc ms).locals ≤ R.locals := by
  subst hR
  refine ⟨h, ?_⟩
  show 8 + (n + 11) + 60 * k ≤ 60 * k'
  omega
theorem rmK_cs {k mc ms nc ns a b : Nat} {R : Room} (hR : R = rmK k mc ms) (h1 : nc + a ≤ mc) (h2 : ns + b ≤ ms) : nc + a ≤ R.cells ∧ ns + b ≤ R.slots := by
  subst hR
  exact ⟨h1, h2⟩

section THINGS
variable {X : xC} {E : cE} {own : String} {cc : ByteArray} {Ts : List Cond} {nc ns pc index : Nat} {lv lv' : List (Nat × Value)} {st : List Value} {T : va_W} {a : Nat} {I I' : cI} {R R' : cR}
theorem t_g_Maker_firstValues (F : mF X E own cc Ts) (hk : ckd a = 0 ∧ a < 353) (hin : ∀ w ∈ wsX20, w ∈ Ts) (hl : Cond.fieldLink own index "RiddleMill$Maker" "firstValues" "[I" ∈ Ts) (b : Nat) (hb : a + 1 = b) (hd : decode cc pc = .ok (.getfield index, 3)) (kk : cW X nc ns (pc + 3) lv (.ref (E.1 b) :: st) (gw E.1 cIds (cef E (I, R)) ++ T)) : cW X nc ns pc lv (.ref (E.1 a) :: st) (gw E.1 cIds (cef E (I, R)) ++ T) := by
  subst hb
  exact g_get F (cIds_in hk.2) (ceMaker hk.1) (ci := 0) rfl hin 0 (by decide) hl rfl rfl hd kk
theorem t_g_Maker_seed (F : mF X E own cc Ts) (hk : ckd a = 0 ∧ a < 353) (hin : ∀ w ∈ wsX20, w ∈ Ts) (hl : Cond.fieldLink own index "RiddleMill$Maker" "seed" "I" ∈ Ts) (hd : decode cc pc = .ok (.getfield index, 3)) (kk : cW X nc ns (pc + 3) lv (iV (I a 1) :: st) (gw E.1 cIds (cef E (I, R)) ++ T)) : cW X nc ns pc lv (.ref (E.1 a) :: st) (gw E.1 cIds (cef E (I, R)) ++ T) := by
  exact g_get F (cIds_in hk.2) (ceMaker hk.1) (ci := 0) rfl hin 1 (by decide) hl rfl rfl hd kk
theorem t_p_Maker_seed (F : mF X E own cc Ts) (hk : ckd a = 0 ∧ a < 353) (hin : ∀ w ∈ wsX20, w ∈ Ts) (hl : Cond.fieldLink own index "RiddleMill$Maker" "seed" "I" ∈ Ts) {v : Int} (hI : I' = up2 I a 1 v) (hd : decode cc pc = .ok (.putfield index, 3)) (kk : cW X nc ns (pc + 3) lv st (gw E.1 cIds (cef E (I', R)) ++ T)) : cW X nc ns pc lv (iV v :: .ref (E.1 a) :: st) (gw E.1 cIds (cef E (I, R)) ++ T) := by
  subst hI
  refine g_put F cIds_nd (cIds_in hk.2) (ceMaker hk.1) (ci := 0) rfl hin tyX2 tyX2_ok nmX2 1 (by decide) hl rfl rfl (ty := .int) rfl rfl rfl (Nat.le_of_ble_eq_true rfl) ?_ cef_neI hd kk
  rw [cef, ceMaker hk.1]
  simp [up2_at]
theorem t_g_Paper_bytes (F : mF X E own cc Ts) (hk : ckd a = 1 ∧ a < 353) (hin : ∀ w ∈ wsX30, w ∈ Ts) (hl : Cond.fieldLink own index "RiddleMill$Paper" "bytes" "[I" ∈ Ts) (b : Nat) (hb : a + 1 = b) (hd : decode cc pc = .ok (.getfield index, 3)) (kk : cW X nc ns (pc + 3) lv (.ref (E.1 b) :: st) (gw E.1 cIds (cef E (I, R)) ++ T)) : cW X nc ns pc lv (.ref (E.1 a) :: st) (gw E.1 cIds (cef E (I, R)) ++ T) := by
  subst hb
  exact g_get F (cIds_in hk.2) (cePaper hk.1) (ci := 1) rfl hin 0 (by decide) hl rfl rfl hd kk
theorem t_g_Paper_length (F : mF X E own cc Ts) (hk : ckd a = 1 ∧ a < 353) (hin : ∀ w ∈ wsX30, w ∈ Ts) (hl : Cond.fieldLink own index "RiddleMill$Paper" "length" "I" ∈ Ts) (hd : decode cc pc = .ok (.getfield index, 3)) (kk : cW X nc ns (pc + 3) lv (iV (I a 1) :: st) (gw E.1 cIds (cef E (I, R)) ++ T)) : cW X nc ns pc lv (.ref (E.1 a) :: st) (gw E.1 cIds (cef E (I, R)) ++ T) := by
  exact g_get F (cIds_in hk.2) (cePaper hk.1) (ci := 1) rfl hin 1 (by decide) hl rfl rfl hd kk
theorem t_p_Paper_length (F : mF X E own cc Ts) (hk : ckd a = 1 ∧ a < 353) (hin : ∀ w ∈ wsX30, w ∈ Ts) (hl : Cond.fieldLink own index "RiddleMill$Paper" "length" "I" ∈ Ts) {v : Int} (hI : I' = up2 I a 1 v) (hd : decode cc pc = .ok (.putfield index, 3)) (kk : cW X nc ns (pc + 3) lv st (gw E.1 cIds (cef E (I', R)) ++ T)) : cW X nc ns pc lv (iV v :: .ref (E.1 a) :: st) (gw E.1 cIds (cef E (I, R)) ++ T) := by
  subst hI
  refine g_put F cIds_nd (cIds_in hk.2) (cePaper hk.1) (ci := 1) rfl hin tyX3 tyX3_ok nmX3 1 (by decide) hl rfl rfl (ty := .int) rfl rfl rfl (Nat.le_of_ble_eq_true rfl) ?_ cef_neI hd kk
  rw [cef, cePaper hk.1]
  simp [up2_at]
theorem t_g_Puzzle_columns (F : mF X E own cc Ts) (hk : ckd a = 2 ∧ a < 353) (hin : ∀ w ∈ wsX40, w ∈ Ts) (hl : Cond.fieldLink own index "RiddleMill$Puzzle" "columns" "I" ∈ Ts) (hd : decode cc pc = .ok (.getfield index, 3)) (kk : cW X nc ns (pc + 3) lv (iV (I a 0) :: st) (gw E.1 cIds (cef E (I, R)) ++ T)) : cW X nc ns pc lv (.ref (E.1 a) :: st) (gw E.1 cIds (cef E (I, R)) ++ T) := by
  exact g_get F (cIds_in hk.2) (cePuzzle hk.1) (ci := 2) rfl hin 0 (by decide) hl rfl rfl hd kk
theorem t_p_Puzzle_columns (F : mF X E own cc Ts) (hk : ckd a = 2 ∧ a < 353) (hin : ∀ w ∈ wsX40, w ∈ Ts) (hl : Cond.fieldLink own index "RiddleMill$Puzzle" "columns" "I" ∈ Ts) {v : Int} (hI : I' = up2 I a 0 v) (hd : decode cc pc = .ok (.putfield index, 3)) (kk : cW X nc ns (pc + 3) lv st (gw E.1 cIds (cef E (I', R)) ++ T)) : cW X nc ns pc lv (iV v :: .ref (E.1 a) :: st) (gw E.1 cIds (cef E (I, R)) ++ T) := by
  subst hI
  refine g_put F cIds_nd (cIds_in hk.2) (cePuzzle hk.1) (ci := 2) rfl hin tyX4 tyX4_ok nmX4 0 (by decide) hl rfl rfl (ty := .int) rfl rfl rfl (Nat.le_of_ble_eq_true rfl) ?_ cef_neI hd kk
  rw [cef, cePuzzle hk.1]
  simp [up2_at]
theorem t_g_Puzzle_rows (F : mF X E own cc Ts) (hk : ckd a = 2 ∧ a < 353) (hin : ∀ w ∈ wsX40, w ∈ Ts) (hl : Cond.fieldLink own index "RiddleMill$Puzzle" "rows" "I" ∈ Ts) (hd : decode cc pc = .ok (.getfield index, 3)) (kk : cW X nc ns (pc + 3) lv (iV (I a 1) :: st) (gw E.1 cIds (cef E (I, R)) ++ T)) : cW X nc ns pc lv (.ref (E.1 a) :: st) (gw E.1 cIds (cef E (I, R)) ++ T) := by
  exact g_get F (cIds_in hk.2) (cePuzzle hk.1) (ci := 2) rfl hin 1 (by decide) hl rfl rfl hd kk
theorem t_p_Puzzle_rows (F : mF X E own cc Ts) (hk : ckd a = 2 ∧ a < 353) (hin : ∀ w ∈ wsX40, w ∈ Ts) (hl : Cond.fieldLink own index "RiddleMill$Puzzle" "rows" "I" ∈ Ts) {v : Int} (hI : I' = up2 I a 1 v) (hd : decode cc pc = .ok (.putfield index, 3)) (kk : cW X nc ns (pc + 3) lv st (gw E.1 cIds (cef E (I', R)) ++ T)) : cW X nc ns pc lv (iV v :: .ref (E.1 a) :: st) (gw E.1 cIds (cef E (I, R)) ++ T) := by
  subst hI
  refine g_put F cIds_nd (cIds_in hk.2) (cePuzzle hk.1) (ci := 2) rfl hin tyX4 tyX4_ok nmX4 1 (by decide) hl rfl rfl (ty := .int) rfl rfl rfl (Nat.le_of_ble_eq_true rfl) ?_ cef_neI hd kk
  rw [cef, cePuzzle hk.1]
  simp [up2_at]
theorem t_g_Puzzle_highest (F : mF X E own cc Ts) (hk : ckd a = 2 ∧ a < 353) (hin : ∀ w ∈ wsX40, w ∈ Ts) (hl : Cond.fieldLink own index "RiddleMill$Puzzle" "highest" "I" ∈ Ts) (hd : decode cc pc = .ok (.getfield index, 3)) (kk : cW X nc ns (pc + 3) lv (iV (I a 2) :: st) (gw E.1 cIds (cef E (I, R)) ++ T)) : cW X nc ns pc lv (.ref (E.1 a) :: st) (gw E.1 cIds (cef E (I, R)) ++ T) := by
  exact g_get F (cIds_in hk.2) (cePuzzle hk.1) (ci := 2) rfl hin 2 (by decide) hl rfl rfl hd kk
theorem t_p_Puzzle_highest (F : mF X E own cc Ts) (hk : ckd a = 2 ∧ a < 353) (hin : ∀ w ∈ wsX40, w ∈ Ts) (hl : Cond.fieldLink own index "RiddleMill$Puzzle" "highest" "I" ∈ Ts) {v : Int} (hI : I' = up2 I a 2 v) (hd : decode cc pc = .ok (.putfield index, 3)) (kk : cW X nc ns (pc + 3) lv st (gw E.1 cIds (cef E (I', R)) ++ T)) : cW X nc ns pc lv (iV v :: .ref (E.1 a) :: st) (gw E.1 cIds (cef E (I, R)) ++ T) := by
  subst hI
  refine g_put F cIds_nd (cIds_in hk.2) (cePuzzle hk.1) (ci := 2) rfl hin tyX4 tyX4_ok nmX4 2 (by decide) hl rfl rfl (ty := .int) rfl rfl rfl (Nat.le_of_ble_eq_true rfl) ?_ cef_neI hd kk
  rw [cef, cePuzzle hk.1]
  simp [up2_at]
theorem t_g_Puzzle_grid (F : mF X E own cc Ts) (hk : ckd a = 2 ∧ a < 353) (hin : ∀ w ∈ wsX40, w ∈ Ts) (hl : Cond.fieldLink own index "RiddleMill$Puzzle" "grid" "[I" ∈ Ts) (b : Nat) (hb : a + 1 = b) (hd : decode cc pc = .ok (.getfield index, 3)) (kk : cW X nc ns (pc + 3) lv (.ref (E.1 b) :: st) (gw E.1 cIds (cef E (I, R)) ++ T)) : cW X nc ns pc lv (.ref (E.1 a) :: st) (gw E.1 cIds (cef E (I, R)) ++ T) := by
  subst hb
  exact g_get F (cIds_in hk.2) (cePuzzle hk.1) (ci := 2) rfl hin 3 (by decide) hl rfl rfl hd kk
theorem t_g_Puzzle_rules (F : mF X E own cc Ts) (hk : ckd a = 2 ∧ a < 353) (hin : ∀ w ∈ wsX40, w ∈ Ts) (hl : Cond.fieldLink own index "RiddleMill$Puzzle" "rules" "[LRiddleMill$Rule;" ∈ Ts) (b : Nat) (hb : a + 2 = b) (hd : decode cc pc = .ok (.getfield index, 3)) (kk : cW X nc ns (pc + 3) lv (.ref (E.1 b) :: st) (gw E.1 cIds (cef E (I, R)) ++ T)) : cW X nc ns pc lv (.ref (E.1 a) :: st) (gw E.1 cIds (cef E (I, R)) ++ T) := by
  subst hb
  exact g_get F (cIds_in hk.2) (cePuzzle hk.1) (ci := 2) rfl hin 4 (by decide) hl rfl rfl hd kk
theorem t_g_Puzzle_ruleCount (F : mF X E own cc Ts) (hk : ckd a = 2 ∧ a < 353) (hin : ∀ w ∈ wsX40, w ∈ Ts) (hl : Cond.fieldLink own index "RiddleMill$Puzzle" "ruleCount" "I" ∈ Ts) (hd : decode cc pc = .ok (.getfield index, 3)) (kk : cW X nc ns (pc + 3) lv (iV (I a 5) :: st) (gw E.1 cIds (cef E (I, R)) ++ T)) : cW X nc ns pc lv (.ref (E.1 a) :: st) (gw E.1 cIds (cef E (I, R)) ++ T) := by
  exact g_get F (cIds_in hk.2) (cePuzzle hk.1) (ci := 2) rfl hin 5 (by decide) hl rfl rfl hd kk
theorem t_p_Puzzle_ruleCount (F : mF X E own cc Ts) (hk : ckd a = 2 ∧ a < 353) (hin : ∀ w ∈ wsX40, w ∈ Ts) (hl : Cond.fieldLink own index "RiddleMill$Puzzle" "ruleCount" "I" ∈ Ts) {v : Int} (hI : I' = up2 I a 5 v) (hd : decode cc pc = .ok (.putfield index, 3)) (kk : cW X nc ns (pc + 3) lv st (gw E.1 cIds (cef E (I', R)) ++ T)) : cW X nc ns pc lv (iV v :: .ref (E.1 a) :: st) (gw E.1 cIds (cef E (I, R)) ++ T) := by
  subst hI
  refine g_put F cIds_nd (cIds_in hk.2) (cePuzzle hk.1) (ci := 2) rfl hin tyX4 tyX4_ok nmX4 5 (by decide) hl rfl rfl (ty := .int) rfl rfl rfl (Nat.le_of_ble_eq_true rfl) ?_ cef_neI hd kk
  rw [cef, cePuzzle hk.1]
  simp [up2_at]
theorem t_g_Puzzle_places (F : mF X E own cc Ts) (hk : ckd a = 2 ∧ a < 353) (hin : ∀ w ∈ wsX40, w ∈ Ts) (hl : Cond.fieldLink own index "RiddleMill$Puzzle" "places" "[I" ∈ Ts) (b : Nat) (hb : a + 3 = b) (hd : decode cc pc = .ok (.getfield index, 3)) (kk : cW X nc ns (pc + 3) lv (.ref (E.1 b) :: st) (gw E.1 cIds (cef E (I, R)) ++ T)) : cW X nc ns pc lv (.ref (E.1 a) :: st) (gw E.1 cIds (cef E (I, R)) ++ T) := by
  subst hb
  exact g_get F (cIds_in hk.2) (cePuzzle hk.1) (ci := 2) rfl hin 6 (by decide) hl rfl rfl hd kk
theorem t_g_Reader_error (F : mF X E own cc Ts) (hk : ckd a = 3 ∧ a < 353) (hin : ∀ w ∈ wsX50, w ∈ Ts) (hl : Cond.fieldLink own index "RiddleMill$PuzzleReader" "error" "I" ∈ Ts) (hd : decode cc pc = .ok (.getfield index, 3)) (kk : cW X nc ns (pc + 3) lv (iV (I a 0) :: st) (gw E.1 cIds (cef E (I, R)) ++ T)) : cW X nc ns pc lv (.ref (E.1 a) :: st) (gw E.1 cIds (cef E (I, R)) ++ T) := by
  exact g_get F (cIds_in hk.2) (ceReader hk.1) (ci := 3) rfl hin 0 (by decide) hl rfl rfl hd kk
theorem t_p_Reader_error (F : mF X E own cc Ts) (hk : ckd a = 3 ∧ a < 353) (hin : ∀ w ∈ wsX50, w ∈ Ts) (hl : Cond.fieldLink own index "RiddleMill$PuzzleReader" "error" "I" ∈ Ts) {v : Int} (hI : I' = up2 I a 0 v) (hd : decode cc pc = .ok (.putfield index, 3)) (kk : cW X nc ns (pc + 3) lv st (gw E.1 cIds (cef E (I', R)) ++ T)) : cW X nc ns pc lv (iV v :: .ref (E.1 a) :: st) (gw E.1 cIds (cef E (I, R)) ++ T) := by
  subst hI
  refine g_put F cIds_nd (cIds_in hk.2) (ceReader hk.1) (ci := 3) rfl hin tyX5 tyX5_ok nmX5 0 (by decide) hl rfl rfl (ty := .int) rfl rfl rfl (Nat.le_of_ble_eq_true rfl) ?_ cef_neI hd kk
  rw [cef, ceReader hk.1]
  simp [up2_at]
theorem t_g_Reader_errorAt (F : mF X E own cc Ts) (hk : ckd a = 3 ∧ a < 353) (hin : ∀ w ∈ wsX50, w ∈ Ts) (hl : Cond.fieldLink own index "RiddleMill$PuzzleReader" "errorAt" "I" ∈ Ts) (hd : decode cc pc = .ok (.getfield index, 3)) (kk : cW X nc ns (pc + 3) lv (iV (I a 1) :: st) (gw E.1 cIds (cef E (I, R)) ++ T)) : cW X nc ns pc lv (.ref (E.1 a) :: st) (gw E.1 cIds (cef E (I, R)) ++ T) := by
  exact g_get F (cIds_in hk.2) (ceReader hk.1) (ci := 3) rfl hin 1 (by decide) hl rfl rfl hd kk
theorem t_p_Reader_errorAt (F : mF X E own cc Ts) (hk : ckd a = 3 ∧ a < 353) (hin : ∀ w ∈ wsX50, w ∈ Ts) (hl : Cond.fieldLink own index "RiddleMill$PuzzleReader" "errorAt" "I" ∈ Ts) {v : Int} (hI : I' = up2 I a 1 v) (hd : decode cc pc = .ok (.putfield index, 3)) (kk : cW X nc ns (pc + 3) lv st (gw E.1 cIds (cef E (I', R)) ++ T)) : cW X nc ns pc lv (iV v :: .ref (E.1 a) :: st) (gw E.1 cIds (cef E (I, R)) ++ T) := by
  subst hI
  refine g_put F cIds_nd (cIds_in hk.2) (ceReader hk.1) (ci := 3) rfl hin tyX5 tyX5_ok nmX5 1 (by decide) hl rfl rfl (ty := .int) rfl rfl rfl (Nat.le_of_ble_eq_true rfl) ?_ cef_neI hd kk
  rw [cef, ceReader hk.1]
  simp [up2_at]
theorem t_g_Reader_tokens (F : mF X E own cc Ts) (hk : ckd a = 3 ∧ a < 353) (hin : ∀ w ∈ wsX50, w ∈ Ts) (hl : Cond.fieldLink own index "RiddleMill$PuzzleReader" "tokens" "LRiddleMill$Tokens;" ∈ Ts) (b : Nat) (hb : a + 1 = b) (hd : decode cc pc = .ok (.getfield index, 3)) (kk : cW X nc ns (pc + 3) lv (.ref (E.1 b) :: st) (gw E.1 cIds (cef E (I, R)) ++ T)) : cW X nc ns pc lv (.ref (E.1 a) :: st) (gw E.1 cIds (cef E (I, R)) ++ T) := by
  subst hb
  exact g_get F (cIds_in hk.2) (ceReader hk.1) (ci := 3) rfl hin 2 (by decide) hl rfl rfl hd kk
theorem t_g_Reader_place (F : mF X E own cc Ts) (hk : ckd a = 3 ∧ a < 353) (hin : ∀ w ∈ wsX50, w ∈ Ts) (hl : Cond.fieldLink own index "RiddleMill$PuzzleReader" "place" "I" ∈ Ts) (hd : decode cc pc = .ok (.getfield index, 3)) (kk : cW X nc ns (pc + 3) lv (iV (I a 3) :: st) (gw E.1 cIds (cef E (I, R)) ++ T)) : cW X nc ns pc lv (.ref (E.1 a) :: st) (gw E.1 cIds (cef E (I, R)) ++ T) := by
  exact g_get F (cIds_in hk.2) (ceReader hk.1) (ci := 3) rfl hin 3 (by decide) hl rfl rfl hd kk
theorem t_p_Reader_place (F : mF X E own cc Ts) (hk : ckd a = 3 ∧ a < 353) (hin : ∀ w ∈ wsX50, w ∈ Ts) (hl : Cond.fieldLink own index "RiddleMill$PuzzleReader" "place" "I" ∈ Ts) {v : Int} (hI : I' = up2 I a 3 v) (hd : decode cc pc = .ok (.putfield index, 3)) (kk : cW X nc ns (pc + 3) lv st (gw E.1 cIds (cef E (I', R)) ++ T)) : cW X nc ns pc lv (iV v :: .ref (E.1 a) :: st) (gw E.1 cIds (cef E (I, R)) ++ T) := by
  subst hI
  refine g_put F cIds_nd (cIds_in hk.2) (ceReader hk.1) (ci := 3) rfl hin tyX5 tyX5_ok nmX5 3 (by decide) hl rfl rfl (ty := .int) rfl rfl rfl (Nat.le_of_ble_eq_true rfl) ?_ cef_neI hd kk
  rw [cef, ceReader hk.1]
  simp [up2_at]
theorem t_g_Reasoner_sets (F : mF X E own cc Ts) (hk : ckd a = 4 ∧ a < 353) (hin : ∀ w ∈ wsX60, w ∈ Ts) (hl : Cond.fieldLink own index "RiddleMill$Reasoner" "sets" "[I" ∈ Ts) (b : Nat) (hb : a + 1 = b) (hd : decode cc pc = .ok (.getfield index, 3)) (kk : cW X nc ns (pc + 3) lv (.ref (E.1 b) :: st) (gw E.1 cIds (cef E (I, R)) ++ T)) : cW X nc ns pc lv (.ref (E.1 a) :: st) (gw E.1 cIds (cef E (I, R)) ++ T) := by
  subst hb
  exact g_get F (cIds_in hk.2) (ceReasoner hk.1) (ci := 4) rfl hin 0 (by decide) hl rfl rfl hd kk
theorem t_g_Reasoner_passes (F : mF X E own cc Ts) (hk : ckd a = 4 ∧ a < 353) (hin : ∀ w ∈ wsX60, w ∈ Ts) (hl : Cond.fieldLink own index "RiddleMill$Reasoner" "passes" "I" ∈ Ts) (hd : decode cc pc = .ok (.getfield index, 3)) (kk : cW X nc ns (pc + 3) lv (iV (I a 1) :: st) (gw E.1 cIds (cef E (I, R)) ++ T)) : cW X nc ns pc lv (.ref (E.1 a) :: st) (gw E.1 cIds (cef E (I, R)) ++ T) := by
  exact g_get F (cIds_in hk.2) (ceReasoner hk.1) (ci := 4) rfl hin 1 (by decide) hl rfl rfl hd kk
theorem t_p_Reasoner_passes (F : mF X E own cc Ts) (hk : ckd a = 4 ∧ a < 353) (hin : ∀ w ∈ wsX60, w ∈ Ts) (hl : Cond.fieldLink own index "RiddleMill$Reasoner" "passes" "I" ∈ Ts) {v : Int} (hI : I' = up2 I a 1 v) (hd : decode cc pc = .ok (.putfield index, 3)) (kk : cW X nc ns (pc + 3) lv st (gw E.1 cIds (cef E (I', R)) ++ T)) : cW X nc ns pc lv (iV v :: .ref (E.1 a) :: st) (gw E.1 cIds (cef E (I, R)) ++ T) := by
  subst hI
  refine g_put F cIds_nd (cIds_in hk.2) (ceReasoner hk.1) (ci := 4) rfl hin tyX6 tyX6_ok nmX6 1 (by decide) hl rfl rfl (ty := .int) rfl rfl rfl (Nat.le_of_ble_eq_true rfl) ?_ cef_neI hd kk
  rw [cef, ceReasoner hk.1]
  simp [up2_at]
theorem t_g_Reasoner_greatestGrade (F : mF X E own cc Ts) (hk : ckd a = 4 ∧ a < 353) (hin : ∀ w ∈ wsX60, w ∈ Ts) (hl : Cond.fieldLink own index "RiddleMill$Reasoner" "greatestGrade" "I" ∈ Ts) (hd : decode cc pc = .ok (.getfield index, 3)) (kk : cW X nc ns (pc + 3) lv (iV (I a 2) :: st) (gw E.1 cIds (cef E (I, R)) ++ T)) : cW X nc ns pc lv (.ref (E.1 a) :: st) (gw E.1 cIds (cef E (I, R)) ++ T) := by
  exact g_get F (cIds_in hk.2) (ceReasoner hk.1) (ci := 4) rfl hin 2 (by decide) hl rfl rfl hd kk
theorem t_p_Reasoner_greatestGrade (F : mF X E own cc Ts) (hk : ckd a = 4 ∧ a < 353) (hin : ∀ w ∈ wsX60, w ∈ Ts) (hl : Cond.fieldLink own index "RiddleMill$Reasoner" "greatestGrade" "I" ∈ Ts) {v : Int} (hI : I' = up2 I a 2 v) (hd : decode cc pc = .ok (.putfield index, 3)) (kk : cW X nc ns (pc + 3) lv st (gw E.1 cIds (cef E (I', R)) ++ T)) : cW X nc ns pc lv (iV v :: .ref (E.1 a) :: st) (gw E.1 cIds (cef E (I, R)) ++ T) := by
  subst hI
  refine g_put F cIds_nd (cIds_in hk.2) (ceReasoner hk.1) (ci := 4) rfl hin tyX6 tyX6_ok nmX6 2 (by decide) hl rfl rfl (ty := .int) rfl rfl rfl (Nat.le_of_ble_eq_true rfl) ?_ cef_neI hd kk
  rw [cef, ceReasoner hk.1]
  simp [up2_at]
theorem t_g_Reasoner_firstRule (F : mF X E own cc Ts) (hk : ckd a = 4 ∧ a < 353) (hin : ∀ w ∈ wsX60, w ∈ Ts) (hl : Cond.fieldLink own index "RiddleMill$Reasoner" "firstRule" "I" ∈ Ts) (hd : decode cc pc = .ok (.getfield index, 3)) (kk : cW X nc ns (pc + 3) lv (iV (I a 3) :: st) (gw E.1 cIds (cef E (I, R)) ++ T)) : cW X nc ns pc lv (.ref (E.1 a) :: st) (gw E.1 cIds (cef E (I, R)) ++ T) := by
  exact g_get F (cIds_in hk.2) (ceReasoner hk.1) (ci := 4) rfl hin 3 (by decide) hl rfl rfl hd kk
theorem t_p_Reasoner_firstRule (F : mF X E own cc Ts) (hk : ckd a = 4 ∧ a < 353) (hin : ∀ w ∈ wsX60, w ∈ Ts) (hl : Cond.fieldLink own index "RiddleMill$Reasoner" "firstRule" "I" ∈ Ts) {v : Int} (hI : I' = up2 I a 3 v) (hd : decode cc pc = .ok (.putfield index, 3)) (kk : cW X nc ns (pc + 3) lv st (gw E.1 cIds (cef E (I', R)) ++ T)) : cW X nc ns pc lv (iV v :: .ref (E.1 a) :: st) (gw E.1 cIds (cef E (I, R)) ++ T) := by
  subst hI
  refine g_put F cIds_nd (cIds_in hk.2) (ceReasoner hk.1) (ci := 4) rfl hin tyX6 tyX6_ok nmX6 3 (by decide) hl rfl rfl (ty := .int) rfl rfl rfl (Nat.le_of_ble_eq_true rfl) ?_ cef_neI hd kk
  rw [cef, ceReasoner hk.1]
  simp [up2_at]
theorem t_g_Reasoner_firstCell (F : mF X E own cc Ts) (hk : ckd a = 4 ∧ a < 353) (hin : ∀ w ∈ wsX60, w ∈ Ts) (hl : Cond.fieldLink own index "RiddleMill$Reasoner" "firstCell" "I" ∈ Ts) (hd : decode cc pc = .ok (.getfield index, 3)) (kk : cW X nc ns (pc + 3) lv (iV (I a 4) :: st) (gw E.1 cIds (cef E (I, R)) ++ T)) : cW X nc ns pc lv (.ref (E.1 a) :: st) (gw E.1 cIds (cef E (I, R)) ++ T) := by
  exact g_get F (cIds_in hk.2) (ceReasoner hk.1) (ci := 4) rfl hin 4 (by decide) hl rfl rfl hd kk
theorem t_p_Reasoner_firstCell (F : mF X E own cc Ts) (hk : ckd a = 4 ∧ a < 353) (hin : ∀ w ∈ wsX60, w ∈ Ts) (hl : Cond.fieldLink own index "RiddleMill$Reasoner" "firstCell" "I" ∈ Ts) {v : Int} (hI : I' = up2 I a 4 v) (hd : decode cc pc = .ok (.putfield index, 3)) (kk : cW X nc ns (pc + 3) lv st (gw E.1 cIds (cef E (I', R)) ++ T)) : cW X nc ns pc lv (iV v :: .ref (E.1 a) :: st) (gw E.1 cIds (cef E (I, R)) ++ T) := by
  subst hI
  refine g_put F cIds_nd (cIds_in hk.2) (ceReasoner hk.1) (ci := 4) rfl hin tyX6 tyX6_ok nmX6 4 (by decide) hl rfl rfl (ty := .int) rfl rfl rfl (Nat.le_of_ble_eq_true rfl) ?_ cef_neI hd kk
  rw [cef, ceReasoner hk.1]
  simp [up2_at]
theorem t_g_Reasoner_firstValue (F : mF X E own cc Ts) (hk : ckd a = 4 ∧ a < 353) (hin : ∀ w ∈ wsX60, w ∈ Ts) (hl : Cond.fieldLink own index "RiddleMill$Reasoner" "firstValue" "I" ∈ Ts) (hd : decode cc pc = .ok (.getfield index, 3)) (kk : cW X nc ns (pc + 3) lv (iV (I a 5) :: st) (gw E.1 cIds (cef E (I, R)) ++ T)) : cW X nc ns pc lv (.ref (E.1 a) :: st) (gw E.1 cIds (cef E (I, R)) ++ T) := by
  exact g_get F (cIds_in hk.2) (ceReasoner hk.1) (ci := 4) rfl hin 5 (by decide) hl rfl rfl hd kk
theorem t_p_Reasoner_firstValue (F : mF X E own cc Ts) (hk : ckd a = 4 ∧ a < 353) (hin : ∀ w ∈ wsX60, w ∈ Ts) (hl : Cond.fieldLink own index "RiddleMill$Reasoner" "firstValue" "I" ∈ Ts) {v : Int} (hI : I' = up2 I a 5 v) (hd : decode cc pc = .ok (.putfield index, 3)) (kk : cW X nc ns (pc + 3) lv st (gw E.1 cIds (cef E (I', R)) ++ T)) : cW X nc ns pc lv (iV v :: .ref (E.1 a) :: st) (gw E.1 cIds (cef E (I, R)) ++ T) := by
  subst hI
  refine g_put F cIds_nd (cIds_in hk.2) (ceReasoner hk.1) (ci := 4) rfl hin tyX6 tyX6_ok nmX6 5 (by decide) hl rfl rfl (ty := .int) rfl rfl rfl (Nat.le_of_ble_eq_true rfl) ?_ cef_neI hd kk
  rw [cef, ceReasoner hk.1]
  simp [up2_at]
theorem t_g_Reasoner_firstGrade (F : mF X E own cc Ts) (hk : ckd a = 4 ∧ a < 353) (hin : ∀ w ∈ wsX60, w ∈ Ts) (hl : Cond.fieldLink own index "RiddleMill$Reasoner" "firstGrade" "I" ∈ Ts) (hd : decode cc pc = .ok (.getfield index, 3)) (kk : cW X nc ns (pc + 3) lv (iV (I a 6) :: st) (gw E.1 cIds (cef E (I, R)) ++ T)) : cW X nc ns pc lv (.ref (E.1 a) :: st) (gw E.1 cIds (cef E (I, R)) ++ T) := by
  exact g_get F (cIds_in hk.2) (ceReasoner hk.1) (ci := 4) rfl hin 6 (by decide) hl rfl rfl hd kk
theorem t_p_Reasoner_firstGrade (F : mF X E own cc Ts) (hk : ckd a = 4 ∧ a < 353) (hin : ∀ w ∈ wsX60, w ∈ Ts) (hl : Cond.fieldLink own index "RiddleMill$Reasoner" "firstGrade" "I" ∈ Ts) {v : Int} (hI : I' = up2 I a 6 v) (hd : decode cc pc = .ok (.putfield index, 3)) (kk : cW X nc ns (pc + 3) lv st (gw E.1 cIds (cef E (I', R)) ++ T)) : cW X nc ns pc lv (iV v :: .ref (E.1 a) :: st) (gw E.1 cIds (cef E (I, R)) ++ T) := by
  subst hI
  refine g_put F cIds_nd (cIds_in hk.2) (ceReasoner hk.1) (ci := 4) rfl hin tyX6 tyX6_ok nmX6 6 (by decide) hl rfl rfl (ty := .int) rfl rfl rfl (Nat.le_of_ble_eq_true rfl) ?_ cef_neI hd kk
  rw [cef, ceReasoner hk.1]
  simp [up2_at]
theorem t_g_Reasoner_values (F : mF X E own cc Ts) (hk : ckd a = 4 ∧ a < 353) (hin : ∀ w ∈ wsX60, w ∈ Ts) (hl : Cond.fieldLink own index "RiddleMill$Reasoner" "values" "[I" ∈ Ts) (b : Nat) (hb : a + 2 = b) (hd : decode cc pc = .ok (.getfield index, 3)) (kk : cW X nc ns (pc + 3) lv (.ref (E.1 b) :: st) (gw E.1 cIds (cef E (I, R)) ++ T)) : cW X nc ns pc lv (.ref (E.1 a) :: st) (gw E.1 cIds (cef E (I, R)) ++ T) := by
  subst hb
  exact g_get F (cIds_in hk.2) (ceReasoner hk.1) (ci := 4) rfl hin 7 (by decide) hl rfl rfl hd kk
theorem t_g_Rule_kind (F : mF X E own cc Ts) (hk : ckd a = 5 ∧ a < 353) (hin : ∀ w ∈ wsX70, w ∈ Ts) (hl : Cond.fieldLink own index "RiddleMill$Rule" "kind" "LRiddleMill$Kind;" ∈ Ts) (hd : decode cc pc = .ok (.getfield index, 3)) (kk : cW X nc ns (pc + 3) lv (.ref (E.2.1 0 (R a 0)) :: st) (gw E.1 cIds (cef E (I, R)) ++ T)) : cW X nc ns pc lv (.ref (E.1 a) :: st) (gw E.1 cIds (cef E (I, R)) ++ T) := by
  exact g_get F (cIds_in hk.2) (ceRule hk.1) (ci := 5) rfl hin 0 (by decide) hl rfl rfl hd kk
theorem t_p_Rule_kind (F : mF X E own cc Ts) (hk : ckd a = 5 ∧ a < 353) (hin : ∀ w ∈ wsX70, w ∈ Ts) (hl : Cond.fieldLink own index "RiddleMill$Rule" "kind" "LRiddleMill$Kind;" ∈ Ts) {v : Nat} (hR : R' = up2 R a 0 v) (hd : decode cc pc = .ok (.putfield index, 3)) (kk : cW X nc ns (pc + 3) lv st (gw E.1 cIds (cef E (I, R')) ++ T)) : cW X nc ns pc lv (.ref (E.2.1 0 v) :: .ref (E.1 a) :: st) (gw E.1 cIds (cef E (I, R)) ++ T) := by
  subst hR
  refine g_put F cIds_nd (cIds_in hk.2) (ceRule hk.1) (ci := 5) rfl hin tyX7 tyX7_ok nmX7 0 (by decide) hl rfl rfl (ty := .object "RiddleMill$Kind") rfl rfl rfl (Nat.le_of_ble_eq_true rfl) ?_ cef_neR hd kk
  rw [cef, ceRule hk.1]
  simp [up2_at]
theorem t_g_Rule_number (F : mF X E own cc Ts) (hk : ckd a = 5 ∧ a < 353) (hin : ∀ w ∈ wsX70, w ∈ Ts) (hl : Cond.fieldLink own index "RiddleMill$Rule" "number" "I" ∈ Ts) (hd : decode cc pc = .ok (.getfield index, 3)) (kk : cW X nc ns (pc + 3) lv (iV (I a 1) :: st) (gw E.1 cIds (cef E (I, R)) ++ T)) : cW X nc ns pc lv (.ref (E.1 a) :: st) (gw E.1 cIds (cef E (I, R)) ++ T) := by
  exact g_get F (cIds_in hk.2) (ceRule hk.1) (ci := 5) rfl hin 1 (by decide) hl rfl rfl hd kk
theorem t_p_Rule_number (F : mF X E own cc Ts) (hk : ckd a = 5 ∧ a < 353) (hin : ∀ w ∈ wsX70, w ∈ Ts) (hl : Cond.fieldLink own index "RiddleMill$Rule" "number" "I" ∈ Ts) {v : Int} (hI : I' = up2 I a 1 v) (hd : decode cc pc = .ok (.putfield index, 3)) (kk : cW X nc ns (pc + 3) lv st (gw E.1 cIds (cef E (I', R)) ++ T)) : cW X nc ns pc lv (iV v :: .ref (E.1 a) :: st) (gw E.1 cIds (cef E (I, R)) ++ T) := by
  subst hI
  refine g_put F cIds_nd (cIds_in hk.2) (ceRule hk.1) (ci := 5) rfl hin tyX7 tyX7_ok nmX7 1 (by decide) hl rfl rfl (ty := .int) rfl rfl rfl (Nat.le_of_ble_eq_true rfl) ?_ cef_neI hd kk
  rw [cef, ceRule hk.1]
  simp [up2_at]
theorem t_g_Rule_times (F : mF X E own cc Ts) (hk : ckd a = 5 ∧ a < 353) (hin : ∀ w ∈ wsX70, w ∈ Ts) (hl : Cond.fieldLink own index "RiddleMill$Rule" "times" "I" ∈ Ts) (hd : decode cc pc = .ok (.getfield index, 3)) (kk : cW X nc ns (pc + 3) lv (iV (I a 2) :: st) (gw E.1 cIds (cef E (I, R)) ++ T)) : cW X nc ns pc lv (.ref (E.1 a) :: st) (gw E.1 cIds (cef E (I, R)) ++ T) := by
  exact g_get F (cIds_in hk.2) (ceRule hk.1) (ci := 5) rfl hin 2 (by decide) hl rfl rfl hd kk
theorem t_p_Rule_times (F : mF X E own cc Ts) (hk : ckd a = 5 ∧ a < 353) (hin : ∀ w ∈ wsX70, w ∈ Ts) (hl : Cond.fieldLink own index "RiddleMill$Rule" "times" "I" ∈ Ts) {v : Int} (hI : I' = up2 I a 2 v) (hd : decode cc pc = .ok (.putfield index, 3)) (kk : cW X nc ns (pc + 3) lv st (gw E.1 cIds (cef E (I', R)) ++ T)) : cW X nc ns pc lv (iV v :: .ref (E.1 a) :: st) (gw E.1 cIds (cef E (I, R)) ++ T) := by
  subst hI
  refine g_put F cIds_nd (cIds_in hk.2) (ceRule hk.1) (ci := 5) rfl hin tyX7 tyX7_ok nmX7 2 (by decide) hl rfl rfl (ty := .int) rfl rfl rfl (Nat.le_of_ble_eq_true rfl) ?_ cef_neI hd kk
  rw [cef, ceRule hk.1]
  simp [up2_at]
theorem t_g_Rule_size (F : mF X E own cc Ts) (hk : ckd a = 5 ∧ a < 353) (hin : ∀ w ∈ wsX70, w ∈ Ts) (hl : Cond.fieldLink own index "RiddleMill$Rule" "size" "I" ∈ Ts) (hd : decode cc pc = .ok (.getfield index, 3)) (kk : cW X nc ns (pc + 3) lv (iV (I a 3) :: st) (gw E.1 cIds (cef E (I, R)) ++ T)) : cW X nc ns pc lv (.ref (E.1 a) :: st) (gw E.1 cIds (cef E (I, R)) ++ T) := by
  exact g_get F (cIds_in hk.2) (ceRule hk.1) (ci := 5) rfl hin 3 (by decide) hl rfl rfl hd kk
theorem t_p_Rule_size (F : mF X E own cc Ts) (hk : ckd a = 5 ∧ a < 353) (hin : ∀ w ∈ wsX70, w ∈ Ts) (hl : Cond.fieldLink own index "RiddleMill$Rule" "size" "I" ∈ Ts) {v : Int} (hI : I' = up2 I a 3 v) (hd : decode cc pc = .ok (.putfield index, 3)) (kk : cW X nc ns (pc + 3) lv st (gw E.1 cIds (cef E (I', R)) ++ T)) : cW X nc ns pc lv (iV v :: .ref (E.1 a) :: st) (gw E.1 cIds (cef E (I, R)) ++ T) := by
  subst hI
  refine g_put F cIds_nd (cIds_in hk.2) (ceRule hk.1) (ci := 5) rfl hin tyX7 tyX7_ok nmX7 3 (by decide) hl rfl rfl (ty := .int) rfl rfl rfl (Nat.le_of_ble_eq_true rfl) ?_ cef_neI hd kk
  rw [cef, ceRule hk.1]
  simp [up2_at]
theorem t_g_Rule_cells (F : mF X E own cc Ts) (hk : ckd a = 5 ∧ a < 353) (hin : ∀ w ∈ wsX70, w ∈ Ts) (hl : Cond.fieldLink own index "RiddleMill$Rule" "cells" "[I" ∈ Ts) (b : Nat) (hb : a + 130 = b) (hd : decode cc pc = .ok (.getfield index, 3)) (kk : cW X nc ns (pc + 3) lv (.ref (E.1 b) :: st) (gw E.1 cIds (cef E (I, R)) ++ T)) : cW X nc ns pc lv (.ref (E.1 a) :: st) (gw E.1 cIds (cef E (I, R)) ++ T) := by
  subst hb
  exact g_get F (cIds_in hk.2) (ceRule hk.1) (ci := 5) rfl hin 4 (by decide) hl rfl rfl hd kk
theorem t_g_Rule_mask (F : mF X E own cc Ts) (hk : ckd a = 5 ∧ a < 353) (hin : ∀ w ∈ wsX70, w ∈ Ts) (hl : Cond.fieldLink own index "RiddleMill$Rule" "mask" "I" ∈ Ts) (hd : decode cc pc = .ok (.getfield index, 3)) (kk : cW X nc ns (pc + 3) lv (iV (I a 5) :: st) (gw E.1 cIds (cef E (I, R)) ++ T)) : cW X nc ns pc lv (.ref (E.1 a) :: st) (gw E.1 cIds (cef E (I, R)) ++ T) := by
  exact g_get F (cIds_in hk.2) (ceRule hk.1) (ci := 5) rfl hin 5 (by decide) hl rfl rfl hd kk
theorem t_p_Rule_mask (F : mF X E own cc Ts) (hk : ckd a = 5 ∧ a < 353) (hin : ∀ w ∈ wsX70, w ∈ Ts) (hl : Cond.fieldLink own index "RiddleMill$Rule" "mask" "I" ∈ Ts) {v : Int} (hI : I' = up2 I a 5 v) (hd : decode cc pc = .ok (.putfield index, 3)) (kk : cW X nc ns (pc + 3) lv st (gw E.1 cIds (cef E (I', R)) ++ T)) : cW X nc ns pc lv (iV v :: .ref (E.1 a) :: st) (gw E.1 cIds (cef E (I, R)) ++ T) := by
  subst hI
  refine g_put F cIds_nd (cIds_in hk.2) (ceRule hk.1) (ci := 5) rfl hin tyX7 tyX7_ok nmX7 5 (by decide) hl rfl rfl (ty := .int) rfl rfl rfl (Nat.le_of_ble_eq_true rfl) ?_ cef_neI hd kk
  rw [cef, ceRule hk.1]
  simp [up2_at]
theorem t_g_Search_solutions (F : mF X E own cc Ts) (hk : ckd a = 6 ∧ a < 353) (hin : ∀ w ∈ wsX80, w ∈ Ts) (hl : Cond.fieldLink own index "RiddleMill$Search" "solutions" "[[I" ∈ Ts) (b : Nat) (hb : a + 1 = b) (hd : decode cc pc = .ok (.getfield index, 3)) (kk : cW X nc ns (pc + 3) lv (.ref (E.1 b) :: st) (gw E.1 cIds (cef E (I, R)) ++ T)) : cW X nc ns pc lv (.ref (E.1 a) :: st) (gw E.1 cIds (cef E (I, R)) ++ T) := by
  subst hb
  exact g_get F (cIds_in hk.2) (ceSearch hk.1) (ci := 6) rfl hin 0 (by decide) hl rfl rfl hd kk
theorem t_g_Search_found (F : mF X E own cc Ts) (hk : ckd a = 6 ∧ a < 353) (hin : ∀ w ∈ wsX80, w ∈ Ts) (hl : Cond.fieldLink own index "RiddleMill$Search" "found" "I" ∈ Ts) (hd : decode cc pc = .ok (.getfield index, 3)) (kk : cW X nc ns (pc + 3) lv (iV (I a 1) :: st) (gw E.1 cIds (cef E (I, R)) ++ T)) : cW X nc ns pc lv (.ref (E.1 a) :: st) (gw E.1 cIds (cef E (I, R)) ++ T) := by
  exact g_get F (cIds_in hk.2) (ceSearch hk.1) (ci := 6) rfl hin 1 (by decide) hl rfl rfl hd kk
theorem t_p_Search_found (F : mF X E own cc Ts) (hk : ckd a = 6 ∧ a < 353) (hin : ∀ w ∈ wsX80, w ∈ Ts) (hl : Cond.fieldLink own index "RiddleMill$Search" "found" "I" ∈ Ts) {v : Int} (hI : I' = up2 I a 1 v) (hd : decode cc pc = .ok (.putfield index, 3)) (kk : cW X nc ns (pc + 3) lv st (gw E.1 cIds (cef E (I', R)) ++ T)) : cW X nc ns pc lv (iV v :: .ref (E.1 a) :: st) (gw E.1 cIds (cef E (I, R)) ++ T) := by
  subst hI
  refine g_put F cIds_nd (cIds_in hk.2) (ceSearch hk.1) (ci := 6) rfl hin tyX8 tyX8_ok nmX8 1 (by decide) hl rfl rfl (ty := .int) rfl rfl rfl (Nat.le_of_ble_eq_true rfl) ?_ cef_neI hd kk
  rw [cef, ceSearch hk.1]
  simp [up2_at]
theorem t_g_Search_tries (F : mF X E own cc Ts) (hk : ckd a = 6 ∧ a < 353) (hin : ∀ w ∈ wsX80, w ∈ Ts) (hl : Cond.fieldLink own index "RiddleMill$Search" "tries" "I" ∈ Ts) (hd : decode cc pc = .ok (.getfield index, 3)) (kk : cW X nc ns (pc + 3) lv (iV (I a 2) :: st) (gw E.1 cIds (cef E (I, R)) ++ T)) : cW X nc ns pc lv (.ref (E.1 a) :: st) (gw E.1 cIds (cef E (I, R)) ++ T) := by
  exact g_get F (cIds_in hk.2) (ceSearch hk.1) (ci := 6) rfl hin 2 (by decide) hl rfl rfl hd kk
theorem t_p_Search_tries (F : mF X E own cc Ts) (hk : ckd a = 6 ∧ a < 353) (hin : ∀ w ∈ wsX80, w ∈ Ts) (hl : Cond.fieldLink own index "RiddleMill$Search" "tries" "I" ∈ Ts) {v : Int} (hI : I' = up2 I a 2 v) (hd : decode cc pc = .ok (.putfield index, 3)) (kk : cW X nc ns (pc + 3) lv st (gw E.1 cIds (cef E (I', R)) ++ T)) : cW X nc ns pc lv (iV v :: .ref (E.1 a) :: st) (gw E.1 cIds (cef E (I, R)) ++ T) := by
  subst hI
  refine g_put F cIds_nd (cIds_in hk.2) (ceSearch hk.1) (ci := 6) rfl hin tyX8 tyX8_ok nmX8 2 (by decide) hl rfl rfl (ty := .int) rfl rfl rfl (Nat.le_of_ble_eq_true rfl) ?_ cef_neI hd kk
  rw [cef, ceSearch hk.1]
  simp [up2_at]
theorem t_g_Search_values (F : mF X E own cc Ts) (hk : ckd a = 6 ∧ a < 353) (hin : ∀ w ∈ wsX80, w ∈ Ts) (hl : Cond.fieldLink own index "RiddleMill$Search" "values" "[I" ∈ Ts) (b : Nat) (hb : a + 2 = b) (hd : decode cc pc = .ok (.getfield index, 3)) (kk : cW X nc ns (pc + 3) lv (.ref (E.1 b) :: st) (gw E.1 cIds (cef E (I, R)) ++ T)) : cW X nc ns pc lv (.ref (E.1 a) :: st) (gw E.1 cIds (cef E (I, R)) ++ T) := by
  subst hb
  exact g_get F (cIds_in hk.2) (ceSearch hk.1) (ci := 6) rfl hin 3 (by decide) hl rfl rfl hd kk
theorem t_g_Search_only (F : mF X E own cc Ts) (hk : ckd a = 6 ∧ a < 353) (hin : ∀ w ∈ wsX80, w ∈ Ts) (hl : Cond.fieldLink own index "RiddleMill$Search" "only" "[I" ∈ Ts) (b : Nat) (hb : a + 3 = b) (hd : decode cc pc = .ok (.getfield index, 3)) (kk : cW X nc ns (pc + 3) lv (.ref (E.1 b) :: st) (gw E.1 cIds (cef E (I, R)) ++ T)) : cW X nc ns pc lv (.ref (E.1 a) :: st) (gw E.1 cIds (cef E (I, R)) ++ T) := by
  subst hb
  exact g_get F (cIds_in hk.2) (ceSearch hk.1) (ci := 6) rfl hin 4 (by decide) hl rfl rfl hd kk
theorem t_g_Search_first (F : mF X E own cc Ts) (hk : ckd a = 6 ∧ a < 353) (hin : ∀ w ∈ wsX80, w ∈ Ts) (hl : Cond.fieldLink own index "RiddleMill$Search" "first" "[I" ∈ Ts) (b : Nat) (hb : a + 4 = b) (hd : decode cc pc = .ok (.getfield index, 3)) (kk : cW X nc ns (pc + 3) lv (.ref (E.1 b) :: st) (gw E.1 cIds (cef E (I, R)) ++ T)) : cW X nc ns pc lv (.ref (E.1 a) :: st) (gw E.1 cIds (cef E (I, R)) ++ T) := by
  subst hb
  exact g_get F (cIds_in hk.2) (ceSearch hk.1) (ci := 6) rfl hin 5 (by decide) hl rfl rfl hd kk
theorem t_g_Search_without (F : mF X E own cc Ts) (hk : ckd a = 6 ∧ a < 353) (hin : ∀ w ∈ wsX80, w ∈ Ts) (hl : Cond.fieldLink own index "RiddleMill$Search" "without" "I" ∈ Ts) (hd : decode cc pc = .ok (.getfield index, 3)) (kk : cW X nc ns (pc + 3) lv (iV (I a 6) :: st) (gw E.1 cIds (cef E (I, R)) ++ T)) : cW X nc ns pc lv (.ref (E.1 a) :: st) (gw E.1 cIds (cef E (I, R)) ++ T) := by
  exact g_get F (cIds_in hk.2) (ceSearch hk.1) (ci := 6) rfl hin 6 (by decide) hl rfl rfl hd kk
theorem t_p_Search_without (F : mF X E own cc Ts) (hk : ckd a = 6 ∧ a < 353) (hin : ∀ w ∈ wsX80, w ∈ Ts) (hl : Cond.fieldLink own index "RiddleMill$Search" "without" "I" ∈ Ts) {v : Int} (hI : I' = up2 I a 6 v) (hd : decode cc pc = .ok (.putfield index, 3)) (kk : cW X nc ns (pc + 3) lv st (gw E.1 cIds (cef E (I', R)) ++ T)) : cW X nc ns pc lv (iV v :: .ref (E.1 a) :: st) (gw E.1 cIds (cef E (I, R)) ++ T) := by
  subst hI
  refine g_put F cIds_nd (cIds_in hk.2) (ceSearch hk.1) (ci := 6) rfl hin tyX8 tyX8_ok nmX8 6 (by decide) hl rfl rfl (ty := .int) rfl rfl rfl (Nat.le_of_ble_eq_true rfl) ?_ cef_neI hd kk
  rw [cef, ceSearch hk.1]
  simp [up2_at]
theorem t_g_Search_most (F : mF X E own cc Ts) (hk : ckd a = 6 ∧ a < 353) (hin : ∀ w ∈ wsX80, w ∈ Ts) (hl : Cond.fieldLink own index "RiddleMill$Search" "most" "I" ∈ Ts) (hd : decode cc pc = .ok (.getfield index, 3)) (kk : cW X nc ns (pc + 3) lv (iV (I a 7) :: st) (gw E.1 cIds (cef E (I, R)) ++ T)) : cW X nc ns pc lv (.ref (E.1 a) :: st) (gw E.1 cIds (cef E (I, R)) ++ T) := by
  exact g_get F (cIds_in hk.2) (ceSearch hk.1) (ci := 6) rfl hin 7 (by decide) hl rfl rfl hd kk
theorem t_p_Search_most (F : mF X E own cc Ts) (hk : ckd a = 6 ∧ a < 353) (hin : ∀ w ∈ wsX80, w ∈ Ts) (hl : Cond.fieldLink own index "RiddleMill$Search" "most" "I" ∈ Ts) {v : Int} (hI : I' = up2 I a 7 v) (hd : decode cc pc = .ok (.putfield index, 3)) (kk : cW X nc ns (pc + 3) lv st (gw E.1 cIds (cef E (I', R)) ++ T)) : cW X nc ns pc lv (iV v :: .ref (E.1 a) :: st) (gw E.1 cIds (cef E (I, R)) ++ T) := by
  subst hI
  refine g_put F cIds_nd (cIds_in hk.2) (ceSearch hk.1) (ci := 6) rfl hin tyX8 tyX8_ok nmX8 7 (by decide) hl rfl rfl (ty := .int) rfl rfl rfl (Nat.le_of_ble_eq_true rfl) ?_ cef_neI hd kk
  rw [cef, ceSearch hk.1]
  simp [up2_at]
theorem t_g_Search_hasGivenUp (F : mF X E own cc Ts) (hk : ckd a = 6 ∧ a < 353) (hin : ∀ w ∈ wsX80, w ∈ Ts) (hl : Cond.fieldLink own index "RiddleMill$Search" "hasGivenUp" "Z" ∈ Ts) (hd : decode cc pc = .ok (.getfield index, 3)) (kk : cW X nc ns (pc + 3) lv (iV (I a 8) :: st) (gw E.1 cIds (cef E (I, R)) ++ T)) : cW X nc ns pc lv (.ref (E.1 a) :: st) (gw E.1 cIds (cef E (I, R)) ++ T) := by
  exact g_get F (cIds_in hk.2) (ceSearch hk.1) (ci := 6) rfl hin 8 (by decide) hl rfl rfl hd kk
theorem t_p_Search_hasGivenUp (F : mF X E own cc Ts) (hk : ckd a = 6 ∧ a < 353) (hin : ∀ w ∈ wsX80, w ∈ Ts) (hl : Cond.fieldLink own index "RiddleMill$Search" "hasGivenUp" "Z" ∈ Ts) {v : Int} (hb : v = 0 ∨ v = 1) (hI : I' = up2 I a 8 v) (hd : decode cc pc = .ok (.putfield index, 3)) (kk : cW X nc ns (pc + 3) lv st (gw E.1 cIds (cef E (I', R)) ++ T)) : cW X nc ns pc lv (iV v :: .ref (E.1 a) :: st) (gw E.1 cIds (cef E (I, R)) ++ T) := by
  subst hI
  refine g_put F cIds_nd (cIds_in hk.2) (ceSearch hk.1) (ci := 6) rfl hin tyX8 tyX8_ok nmX8 8 (by decide) hl rfl rfl (ty := .boolean) rfl (by rcases hb with rfl | rfl <;> decide) (by rcases hb with rfl | rfl <;> decide) (Nat.le_of_ble_eq_true rfl) ?_ cef_neI hd kk
  rw [cef, ceSearch hk.1]
  simp [up2_at]
theorem t_g_Tape_length (F : mF X E own cc Ts) (hk : ckd a = 7 ∧ a < 353) (hin : ∀ w ∈ wsX90, w ∈ Ts) (hl : Cond.fieldLink own index "RiddleMill$Tape" "length" "I" ∈ Ts) (hd : decode cc pc = .ok (.getfield index, 3)) (kk : cW X nc ns (pc + 3) lv (iV (I a 0) :: st) (gw E.1 cIds (cef E (I, R)) ++ T)) : cW X nc ns pc lv (.ref (E.1 a) :: st) (gw E.1 cIds (cef E (I, R)) ++ T) := by
  exact g_get F (cIds_in hk.2) (ceTape hk.1) (ci := 7) rfl hin 0 (by decide) hl rfl rfl hd kk
theorem t_p_Tape_length (F : mF X E own cc Ts) (hk : ckd a = 7 ∧ a < 353) (hin : ∀ w ∈ wsX90, w ∈ Ts) (hl : Cond.fieldLink own index "RiddleMill$Tape" "length" "I" ∈ Ts) {v : Int} (hI : I' = up2 I a 0 v) (hd : decode cc pc = .ok (.putfield index, 3)) (kk : cW X nc ns (pc + 3) lv st (gw E.1 cIds (cef E (I', R)) ++ T)) : cW X nc ns pc lv (iV v :: .ref (E.1 a) :: st) (gw E.1 cIds (cef E (I, R)) ++ T) := by
  subst hI
  refine g_put F cIds_nd (cIds_in hk.2) (ceTape hk.1) (ci := 7) rfl hin tyX9 tyX9_ok nmX9 0 (by decide) hl rfl rfl (ty := .int) rfl rfl rfl (Nat.le_of_ble_eq_true rfl) ?_ cef_neI hd kk
  rw [cef, ceTape hk.1]
  simp [up2_at]
theorem t_g_Tape_bytes (F : mF X E own cc Ts) (hk : ckd a = 7 ∧ a < 353) (hin : ∀ w ∈ wsX90, w ∈ Ts) (hl : Cond.fieldLink own index "RiddleMill$Tape" "bytes" "[I" ∈ Ts) (b : Nat) (hb : a + 1 = b) (hd : decode cc pc = .ok (.getfield index, 3)) (kk : cW X nc ns (pc + 3) lv (.ref (E.1 b) :: st) (gw E.1 cIds (cef E (I, R)) ++ T)) : cW X nc ns pc lv (.ref (E.1 a) :: st) (gw E.1 cIds (cef E (I, R)) ++ T) := by
  subst hb
  exact g_get F (cIds_in hk.2) (ceTape hk.1) (ci := 7) rfl hin 1 (by decide) hl rfl rfl hd kk
theorem t_g_Tokens_count (F : mF X E own cc Ts) (hk : ckd a = 8 ∧ a < 353) (hin : ∀ w ∈ wsX100, w ∈ Ts) (hl : Cond.fieldLink own index "RiddleMill$Tokens" "count" "I" ∈ Ts) (hd : decode cc pc = .ok (.getfield index, 3)) (kk : cW X nc ns (pc + 3) lv (iV (I a 0) :: st) (gw E.1 cIds (cef E (I, R)) ++ T)) : cW X nc ns pc lv (.ref (E.1 a) :: st) (gw E.1 cIds (cef E (I, R)) ++ T) := by
  exact g_get F (cIds_in hk.2) (ceTokens hk.1) (ci := 8) rfl hin 0 (by decide) hl rfl rfl hd kk
theorem t_p_Tokens_count (F : mF X E own cc Ts) (hk : ckd a = 8 ∧ a < 353) (hin : ∀ w ∈ wsX100, w ∈ Ts) (hl : Cond.fieldLink own index "RiddleMill$Tokens" "count" "I" ∈ Ts) {v : Int} (hI : I' = up2 I a 0 v) (hd : decode cc pc = .ok (.putfield index, 3)) (kk : cW X nc ns (pc + 3) lv st (gw E.1 cIds (cef E (I', R)) ++ T)) : cW X nc ns pc lv (iV v :: .ref (E.1 a) :: st) (gw E.1 cIds (cef E (I, R)) ++ T) := by
  subst hI
  refine g_put F cIds_nd (cIds_in hk.2) (ceTokens hk.1) (ci := 8) rfl hin tyX10 tyX10_ok nmX10 0 (by decide) hl rfl rfl (ty := .int) rfl rfl rfl (Nat.le_of_ble_eq_true rfl) ?_ cef_neI hd kk
  rw [cef, ceTokens hk.1]
  simp [up2_at]
theorem t_g_Tokens_types (F : mF X E own cc Ts) (hk : ckd a = 8 ∧ a < 353) (hin : ∀ w ∈ wsX100, w ∈ Ts) (hl : Cond.fieldLink own index "RiddleMill$Tokens" "types" "[I" ∈ Ts) (b : Nat) (hb : a + 1 = b) (hd : decode cc pc = .ok (.getfield index, 3)) (kk : cW X nc ns (pc + 3) lv (.ref (E.1 b) :: st) (gw E.1 cIds (cef E (I, R)) ++ T)) : cW X nc ns pc lv (.ref (E.1 a) :: st) (gw E.1 cIds (cef E (I, R)) ++ T) := by
  subst hb
  exact g_get F (cIds_in hk.2) (ceTokens hk.1) (ci := 8) rfl hin 1 (by decide) hl rfl rfl hd kk
theorem t_g_Tokens_starts (F : mF X E own cc Ts) (hk : ckd a = 8 ∧ a < 353) (hin : ∀ w ∈ wsX100, w ∈ Ts) (hl : Cond.fieldLink own index "RiddleMill$Tokens" "starts" "[I" ∈ Ts) (b : Nat) (hb : a + 2 = b) (hd : decode cc pc = .ok (.getfield index, 3)) (kk : cW X nc ns (pc + 3) lv (.ref (E.1 b) :: st) (gw E.1 cIds (cef E (I, R)) ++ T)) : cW X nc ns pc lv (.ref (E.1 a) :: st) (gw E.1 cIds (cef E (I, R)) ++ T) := by
  subst hb
  exact g_get F (cIds_in hk.2) (ceTokens hk.1) (ci := 8) rfl hin 2 (by decide) hl rfl rfl hd kk
theorem t_g_Tokens_numbers (F : mF X E own cc Ts) (hk : ckd a = 8 ∧ a < 353) (hin : ∀ w ∈ wsX100, w ∈ Ts) (hl : Cond.fieldLink own index "RiddleMill$Tokens" "numbers" "[I" ∈ Ts) (b : Nat) (hb : a + 3 = b) (hd : decode cc pc = .ok (.getfield index, 3)) (kk : cW X nc ns (pc + 3) lv (.ref (E.1 b) :: st) (gw E.1 cIds (cef E (I, R)) ++ T)) : cW X nc ns pc lv (.ref (E.1 a) :: st) (gw E.1 cIds (cef E (I, R)) ++ T) := by
  subst hb
  exact g_get F (cIds_in hk.2) (ceTokens hk.1) (ci := 8) rfl hin 3 (by decide) hl rfl rfl hd kk
theorem t_g_Mill_tape (F : mF X E own cc Ts) (hk : ckd a = 9 ∧ a < 353) (hin : ∀ w ∈ wsX110, w ∈ Ts) (hl : Cond.fieldLink own index "RiddleMill" "tape" "LRiddleMill$Tape;" ∈ Ts) (hd : decode cc pc = .ok (.getfield index, 3)) (kk : cW X nc ns (pc + 3) lv (.ref (E.1 1) :: st) (gw E.1 cIds (cef E (I, R)) ++ T)) : cW X nc ns pc lv (.ref (E.1 a) :: st) (gw E.1 cIds (cef E (I, R)) ++ T) := by
  exact g_get F (cIds_in hk.2) (ceMill hk.1) (ci := 9) rfl hin 0 (by decide) hl rfl rfl hd kk
theorem t_g_Mill_reader (F : mF X E own cc Ts) (hk : ckd a = 9 ∧ a < 353) (hin : ∀ w ∈ wsX110, w ∈ Ts) (hl : Cond.fieldLink own index "RiddleMill" "reader" "LRiddleMill$PuzzleReader;" ∈ Ts) (hd : decode cc pc = .ok (.getfield index, 3)) (kk : cW X nc ns (pc + 3) lv (.ref (E.1 3) :: st) (gw E.1 cIds (cef E (I, R)) ++ T)) : cW X nc ns pc lv (.ref (E.1 a) :: st) (gw E.1 cIds (cef E (I, R)) ++ T) := by
  exact g_get F (cIds_in hk.2) (ceMill hk.1) (ci := 9) rfl hin 1 (by decide) hl rfl rfl hd kk
theorem t_g_Mill_paper (F : mF X E own cc Ts) (hk : ckd a = 9 ∧ a < 353) (hin : ∀ w ∈ wsX110, w ∈ Ts) (hl : Cond.fieldLink own index "RiddleMill" "paper" "LRiddleMill$Paper;" ∈ Ts) (hd : decode cc pc = .ok (.getfield index, 3)) (kk : cW X nc ns (pc + 3) lv (.ref (E.1 8) :: st) (gw E.1 cIds (cef E (I, R)) ++ T)) : cW X nc ns pc lv (.ref (E.1 a) :: st) (gw E.1 cIds (cef E (I, R)) ++ T) := by
  exact g_get F (cIds_in hk.2) (ceMill hk.1) (ci := 9) rfl hin 2 (by decide) hl rfl rfl hd kk
theorem t_g_Mill_kept (F : mF X E own cc Ts) (hk : ckd a = 9 ∧ a < 353) (hin : ∀ w ∈ wsX110, w ∈ Ts) (hl : Cond.fieldLink own index "RiddleMill" "kept" "LRiddleMill$Search;" ∈ Ts) (hd : decode cc pc = .ok (.getfield index, 3)) (kk : cW X nc ns (pc + 3) lv (.ref (E.1 10) :: st) (gw E.1 cIds (cef E (I, R)) ++ T)) : cW X nc ns pc lv (.ref (E.1 a) :: st) (gw E.1 cIds (cef E (I, R)) ++ T) := by
  exact g_get F (cIds_in hk.2) (ceMill hk.1) (ci := 9) rfl hin 3 (by decide) hl rfl rfl hd kk
theorem t_g_Mill_probe (F : mF X E own cc Ts) (hk : ckd a = 9 ∧ a < 353) (hin : ∀ w ∈ wsX110, w ∈ Ts) (hl : Cond.fieldLink own index "RiddleMill" "probe" "LRiddleMill$Search;" ∈ Ts) (hd : decode cc pc = .ok (.getfield index, 3)) (kk : cW X nc ns (pc + 3) lv (.ref (E.1 45) :: st) (gw E.1 cIds (cef E (I, R)) ++ T)) : cW X nc ns pc lv (.ref (E.1 a) :: st) (gw E.1 cIds (cef E (I, R)) ++ T) := by
  exact g_get F (cIds_in hk.2) (ceMill hk.1) (ci := 9) rfl hin 4 (by decide) hl rfl rfl hd kk
theorem t_g_Mill_reasoner (F : mF X E own cc Ts) (hk : ckd a = 9 ∧ a < 353) (hin : ∀ w ∈ wsX110, w ∈ Ts) (hl : Cond.fieldLink own index "RiddleMill" "reasoner" "LRiddleMill$Reasoner;" ∈ Ts) (hd : decode cc pc = .ok (.getfield index, 3)) (kk : cW X nc ns (pc + 3) lv (.ref (E.1 80) :: st) (gw E.1 cIds (cef E (I, R)) ++ T)) : cW X nc ns pc lv (.ref (E.1 a) :: st) (gw E.1 cIds (cef E (I, R)) ++ T) := by
  exact g_get F (cIds_in hk.2) (ceMill hk.1) (ci := 9) rfl hin 5 (by decide) hl rfl rfl hd kk
theorem t_g_Mill_maker (F : mF X E own cc Ts) (hk : ckd a = 9 ∧ a < 353) (hin : ∀ w ∈ wsX110, w ∈ Ts) (hl : Cond.fieldLink own index "RiddleMill" "maker" "LRiddleMill$Maker;" ∈ Ts) (hd : decode cc pc = .ok (.getfield index, 3)) (kk : cW X nc ns (pc + 3) lv (.ref (E.1 83) :: st) (gw E.1 cIds (cef E (I, R)) ++ T)) : cW X nc ns pc lv (.ref (E.1 a) :: st) (gw E.1 cIds (cef E (I, R)) ++ T) := by
  exact g_get F (cIds_in hk.2) (ceMill hk.1) (ci := 9) rfl hin 6 (by decide) hl rfl rfl hd kk
theorem t_g_Mill_puzzle (F : mF X E own cc Ts) (hk : ckd a = 9 ∧ a < 353) (hin : ∀ w ∈ wsX110, w ∈ Ts) (hl : Cond.fieldLink own index "RiddleMill" "puzzle" "LRiddleMill$Puzzle;" ∈ Ts) (hd : decode cc pc = .ok (.getfield index, 3)) (kk : cW X nc ns (pc + 3) lv (.ref (E.1 (R a 7)) :: st) (gw E.1 cIds (cef E (I, R)) ++ T)) : cW X nc ns pc lv (.ref (E.1 a) :: st) (gw E.1 cIds (cef E (I, R)) ++ T) := by
  exact g_get F (cIds_in hk.2) (ceMill hk.1) (ci := 9) rfl hin 7 (by decide) hl rfl rfl hd kk
theorem t_p_Mill_puzzle (F : mF X E own cc Ts) (hk : ckd a = 9 ∧ a < 353) (hin : ∀ w ∈ wsX110, w ∈ Ts) (hl : Cond.fieldLink own index "RiddleMill" "puzzle" "LRiddleMill$Puzzle;" ∈ Ts) {v : Nat} (hR : R' = up2 R a 7 v) (hd : decode cc pc = .ok (.putfield index, 3)) (kk : cW X nc ns (pc + 3) lv st (gw E.1 cIds (cef E (I, R')) ++ T)) : cW X nc ns pc lv (.ref (E.1 v) :: .ref (E.1 a) :: st) (gw E.1 cIds (cef E (I, R)) ++ T) := by
  subst hR
  refine g_put F cIds_nd (cIds_in hk.2) (ceMill hk.1) (ci := 9) rfl hin tyX11 tyX11_ok nmX11 7 (by decide) hl rfl rfl (ty := .object "RiddleMill$Puzzle") rfl rfl rfl (Nat.le_of_ble_eq_true rfl) ?_ cef_neR hd kk
  rw [cef, ceMill hk.1]
  simp [up2_at]
theorem t_g_Mill_draft (F : mF X E own cc Ts) (hk : ckd a = 9 ∧ a < 353) (hin : ∀ w ∈ wsX110, w ∈ Ts) (hl : Cond.fieldLink own index "RiddleMill" "draft" "LRiddleMill$Puzzle;" ∈ Ts) (hd : decode cc pc = .ok (.getfield index, 3)) (kk : cW X nc ns (pc + 3) lv (.ref (E.1 (R a 8)) :: st) (gw E.1 cIds (cef E (I, R)) ++ T)) : cW X nc ns pc lv (.ref (E.1 a) :: st) (gw E.1 cIds (cef E (I, R)) ++ T) := by
  exact g_get F (cIds_in hk.2) (ceMill hk.1) (ci := 9) rfl hin 8 (by decide) hl rfl rfl hd kk
theorem t_p_Mill_draft (F : mF X E own cc Ts) (hk : ckd a = 9 ∧ a < 353) (hin : ∀ w ∈ wsX110, w ∈ Ts) (hl : Cond.fieldLink own index "RiddleMill" "draft" "LRiddleMill$Puzzle;" ∈ Ts) {v : Nat} (hR : R' = up2 R a 8 v) (hd : decode cc pc = .ok (.putfield index, 3)) (kk : cW X nc ns (pc + 3) lv st (gw E.1 cIds (cef E (I, R')) ++ T)) : cW X nc ns pc lv (.ref (E.1 v) :: .ref (E.1 a) :: st) (gw E.1 cIds (cef E (I, R)) ++ T) := by
  subst hR
  refine g_put F cIds_nd (cIds_in hk.2) (ceMill hk.1) (ci := 9) rfl hin tyX11 tyX11_ok nmX11 8 (by decide) hl rfl rfl (ty := .object "RiddleMill$Puzzle") rfl rfl rfl (Nat.le_of_ble_eq_true rfl) ?_ cef_neR hd kk
  rw [cef, ceMill hk.1]
  simp [up2_at]
theorem t_ald (F : mF X E own cc Ts) (n : Nat) (hk : isA n a) {x : Int} (h : 0 ≤ x ∧ x < n) (hn : n < 2147483648) (hd : decode cc pc = .ok (.iaload, 1)) (kk : cW X nc ns (pc + 1) lv (iV (I a x) :: st) (gw E.1 cIds (cef E (I, R)) ++ T)) : cW X nc ns pc lv (iV x :: .ref (E.1 a) :: st) (gw E.1 cIds (cef E (I, R)) ++ T) :=
  g_ald F (cIds_in hk.2.2) (ceRow hk) h hn hd kk
theorem t_ast (F : mF X E own cc Ts) (n : Nat) (hk : isA n a) {x v : Int} (h : 0 ≤ x ∧ x < n) (hn : n < 2147483648) (hI : I' = up2 I a x v) (hd : decode cc pc = .ok (.iastore, 1)) (kk : cW X nc ns (pc + 1) lv st (gw E.1 cIds (cef E (I', R)) ++ T)) : cW X nc ns pc lv (iV v :: iV x :: .ref (E.1 a) :: st) (gw E.1 cIds (cef E (I, R)) ++ T) := by
  subst hI
  exact g_ast F cIds_nd (cIds_in hk.2.2) (ceRow hk) h hn (by rw [cef, ceRow hk]; show iA E n (up2 I a x v a) = _; rw [up2_at]) cef_neI hd kk
theorem t_alen (F : mF X E own cc Ts) (n : Nat) (hk : isA n a) (hd : decode cc pc = .ok (.arraylength, 1)) (kk : cW X nc ns (pc + 1) lv (iV (n : Int) :: st) (gw E.1 cIds (cef E (I, R)) ++ T)) : cW X nc ns pc lv (.ref (E.1 a) :: st) (gw E.1 cIds (cef E (I, R)) ++ T) :=
  g_alen F (cIds_in hk.2.2) (ceRow hk) hd kk
theorem t_rld (F : mF X E own cc Ts) (hk : ckd a = 12 ∧ a < 353) {x : Int} (h : 0 ≤ x ∧ x < 65) (hd : decode cc pc = .ok (.aaload, 1)) (kk : cW X nc ns (pc + 1) lv (.ref (E.1 (R a x)) :: st) (gw E.1 cIds (cef E (I, R)) ++ T)) : cW X nc ns pc lv (iV x :: .ref (E.1 a) :: st) (gw E.1 cIds (cef E (I, R)) ++ T) :=
  g_rld F (cIds_in hk.2) (ceRules hk.1) h (by decide) hd kk
theorem t_rst (F : mF X E own cc Ts) (hk : ckd a = 12 ∧ a < 353) {x : Int} {r : Nat} (h : 0 ≤ x ∧ x < 65) (hr : isR r) (hR : R' = up2 R a x r) (hd : decode cc pc = .ok (.aastore, 1)) (kk : cW X nc ns (pc + 1) lv st (gw E.1 cIds (cef E (I, R')) ++ T)) : cW X nc ns pc lv (.ref (E.1 r) :: iV x :: .ref (E.1 a) :: st) (gw E.1 cIds (cef E (I, R)) ++ T) := by
  subst hR
  exact g_rst F cIds_nd (cIds_in hk.2) (ceRules hk.1) h (by decide) (cIds_in (kR0 hr).2) (ceRule (kR0 hr).1) (by rw [cef, ceRules hk.1]; show rA E (yR E) 65 (up2 R a x r a) = _; rw [up2_at]) cef_neR hd kk
theorem t_rlen (F : mF X E own cc Ts) (hk : ckd a = 12 ∧ a < 353) (hd : decode cc pc = .ok (.arraylength, 1)) (kk : cW X nc ns (pc + 1) lv (iV 65 :: st) (gw E.1 cIds (cef E (I, R)) ++ T)) : cW X nc ns pc lv (.ref (E.1 a) :: st) (gw E.1 cIds (cef E (I, R)) ++ T) :=
  g_rlen F (cIds_in hk.2) (ceRules hk.1) hd kk
theorem t_qld (F : mF X E own cc Ts) (hk : ckd a = 13 ∧ a < 353) {x : Int} (h : 0 ≤ x ∧ x < 30) (b : Nat) (hb : a + 4 + x.toNat = b) (hd : decode cc pc = .ok (.aaload, 1)) (kk : cW X nc ns (pc + 1) lv (.ref (E.1 b) :: st) (gw E.1 cIds (cef E (I, R)) ++ T)) : cW X nc ns pc lv (iV x :: .ref (E.1 a) :: st) (gw E.1 cIds (cef E (I, R)) ++ T) := by
  subst hb
  exact g_qld F (cIds_in hk.2) (ceSols hk.1) h (by decide) hd kk
theorem t_qlen (F : mF X E own cc Ts) (hk : ckd a = 13 ∧ a < 353) (hd : decode cc pc = .ok (.arraylength, 1)) (kk : cW X nc ns (pc + 1) lv (iV 30 :: st) (gw E.1 cIds (cef E (I, R)) ++ T)) : cW X nc ns pc lv (.ref (E.1 a) :: st) (gw E.1 cIds (cef E (I, R)) ++ T) :=
  g_qlen F (cIds_in hk.2) (ceSols hk.1) hd kk
end THINGS
