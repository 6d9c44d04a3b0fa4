/-! ===== the law's own methods: a rule holds ===== -/
abbrev hQ4 : Type := Int × Int × Int × Int
def h174 (u : Int → Int) (N x17 : Int) : Nat → Int → hQ4 → hQ4
  | 0, _, s => s
  | k + 1, x, s => h174 u N x17 k (x + 1) (iAnd s.1 (if u x = u x17 then 0 else 1), iAnd s.2.1 (if u x = u x17 then 1 else 0), iAnd s.2.2.1 (if x + 1 < x17 then 1 else if u x17 ≤ u x then 0 else 1), iAnd s.2.2.2 (if x + 1 < x17 then 1 else if iabs (u x - u x17) < N then 0 else 1))
abbrev hS11 : Type := (Int × Int × Int × Int × Int) × (Int × Int) × hQ4
def h59 (u : Int → Int) (N : Int) : Nat → Int → hS11 → hS11
  | 0, _, s => s
  | k + 1, x, s => h59 u N k (x + 1) ((s.1.1 + u x, s.1.2.1 * u x, s.1.2.2.1 + (if u x ≤ s.1.2.2.2.1 then 0 else 1), imax s.1.2.2.2.1 (u x), s.1.2.2.2.2 + (if u x = N then 1 else 0)), (iAnd s.2.1.1 (if u x % 2 = 1 then 1 else 0), iAnd s.2.1.2 (if u x % 2 = 0 then 1 else 0)), h174 u N x x.toNat 0 s.2.2)
def hrow (s : hS11) (N T : Int) : Int → Int := upF (upF (upF (upF (upF (upF (upF (upF (upF (upF (upF (upF (fun _ => 0) 0 s.2.2.1) 1 (if s.1.1 = N then 1 else 0)) 2 (if s.1.2.1 = N then 1 else 0)) 3 s.2.2.2.2.1) 4 s.2.2.2.2.1) 5 (if s.1.2.2.1 = N then 1 else 0)) 6 s.2.1.1) 7 s.2.1.2) 8 (if s.1.2.2.2.2 = T then 1 else 0)) 9 (if s.1.2.2.2.2 = 1 then 1 else 0)) 10 s.2.2.2.2.2) 11 s.2.2.2.1
def bt (x : Int) : Prop := x = 0 ∨ x = 1
theorem bt_and {x y : Int} (hx : bt x) (hy : bt y) : bt (iAnd x y) := by
  rcases hx with rfl | rfl <;> rcases hy with rfl | rfl
  · exact Or.inl (by decide +kernel)
  · exact Or.inl (by decide +kernel)
  · exact Or.inl (by decide +kernel)
  · exact Or.inr (by decide +kernel)
theorem bt_i {p : Prop} [Decidable p] : bt (if p then 1 else 0) := by
  by_cases h : p
  · rw [if_pos h]; exact Or.inr rfl
  · rw [if_neg h]; exact Or.inl rfl
theorem bt_u {g : Int → Int} {x v : Int} (hg : ∀ z, bt (g z)) (hv : bt v) : ∀ z, bt (upF g x v z) := fun z => by
  by_cases h : z = x
  · subst h; rw [uFe]; exact hv
  · rw [uFn h]; exact hg z
section HO
variable {I : cI} {R : cR} {Q : Int → cI → cR → (Int → Int) → Prop} {a1 : Int} {f u : Int → Int} {n N : Int}
/-- the earlier cells of a cell -/
theorem p_174 {K59 : Int → Int → Int → Int → Int → Int → Int → Int → Int → Int → Int → Int → Int → Int → Int → (Int → Int) → cI → cR → Prop} {x3 x5 x6 x7 x8 x9 x10 x11 x12 x17 : Int} (hr : ∀ t (Q : Int → cI → cR → Prop), 0 ≤ t → t < n → (∀ y, 0 ≤ y → y < 4 → f y = u t → Q y I R) → wX11_rule a1 (4 + t) I R Q (fun _ _ _ => False)) (hu : ∀ t, 0 ≤ t → t < n → 1 ≤ u t ∧ u t ≤ 4) (h17 : 0 ≤ x17 ∧ x17 < n) (hn : n ≤ 3) :
    ∀ (k m : Nat) (x : Int) (s : hQ4), x + k = x17 → 0 ≤ x → k < m → bt s.1 → bt s.2.1 → bt s.2.2.1 → bt s.2.2.2 →
      (∀ s' : hQ4, s' = h174 u N x17 k x s → bt s'.1 → bt s'.2.1 → bt s'.2.2.1 → bt s'.2.2.2 → K59 x3 N x5 x6 x7 x8 x9 x10 x11 x12 s'.1 s'.2.1 s'.2.2.1 s'.2.2.2 (x17 + 1) f I R) →
      wL_holds_174 Q a1 K59 m x3 N x5 x6 x7 x8 x9 x10 x11 x12 s.1 s.2.1 s.2.2.1 s.2.2.2 x17 (u x17) x f I R := by
  intro k
  induction k with
  | zero =>
    intro m x s e x0 hm b1 b2 b3 b4 hK
    obtain ⟨m, rfl⟩ : ∃ m', m = m' + 1 := ⟨m - 1, by omega⟩
    show wbL_holds_174 Q a1 K59 (wL_holds_174 Q a1 K59 m) x3 N x5 x6 x7 x8 x9 x10 x11 x12 s.1 s.2.1 s.2.2.1 s.2.2.2 x17 (u x17) x f I R
    unfold wbL_holds_174
    refine ⟨fun _ => ⟨by unfold inR; omega, fun z ez => ?_⟩, fun c => absurd (show x17 ≤ x by omega) c⟩
    subst ez
    exact hK s rfl b1 b2 b3 b4
  | succ k ih =>
    intro m x s e x0 hm b1 b2 b3 b4 hK
    obtain ⟨m, rfl⟩ : ∃ m', m = m' + 1 := ⟨m - 1, by omega⟩
    have ux := hu x x0 (by omega)
    have u17 := hu x17 h17.1 h17.2
    show wbL_holds_174 Q a1 K59 (wL_holds_174 Q a1 K59 m) x3 N x5 x6 x7 x8 x9 x10 x11 x12 s.1 s.2.1 s.2.2.1 s.2.2.2 x17 (u x17) x f I R
    unfold wbL_holds_174
    refine ⟨fun c => absurd c (by omega), fun _ => ⟨by unfold inR; omega, hr x _ x0 (by omega) (fun y y0 y1 ey => ⟨⟨y0, y1⟩, fun z ez => ?_⟩)⟩⟩
    rw [ey] at ez
    subst ez
    have go : ∀ s' : hQ4, s' = (iAnd s.1 (if u x = u x17 then 0 else 1), iAnd s.2.1 (if u x = u x17 then 1 else 0), iAnd s.2.2.1 (if x + 1 < x17 then 1 else if u x17 ≤ u x then 0 else 1), iAnd s.2.2.2 (if x + 1 < x17 then 1 else if iabs (u x - u x17) < N then 0 else 1)) → wL_holds_174 Q a1 K59 m x3 N x5 x6 x7 x8 x9 x10 x11 x12 s'.1 s'.2.1 s'.2.2.1 s'.2.2.2 x17 (u x17) (x + 1) f I R := fun s' es => by
      have i1 : bt (if u x = u x17 then (0 : Int) else 1) := by split; exact Or.inl rfl; exact Or.inr rfl
      have i2 : bt (if x + 1 < x17 then (1 : Int) else if u x17 ≤ u x then 0 else 1) := by
        split
        · exact Or.inr rfl
        · split; exact Or.inl rfl; exact Or.inr rfl
      have i3 : bt (if x + 1 < x17 then (1 : Int) else if iabs (u x - u x17) < N then 0 else 1) := by
        split
        · exact Or.inr rfl
        · split; exact Or.inl rfl; exact Or.inr rfl
      subst es
      exact ih m (x + 1) _ (by omega) (by omega) (by omega) (bt_and b1 i1) (bt_and b2 bt_i) (bt_and b3 i2) (bt_and b4 i3) (fun s'' e'' => hK s'' e'')
    have h251 : ∀ v13 v14 y1, v13 = iAnd s.1 (if u x = u x17 then 0 else 1) → v14 = iAnd s.2.1 (if u x = u x17 then 1 else 0) → y1 = (if x + 1 < x17 then (1 : Int) else if u x17 ≤ u x then 0 else 1) → wL_holds_251 Q a1 K59 (wL_holds_174 Q a1 K59 m) x3 N x5 x6 x7 x8 x9 x10 x11 x12 v13 v14 s.2.2.2 x17 (u x17) x (u x) s.2.2.1 y1 f I R := fun v13 v14 y1 e13 e14 e15 => by
      unfold wL_holds_251
      intro z1 ez1
      refine ⟨by unfold inR; omega, fun c => fun z4 ez4 => ⟨by unfold inR; omega, fun z6 ez6 => ?_⟩, fun c => ⟨by unfold inR; omega, by unfold inR iabs; split <;> omega, fun d => fun z4 ez4 => ⟨by unfold inR; omega, fun z6 ez6 => ?_⟩, fun d => fun z4 ez4 => ⟨by unfold inR; omega, fun z6 ez6 => ?_⟩⟩⟩
      · subst ez6
        refine go (v13, v14, z1, z4) ?_
        rw [ez1, e13, e14, e15, ez4, if_pos c, if_pos c]
      · subst ez6
        refine go (v13, v14, z1, z4) ?_
        rw [ez1, e13, e14, e15, ez4, if_neg c, if_neg c, if_pos d]
      · subst ez6
        refine go (v13, v14, z1, z4) ?_
        rw [ez1, e13, e14, e15, ez4, if_neg c, if_neg c, if_neg d]
    have h225 : ∀ v13 y1, v13 = iAnd s.1 (if u x = u x17 then 0 else 1) → y1 = (if u x = u x17 then (1 : Int) else 0) → wL_holds_225 Q a1 K59 (wL_holds_174 Q a1 K59 m) x3 N x5 x6 x7 x8 x9 x10 x11 x12 v13 s.2.2.1 s.2.2.2 x17 (u x17) x (u x) s.2.1 y1 f I R := fun v13 y1 e13 e14 => by
      unfold wL_holds_225 wL_holds_246
      intro z1 ez1
      rw [e14] at ez1
      refine ⟨by unfold inR; omega, fun c => h251 _ _ _ e13 ez1 (by rw [if_pos c]), fun c => ⟨fun d => h251 _ _ _ e13 ez1 (by rw [if_neg c, if_pos d]), fun d => h251 _ _ _ e13 ez1 (by rw [if_neg c, if_neg d])⟩⟩
    have h208 : ∀ y1, y1 = (if u x = u x17 then (0 : Int) else 1) → wL_holds_208 Q a1 K59 (wL_holds_174 Q a1 K59 m) x3 N x5 x6 x7 x8 x9 x10 x11 x12 s.2.1 s.2.2.1 s.2.2.2 x17 (u x17) x (u x) s.1 y1 f I R := fun y1 e13 => by
      unfold wL_holds_208
      intro z1 ez1
      rw [e13] at ez1
      exact ⟨fun c => h225 _ _ ez1 (by rw [if_neg c]), fun c => h225 _ _ ez1 (by rw [if_pos c])⟩
    exact ⟨fun c => h208 _ (by rw [if_pos c]), fun c => h208 _ (by rw [if_neg c])⟩
/-- so large a product can be -/
def p4 (x : Int) : Int := if x ≤ 0 then 1 else if x ≤ 1 then 4 else if x ≤ 2 then 16 else 64
theorem p_59 {κ T : Int} (hk : 0 ≤ κ ∧ κ < 12) (hr : ∀ t (Q : Int → cI → cR → Prop), 0 ≤ t → t < n → (∀ y, 0 ≤ y → y < 4 → f y = u t → Q y I R) → wX11_rule a1 (4 + t) I R Q (fun _ _ _ => False)) (hr2 : ∀ (Q : Int → cI → cR → Prop), Q T I R → wX11_rule a1 2 I R Q (fun _ _ _ => False)) (hu : ∀ t, 0 ≤ t → t < n → 1 ≤ u t ∧ u t ≤ 4) (hn : n ≤ 3) :
    ∀ (k m : Nat) (x : Int) (s : hS11), x + k = n → 0 ≤ x → k < m → (0 ≤ s.1.1 ∧ s.1.1 ≤ 4 * x) → (0 ≤ s.1.2.1 ∧ s.1.2.1 ≤ p4 x) → (0 ≤ s.1.2.2.1 ∧ s.1.2.2.1 ≤ x) → (0 ≤ s.1.2.2.2.2 ∧ s.1.2.2.2.2 ≤ x) → bt s.2.1.1 → bt s.2.1.2 → bt s.2.2.1 → bt s.2.2.2.1 → bt s.2.2.2.2.1 → bt s.2.2.2.2.2 → Q (hrow (h59 u N k x s) N T κ) I R f →
      wL_holds_59 Q a1 m κ N n s.1.1 s.1.2.1 s.1.2.2.1 s.1.2.2.2.1 s.1.2.2.2.2 s.2.1.1 s.2.1.2 s.2.2.1 s.2.2.2.1 s.2.2.2.2.1 s.2.2.2.2.2 x f I R := by
  intro k
  induction k with
  | zero =>
    intro m x s e x0 hm h6 h7 h8 h10 b11 b12 b13 b14 b15 b16 hQ
    obtain ⟨m, rfl⟩ : ∃ m', m = m' + 1 := ⟨m - 1, by omega⟩
    show wbL_holds_59 Q a1 (wL_holds_59 Q a1 m) κ N n s.1.1 s.1.2.1 s.1.2.2.1 s.1.2.2.2.1 s.1.2.2.2.2 s.2.1.1 s.2.1.2 s.2.2.1 s.2.2.2.1 s.2.2.2.2.1 s.2.2.2.2.2 x f I R
    unfold wbL_holds_59
    refine ⟨fun _ g0 e0 => ⟨b13, fun g1 e1 => ?_⟩, fun c => absurd (show n ≤ x by omega) c⟩
    have z0 : ∀ z, bt (g0 z) := fun z => by rw [e0]; exact Or.inl rfl
    have z1 : ∀ z, bt (g1 z) := by rw [e1]; exact bt_u z0 b13
    have hQ' : Q (hrow s N T κ) I R f := hQ
    have h408 : ∀ y3 g, y3 = (if s.1.2.2.2.2 = 1 then (1 : Int) else 0) → (∀ z, bt (g z)) → g = upF (upF (upF (upF (upF (upF (upF (upF g1 1 (if s.1.1 = N then 1 else 0)) 2 (if s.1.2.1 = N then 1 else 0)) 3 s.2.2.2.2.1) 4 s.2.2.2.2.1) 5 (if s.1.2.2.1 = N then 1 else 0)) 6 s.2.1.1) 7 s.2.1.2) 8 (if s.1.2.2.2.2 = T then 1 else 0) → wL_holds_408 Q a1 κ s.2.2.2.1 s.2.2.2.2.2 9 y3 f g I R := fun y3 g ey zg eg => by
      unfold wL_holds_408
      have by3 : bt y3 := by rw [ey]; exact bt_i
      refine ⟨by decide, by3, fun f3 e3 => ⟨b16, fun f6 e6 => ⟨b14, fun f9 e9 => ⟨hk, ?_, ?_⟩⟩⟩⟩
      · rw [e9]; exact bt_u (by rw [e6]; exact bt_u (by rw [e3]; exact bt_u zg by3) b16) b14 κ
      · rw [e9, e6, e3, ey, eg, e1, e0]
        exact hQ'
    have h393 : ∀ y3 g, y3 = (if s.1.2.2.2.2 = T then (1 : Int) else 0) → (∀ z, bt (g z)) → g = upF (upF (upF (upF (upF (upF (upF g1 1 (if s.1.1 = N then 1 else 0)) 2 (if s.1.2.1 = N then 1 else 0)) 3 s.2.2.2.2.1) 4 s.2.2.2.2.1) 5 (if s.1.2.2.1 = N then 1 else 0)) 6 s.2.1.1) 7 s.2.1.2 → wL_holds_393 Q a1 κ s.1.2.2.2.2 s.2.2.2.1 s.2.2.2.2.2 8 y3 f g I R := fun y3 g ey zg eg => by
      unfold wL_holds_393
      have by3 : bt y3 := by rw [ey]; exact bt_i
      refine ⟨by decide, by3, fun f3 e3 => ⟨fun c => h408 _ _ (by rw [if_neg c]) (by rw [e3]; exact bt_u zg by3) (by rw [e3, eg, ey]), fun c => h408 _ _ (by rw [if_pos c]) (by rw [e3]; exact bt_u zg by3) (by rw [e3, eg, ey])⟩⟩
    have h361 : ∀ y3 g, y3 = (if s.1.2.2.1 = N then (1 : Int) else 0) → (∀ z, bt (g z)) → g = upF (upF (upF (upF g1 1 (if s.1.1 = N then 1 else 0)) 2 (if s.1.2.1 = N then 1 else 0)) 3 s.2.2.2.2.1) 4 s.2.2.2.2.1 → wL_holds_361 Q a1 κ s.1.2.2.2.2 s.2.1.1 s.2.1.2 s.2.2.2.1 s.2.2.2.2.2 5 y3 f g I R := fun y3 g ey zg eg => by
      unfold wL_holds_361
      have by3 : bt y3 := by rw [ey]; exact bt_i
      refine ⟨by decide, by3, fun f3 e3 => ⟨b11, fun f6 e6 => ⟨b12, fun f9 e9 => hr2 _ ?_⟩⟩⟩
      have z9 : ∀ z, bt (f9 z) := by rw [e9]; exact bt_u (by rw [e6]; exact bt_u (by rw [e3]; exact bt_u zg by3) b11) b12
      exact ⟨fun c => h393 _ _ (by rw [if_neg c]) z9 (by rw [e9, e6, e3, eg, ey]), fun c => h393 _ _ (by rw [if_pos c]) z9 (by rw [e9, e6, e3, eg, ey])⟩
    have h336 : ∀ y3 g, y3 = (if s.1.2.1 = N then (1 : Int) else 0) → (∀ z, bt (g z)) → g = upF g1 1 (if s.1.1 = N then 1 else 0) → wL_holds_336 Q a1 κ N s.1.2.2.1 s.1.2.2.2.2 s.2.1.1 s.2.1.2 s.2.2.2.1 s.2.2.2.2.1 s.2.2.2.2.2 2 y3 f g I R := fun y3 g ey zg eg => by
      unfold wL_holds_336
      have by3 : bt y3 := by rw [ey]; exact bt_i
      refine ⟨by decide, by3, fun f3 e3 => ⟨b15, fun f6 e6 => ⟨b15, fun f9 e9 => ?_⟩⟩⟩
      have z9 : ∀ z, bt (f9 z) := by rw [e9]; exact bt_u (by rw [e6]; exact bt_u (by rw [e3]; exact bt_u zg by3) b15) b15
      exact ⟨fun c => h361 _ _ (by rw [if_neg c]) z9 (by rw [e9, e6, e3, eg, ey]), fun c => h361 _ _ (by rw [if_pos c]) z9 (by rw [e9, e6, e3, eg, ey])⟩
    have h321 : ∀ y3 g, y3 = (if s.1.1 = N then (1 : Int) else 0) → (∀ z, bt (g z)) → g = g1 → wL_holds_321 Q a1 κ N s.1.2.1 s.1.2.2.1 s.1.2.2.2.2 s.2.1.1 s.2.1.2 s.2.2.2.1 s.2.2.2.2.1 s.2.2.2.2.2 1 y3 f g I R := fun y3 g ey zg eg => by
      unfold wL_holds_321
      have by3 : bt y3 := by rw [ey]; exact bt_i
      refine ⟨by decide, by3, fun f3 e3 => ?_⟩
      have z9 : ∀ z, bt (f3 z) := by rw [e3]; exact bt_u zg by3
      exact ⟨fun c => h336 _ _ (by rw [if_neg c]) z9 (by rw [e3, eg, ey]), fun c => h336 _ _ (by rw [if_pos c]) z9 (by rw [e3, eg, ey])⟩
    exact ⟨fun c => h321 _ _ (by rw [if_neg c]) z1 rfl, fun c => h321 _ _ (by rw [if_pos c]) z1 rfl⟩
  | succ k ih =>
    intro m x s e x0 hm h6 h7 h8 h10 b11 b12 b13 b14 b15 b16 hQ
    obtain ⟨m, rfl⟩ : ∃ m', m = m' + 1 := ⟨m - 1, by omega⟩
    have ux := hu x x0 (by omega)
    have hp4 : p4 x ≤ 16 ∧ 4 * p4 x ≤ p4 (x + 1) := by unfold p4; split <;> (try split) <;> (try split) <;> (try split) <;> (try split) <;> (try split) <;> omega
    have hm0 : 0 ≤ s.1.2.1 * u x := Int.mul_nonneg h7.1 (by omega)
    have hm1 : s.1.2.1 * u x ≤ p4 x * 4 := Int.mul_le_mul h7.2 ux.2 (by omega) (by omega)
    show wbL_holds_59 Q a1 (wL_holds_59 Q a1 m) κ N n s.1.1 s.1.2.1 s.1.2.2.1 s.1.2.2.2.1 s.1.2.2.2.2 s.2.1.1 s.2.1.2 s.2.2.1 s.2.2.2.1 s.2.2.2.2.1 s.2.2.2.2.2 x f I R
    unfold wbL_holds_59
    refine ⟨fun c => absurd c (by omega), fun _ => ⟨by unfold inR; omega, hr x _ x0 (by omega) (fun y y0 y1 ey => ⟨⟨y0, y1⟩, fun z ez => ⟨?_, fun z17 e17 => ⟨?_, fun z20 e20 => ?_⟩⟩⟩)⟩⟩
    · rw [ez, ey]; unfold inR; omega
    · rw [ez, ey]; unfold inR; omega
    · rw [ey] at ez
      subst ez
      have h168 : ∀ v8 v10 v11 y1, v8 = s.1.2.2.1 + (if u x ≤ s.1.2.2.2.1 then 0 else 1) → v10 = s.1.2.2.2.2 + (if u x = N then 1 else 0) → v11 = iAnd s.2.1.1 (if u x % 2 = 1 then 1 else 0) → y1 = (if u x % 2 = 0 then (1 : Int) else 0) → wL_holds_168 Q a1 (wL_holds_59 Q a1 m) κ N n z17 z20 v8 (imax s.1.2.2.2.1 (u x)) v10 v11 s.2.2.1 s.2.2.2.1 s.2.2.2.2.1 s.2.2.2.2.2 x (u x) s.2.1.2 y1 f I R := fun v8 v10 v11 y1 e8 e10 e11 e12 => by
        unfold wL_holds_168
        intro v12 ev12
        refine ⟨x.toNat + 1, p_174 hr hu ⟨x0, by omega⟩ hn x.toNat _ 0 s.2.2 (by omega) (Int.le_refl 0) (by omega) b13 b14 b15 b16 (fun s' es c1 c2 c3 c4 => ?_)⟩
        refine ih m (x + 1) ((z17, z20, v8, imax s.1.2.2.2.1 (u x), v10), (v11, v12), s') (by omega) (by omega) (by omega) ⟨by show 0 ≤ z17; omega, by show z17 ≤ _; omega⟩ ⟨by show 0 ≤ z20; omega, by show z20 ≤ _; omega⟩ ⟨by show 0 ≤ v8; rw [e8]; split <;> omega, by show v8 ≤ _; rw [e8]; split <;> omega⟩ ⟨by show 0 ≤ v10; rw [e10]; split <;> omega, by show v10 ≤ _; rw [e10]; split <;> omega⟩ (by show bt v11; rw [e11]; exact bt_and b11 bt_i) (by show bt v12; rw [ev12, e12]; exact bt_and b12 bt_i) c1 c2 c3 c4 ?_
        have hQ' : Q (hrow (h59 u N k (x + 1) ((s.1.1 + u x, s.1.2.1 * u x, s.1.2.2.1 + (if u x ≤ s.1.2.2.2.1 then 0 else 1), imax s.1.2.2.2.1 (u x), s.1.2.2.2.2 + (if u x = N then 1 else 0)), (iAnd s.2.1.1 (if u x % 2 = 1 then 1 else 0), iAnd s.2.1.2 (if u x % 2 = 0 then 1 else 0)), h174 u N x x.toNat 0 s.2.2)) N T κ) I R f := hQ
        rw [es, ev12, e12, e11, e10, e8, e17, e20]
        exact hQ'
      have h151 : ∀ v8 v10 y1, v8 = s.1.2.2.1 + (if u x ≤ s.1.2.2.2.1 then 0 else 1) → v10 = s.1.2.2.2.2 + (if u x = N then 1 else 0) → y1 = (if u x % 2 = 1 then (1 : Int) else 0) → wL_holds_151 Q a1 (wL_holds_59 Q a1 m) κ N n z17 z20 v8 (imax s.1.2.2.2.1 (u x)) v10 s.2.1.2 s.2.2.1 s.2.2.2.1 s.2.2.2.2.1 s.2.2.2.2.2 x (u x) s.2.1.1 y1 f I R := fun v8 v10 y1 e8 e10 e11 => by
        unfold wL_holds_151
        intro v11 ev11
        rw [e11] at ev11
        exact ⟨by omega, by unfold inR; omega, fun c => h168 _ _ _ _ e8 e10 ev11 (by rw [if_neg c]), fun c => h168 _ _ _ _ e8 e10 ev11 (by rw [if_pos c])⟩
      have h133 : ∀ v8 y1, v8 = s.1.2.2.1 + (if u x ≤ s.1.2.2.2.1 then 0 else 1) → y1 = (if u x = N then (1 : Int) else 0) → wL_holds_133 Q a1 (wL_holds_59 Q a1 m) κ N n z17 z20 v8 (imax s.1.2.2.2.1 (u x)) s.2.1.1 s.2.1.2 s.2.2.1 s.2.2.2.1 s.2.2.2.2.1 s.2.2.2.2.2 x (u x) s.1.2.2.2.2 y1 f I R := fun v8 y1 e8 e10 => by
        unfold wL_holds_133
        refine ⟨by rw [e10]; unfold inR; split <;> omega, fun v10 ev10 => ?_⟩
        rw [e10] at ev10
        exact ⟨by omega, by unfold inR; omega, fun c => h151 _ _ _ e8 ev10 (by rw [if_neg c]), fun c => h151 _ _ _ e8 ev10 (by rw [if_pos c])⟩
      have h107 : ∀ y1, y1 = (if u x ≤ s.1.2.2.2.1 then (0 : Int) else 1) → wL_holds_107 Q a1 (wL_holds_59 Q a1 m) κ N n z17 z20 s.1.2.2.2.1 s.1.2.2.2.2 s.2.1.1 s.2.1.2 s.2.2.1 s.2.2.2.1 s.2.2.2.2.1 s.2.2.2.2.2 x (u x) s.1.2.2.1 y1 f I R := fun y1 e8 => by
        unfold wL_holds_107
        refine ⟨by rw [e8]; unfold inR; split <;> omega, fun v8 ev8 z4 ez4 => ?_⟩
        rw [e8] at ev8
        subst ez4
        exact ⟨fun c => h133 _ _ ev8 (by rw [if_neg c]), fun c => h133 _ _ ev8 (by rw [if_pos c])⟩
      exact ⟨fun c => h107 _ (by rw [if_pos c]), fun c => h107 _ (by rw [if_neg c])⟩
end HO
