/-! ===== the first world ===== -/
def I00 : cI := fun a x => if a = 3 ∧ x = 1 then -1 else 0
def R00 : cR := fun a x => if a = 0 then (if x = 7 then 85 else if x = 8 then 89 else 0) else if a = 87 then 93 + x.toNat else if a = 91 then 158 + x.toNat else 0
def J00 : cI := fun a x => if a = 1000 ∧ x = 3 then -1 else 0
theorem cM_00 : cM I00 R00 := by
  refine ⟨fun a x => by unfold I00; split <;> (unfold inR; decide), Or.inl rfl, Or.inr rfl, fun p hp j hj => ?_, fun r hr => ?_⟩
  · rcases hp with rfl | rfl
    · show 93 ≤ 93 + j.toNat ∧ 93 + j.toNat < 223
      omega
    · show 93 ≤ 158 + j.toNat ∧ 158 + j.toNat < 223
      omega
  · unfold isR at hr
    unfold R00
    rw [if_neg (by omega), if_neg (by omega), if_neg (by omega)]
    decide
theorem INV_00 : INV I00 R00 J00 := by
  have i0 : ∀ a x, ¬ (a = 3 ∧ x = 1) → I00 a x = 0 := fun a x h => if_neg h
  have j0 : ∀ a x, ¬ (a = 1000 ∧ x = 3) → J00 a x = 0 := fun a x h => if_neg h
  have r7 : R00 0 7 = 85 := rfl
  have r8 : R00 0 8 = 89 := rfl
  have o1 : okp R00 85 := by
    refine ⟨Or.inl rfl, fun j j0 j1 => Or.inl ⟨rfl, ?_⟩, fun i j i0 i1 j0 j1 e => ?_⟩
    · show 93 ≤ 93 + j.toNat ∧ 93 + j.toNat < 158
      omega
    · have e' : 93 + i.toNat = 93 + j.toNat := e
      omega
  have o2 : okp R00 89 := by
    refine ⟨Or.inr rfl, fun j j0 j1 => Or.inr ⟨rfl, ?_⟩, fun i j i0 i1 j0 j1 e => ?_⟩
    · show 158 ≤ 158 + j.toNat ∧ 158 + j.toNat < 223
      omega
    · have e' : 158 + i.toNat = 158 + j.toNat := e
      omega
  have j14 : J00 1000 14 = 0 := j0 _ _ (by omega)
  unfold INV iP vP iS iT iW iK iE
  rw [r7, r8, j14]
  refine ⟨⟨o1, o2, by decide, by rw [i0 _ _ (by omega), j0 _ _ (by omega)], by rw [i0 _ _ (by omega), j0 _ _ (by omega)], by rw [i0 _ _ (by omega), j0 _ _ (by omega)], i0 _ _ (by omega), fun i i0 i1 => by omega, fun c c0 c1 => ?_⟩, ⟨Or.inl ⟨j0 _ _ (by omega), j0 _ _ (by omega), j0 _ _ (by omega), rfl⟩, by decide, by decide, fun i i0 i1 => by omega, ?_⟩, ⟨fun c c0 c1 => ?_, fun c c0 c1 => ?_, ?_, ?_⟩, ⟨?_, ?_, ?_, fun k k0 k1 => ?_⟩, ⟨?_, ?_, ?_, fun k k0 k1 => ?_⟩, ⟨?_, ?_, ?_, ?_, fun i c i0 i1 => ?_⟩, rfl⟩
  · rw [i0 _ _ (by omega), j0 1020 _ (by omega), j0 1000 13 (by omega)]; exact ⟨rfl, Int.le_refl 0, Int.le_refl 0⟩
  · rw [show cF (fun i => ¬ mr J00 1015 i 0 = 9) 0 0 = 0 from cF_e (Int.le_refl 0)]; decide
  · rw [i0 _ _ (by omega), j0 1030 _ (by omega)]; exact ⟨rfl, Int.le_refl 0, by decide⟩
  · rw [i0 _ _ (by omega)]; exact ⟨Int.le_refl 0, by decide⟩
  · rw [i0 _ _ (by omega), j0 _ _ (by omega)]
  · rw [i0 _ _ (by omega), j0 _ _ (by omega)]
  · rw [i0 _ _ (by omega), j0 _ _ (by omega)]
  · rw [j0 _ _ (by omega)]; decide
  · rw [j0 _ _ (by omega)]; decide
  · rw [j0 1000 2 (by omega)] at k1; omega
  · rw [i0 _ _ (by omega), j0 _ _ (by omega)]
  · rw [j0 _ _ (by omega)]; decide
  · rw [j0 _ _ (by omega)]; decide
  · rw [j0 1000 10 (by omega)] at k1; omega
  · rw [i0 _ _ (by omega), j0 _ _ (by omega)]
  · rw [j0 _ _ (by omega)]; decide
  · rw [j0 _ _ (by omega)]; decide
  · rw [i0 _ _ (by omega), j0 _ _ (by omega)]
  · rw [j0 1000 28 (by omega)] at i1; omega
/-! the list of things, seen by numbers -/
def nEq (w w' : va_W) : Prop := w.map (fun q => q.1) = w'.map (fun q => q.1) ∧ ∀ (D : va_G) (H : Heap), va_P D vwCl w H → va_P D vwCl w' H
theorem nEq_r {w : va_W} : nEq w w := ⟨rfl, fun _ _ h => h⟩
theorem nEq_e {w w' : va_W} (e : w = w') : nEq w w' := by subst e; exact nEq_r
theorem nEq_a {a b a' b' : va_W} (h : nEq a a') (g : nEq b b') : nEq (a ++ b) (a' ++ b') := ⟨by rw [List.map_append, List.map_append, h.1, g.1], fun D H p => va_P.app (h.2 D H (gP_left p)) (g.2 D H (gP_right p))⟩
theorem nEq_c {x y : Nat × va_E} {a a' : va_W} (h : nEq [x] [y]) (g : nEq a a') : nEq (x :: a) (y :: a') := nEq_a (a := [x]) (a' := [y]) h g
theorem nEq_row {q n : Nat} {c : ClassId} {f g : Nat → Option Nat} (h : ∀ j, j < n → f j = g j) : nEq [(q, .inl (c, n, .inr (.inr (.inr (.inr f)))))] [(q, .inl (c, n, .inr (.inr (.inr (.inr g)))))] := by
  refine ⟨rfl, fun D H p k x hx => ?_⟩
  have hk : k = 0 := by
    have := (List.getElem?_eq_some_iff.mp hx).1
    have : k < 1 := this
    omega
  subst hk
  cases hx
  have e : vp_cell c (n, .inr (.inr (.inr (.inr f)))) = vp_cell c (n, .inr (.inr (.inr (.inr g)))) := by
    show arrV c n (fun j => va_rf (f j)) = arrV c n (fun j => va_rf (g j))
    unfold arrV
    congr 1
    refine congrArg Array.ofFn (funext fun j => ?_)
    show va_rf (f j.1) = va_rf (g j.1)
    rw [h j.1 j.2]
  have h0 := p 0 (q, .inl (c, n, .inr (.inr (.inr (.inr f))))) rfl
  show H[q]? = some (vp_cell c (n, .inr (.inr (.inr (.inr g)))))
  rw [← e]
  exact h0
theorem nEq_g {ad : Nat → Nat} {e : Nat → va_E} {a b : List Nat} {w w' : va_W} (h : nEq w (gw ad a e)) (g : nEq w' (gw ad b e)) : nEq (w ++ w') (gw ad (a ++ b) e) := by
  have : gw ad (a ++ b) e = gw ad a e ++ gw ad b e := List.map_append
  rw [this]
  exact nEq_a h g
theorem n_eq {X : xC} {nc ns pc : Nat} {lv : List (Nat × Value)} {st : List Value} {w w' : va_W} (h : nEq w w') (k : cW X nc ns pc lv st w') : cW X nc ns pc lv st w := fun H locs ls hP hD hS hl => by
  have hd := nD_iff.mp hD
  refine k H locs ls (h.2 _ _ hP) (nD_iff.mpr ⟨by rw [← h.1]; exact hd.1, fun q hq => ?_⟩) hS hl
  have : q.1 ∈ w.map (fun q => q.1) := by rw [h.1]; exact List.mem_map.mpr ⟨q, hq, rfl⟩
  obtain ⟨q', hq', e⟩ := List.mem_map.mp this
  rw [← e]
  exact hd.2 q' hq'
def idsM : List Nat := 0 :: ((((((((([] ++ [1, 2]) ++ [3, 4, 5, 6, 7]) ++ [8, 9]) ++ ([10, 11, 12, 13, 14] ++ (List.range 30).map (fun i => 15 + i))) ++ ([45, 46, 47, 48, 49] ++ (List.range 30).map (fun i => 50 + i))) ++ [80, 81, 82]) ++ [83, 84]) ++ ([85, 86, 87, 88] ++ (List.range 65).flatMap (fun i => [93 + i, 223 + i]))) ++ ([89, 90, 91, 92] ++ (List.range 65).flatMap (fun i => [158 + i, 288 + i])))
theorem idsM_p : idsM.Perm cIds := by
  refine List.isPerm_iff.mp ?_
  decide +kernel
def adMill (h0 : Nat) (u : uMill) (z : Nat → Nat) (i : Nat) : Nat :=
  if 1000 ≤ i then z i else if i < 15 then [h0, u.1.1, u.1.2, u.2.1.1, u.2.1.2.1, u.2.1.2.2.1, u.2.1.2.2.2.1, u.2.1.2.2.2.2, u.2.2.1.1, u.2.2.1.2, u.2.2.2.1.1, u.2.2.2.1.2.1, u.2.2.2.1.2.2.1, u.2.2.2.1.2.2.2.1, u.2.2.2.1.2.2.2.2.1].getD i 0
  else if i < 45 then u.2.2.2.1.2.2.2.2.2 (i - 15)
  else if i < 50 then [u.2.2.2.2.1.1, u.2.2.2.2.1.2.1, u.2.2.2.2.1.2.2.1, u.2.2.2.2.1.2.2.2.1, u.2.2.2.2.1.2.2.2.2.1].getD (i - 45) 0
  else if i < 80 then u.2.2.2.2.1.2.2.2.2.2 (i - 50)
  else if i < 93 then [u.2.2.2.2.2.1.1, u.2.2.2.2.2.1.2.1, u.2.2.2.2.2.1.2.2, u.2.2.2.2.2.2.1.1, u.2.2.2.2.2.2.1.2, u.2.2.2.2.2.2.2.1.1, u.2.2.2.2.2.2.2.1.2.1, u.2.2.2.2.2.2.2.1.2.2.1, u.2.2.2.2.2.2.2.1.2.2.2.1, u.2.2.2.2.2.2.2.2.1, u.2.2.2.2.2.2.2.2.2.1, u.2.2.2.2.2.2.2.2.2.2.1, u.2.2.2.2.2.2.2.2.2.2.2.1].getD (i - 80) 0
  else if i < 158 then (u.2.2.2.2.2.2.2.1.2.2.2.2.getD (i - 93) (0, 0)).1
  else if i < 223 then (u.2.2.2.2.2.2.2.2.2.2.2.2.getD (i - 158) (0, 0)).1
  else if i < 288 then (u.2.2.2.2.2.2.2.1.2.2.2.2.getD (i - 223) (0, 0)).2
  else (u.2.2.2.2.2.2.2.2.2.2.2.2.getD (i - 288) (0, 0)).2
theorem rng_L {α : Type} {L : List α} {n : Nat} (h : L.length = n) (d : α) : L = (List.range n).map (fun i => L.getD i d) := by
  refine List.ext_getElem (by rw [List.length_map, List.length_range]; exact h) (fun i h1 h2 => ?_)
  rw [List.getElem_map, List.getElem_range]
  rw [List.getD_eq_getElem?_getD, List.getElem?_eq_getElem h1]; rfl
theorem fmap_c {α β : Type} {l : List α} {f g : α → List β} (h : ∀ x ∈ l, f x = g x) : l.flatMap f = l.flatMap g := by
  unfold List.flatMap
  rw [List.map_congr_left h]
section ME
variable {E : cE} {h0 : Nat} {u : uMill} {z : Nat → Nat}
abbrev eM (E : cE) (h0 : Nat) (u : uMill) (z : Nat → Nat) : Nat → va_E := cef (adMill h0 u z, E.2) (I00, R00)
theorem me_rows {r : Nat → Nat} {b : Nat} (hb : b = 15 ∨ b = 50) (h : ∀ i, i < 30 → adMill h0 u z (b + i) = r i) : nEq ((List.range 30).map (fun i => (r i, iA E 25 (fun _ => 0)))) (gw (adMill h0 u z) ((List.range 30).map (fun i => b + i)) (eM E h0 u z)) := by
  refine nEq_e ?_
  unfold gw
  rw [List.map_map]
  refine List.map_congr_left (fun i hi => ?_)
  have hi' := List.mem_range.mp hi
  have ha : isA 25 (b + i) := by
    have := kS5a i hi'
    rcases hb with rfl | rfl
    · exact this.1
    · exact this.2
  show _ = (adMill h0 u z (b + i), cent _ (b + i) (I00 (b + i)) (R00 (b + i)))
  rw [h i hi', ceRow ha]
  have : I00 (b + i) = fun _ => 0 := by funext x; unfold I00; rw [if_neg (by omega)]
  rw [this]
theorem me_rules {L : List (Nat × Nat)} {b : Nat} (hL : L.length = 65) (hb : b = 93 ∨ b = 158) (h1 : ∀ i, i < 65 → adMill h0 u z (b + i) = (L.getD i (0, 0)).1) (h2 : ∀ i, i < 65 → adMill h0 u z (b + 130 + i) = (L.getD i (0, 0)).2) : nEq (rulW E L) (gw (adMill h0 u z) ((List.range 65).flatMap (fun i => [b + i, b + 130 + i])) (eM E h0 u z)) := by
  refine nEq_e ?_
  rw [rng_L hL (0, 0)]
  unfold gw rulW
  rw [List.map_flatMap, List.flatMap_map]
  refine fmap_c (fun i hi => ?_)
  have hi' := List.mem_range.mp hi
  have hr : isR (b + i) := by unfold isR; omega
  have e5 := kR4 hr
  rw [show b + i + 130 = b + 130 + i by omega] at e5
  have z1 : ∀ x, I00 (b + i) x = 0 := fun x => if_neg (by omega)
  have z2 : I00 (b + 130 + i) = fun _ => 0 := by funext x; unfold I00; rw [if_neg (by omega)]
  have z3 : R00 (b + i) 0 = 0 := by unfold R00; rw [if_neg (by omega), if_neg (by omega), if_neg (by omega)]
  show _ = [(adMill h0 u z (b + i), cent _ (b + i) (I00 (b + i)) (R00 (b + i))), (adMill h0 u z (b + 130 + i), cent _ (b + 130 + i) (I00 (b + 130 + i)) (R00 (b + 130 + i)))]
  rw [ceRule (kR0 hr).1, ceRow e5, z2, z3, z1, z1, z1, z1, show b + i + 130 = b + 130 + i by omega, ← h1 i hi', ← h2 i hi']
theorem mill_eq (hp : u.2.2.2.2.2.2.2.1.2.2.2.2.length = 65) (hd : u.2.2.2.2.2.2.2.2.2.2.2.2.length = 65) : nEq (wMill E h0 u) (gw (adMill h0 u z) idsM (eM E h0 u z)) := by
  have g1 : ∀ (c : Bool) (L : List (Nat × Nat)) (b : Nat), L.length = 65 → (∀ i, i < 65 → adMill h0 u z (b + i) = (L.getD i (0, 0)).1) → ∀ j, j < 65 → (L[j]?).map (fun p => p.1) = some (adMill h0 u z (b + j)) := fun c L b hL h j hj => by
    rw [h j hj, List.getD_eq_getElem?_getD, List.getElem?_eq_getElem (by omega)]; rfl
  have a15 : ∀ i, i < 30 → adMill h0 u z (15 + i) = u.2.2.2.1.2.2.2.2.2 i := fun i hi => by
    unfold adMill
    rw [if_neg (show ¬ 1000 ≤ _ by omega), if_neg (by omega), if_pos (by omega), show 15 + i - 15 = i by omega]
  have a50 : ∀ i, i < 30 → adMill h0 u z (50 + i) = u.2.2.2.2.1.2.2.2.2.2 i := fun i hi => by
    unfold adMill
    rw [if_neg (show ¬ 1000 ≤ _ by omega), if_neg (by omega), if_neg (by omega), if_neg (by omega), if_pos (by omega), show 50 + i - 50 = i by omega]
  have a93 : ∀ i, i < 65 → adMill h0 u z (93 + i) = (u.2.2.2.2.2.2.2.1.2.2.2.2.getD i (0, 0)).1 := fun i hi => by
    unfold adMill
    rw [if_neg (show ¬ 1000 ≤ _ by omega), if_neg (by omega), if_neg (by omega), if_neg (by omega), if_neg (by omega), if_neg (by omega), if_pos (by omega), show 93 + i - 93 = i by omega]
  have a158 : ∀ i, i < 65 → adMill h0 u z (158 + i) = (u.2.2.2.2.2.2.2.2.2.2.2.2.getD i (0, 0)).1 := fun i hi => by
    unfold adMill
    rw [if_neg (show ¬ 1000 ≤ _ by omega), if_neg (by omega), if_neg (by omega), if_neg (by omega), if_neg (by omega), if_neg (by omega), if_neg (by omega), if_pos (by omega), show 158 + i - 158 = i by omega]
  have a223 : ∀ i, i < 65 → adMill h0 u z (93 + 130 + i) = (u.2.2.2.2.2.2.2.1.2.2.2.2.getD i (0, 0)).2 := fun i hi => by
    unfold adMill
    rw [if_neg (show ¬ 1000 ≤ _ by omega), if_neg (by omega), if_neg (by omega), if_neg (by omega), if_neg (by omega), if_neg (by omega), if_neg (by omega), if_neg (by omega), if_pos (by omega), show 93 + 130 + i - 223 = i by omega]
  have a288 : ∀ i, i < 65 → adMill h0 u z (158 + 130 + i) = (u.2.2.2.2.2.2.2.2.2.2.2.2.getD i (0, 0)).2 := fun i hi => by
    unfold adMill
    rw [if_neg (show ¬ 1000 ≤ _ by omega), if_neg (by omega), if_neg (by omega), if_neg (by omega), if_neg (by omega), if_neg (by omega), if_neg (by omega), if_neg (by omega), if_neg (by omega), show 158 + 130 + i - 288 = i by omega]
  refine nEq_c (nEq_e rfl) (nEq_g (nEq_g (nEq_g (nEq_g (nEq_g (nEq_g (nEq_g (nEq_g (nEq_g (nEq_e rfl) (nEq_e rfl)) (nEq_e rfl)) (nEq_e rfl)) (nEq_g ?_ (me_rows (Or.inl rfl) a15))) (nEq_g ?_ (me_rows (Or.inr rfl) a50))) (nEq_e rfl)) (nEq_e rfl)) (nEq_g ?_ (me_rules hp (Or.inl rfl) a93 a223))) (nEq_g ?_ (me_rules hd (Or.inr rfl) a158 a288)))
  · refine nEq_c (nEq_e rfl) (nEq_c (nEq_row (fun j hj => ?_)) (nEq_e rfl))
    rw [if_pos hj, ← a15 j hj]
    show some (adMill h0 u z (15 + j)) = some (adMill h0 u z (11 + 4 + (j : Int).toNat))
    rw [show 11 + 4 + (j : Int).toNat = 15 + j by omega]
  · refine nEq_c (nEq_e rfl) (nEq_c (nEq_row (fun j hj => ?_)) (nEq_e rfl))
    rw [if_pos hj, ← a50 j hj]
    show some (adMill h0 u z (50 + j)) = some (adMill h0 u z (46 + 4 + (j : Int).toNat))
    rw [show 46 + 4 + (j : Int).toNat = 50 + j by omega]
  · refine nEq_c (nEq_e rfl) (nEq_c (nEq_e rfl) (nEq_c (nEq_row (fun j hj => ?_)) (nEq_e rfl)))
    rw [g1 true _ 93 hp a93 j hj]
    show some (adMill h0 u z (93 + j)) = some (adMill h0 u z (93 + (j : Int).toNat))
    rw [show 93 + (j : Int).toNat = 93 + j by omega]
  · refine nEq_c (nEq_e rfl) (nEq_c (nEq_e rfl) (nEq_c (nEq_row (fun j hj => ?_)) (nEq_e rfl)))
    rw [g1 true _ 158 hd a158 j hj]
    show some (adMill h0 u z (158 + j)) = some (adMill h0 u z (158 + (j : Int).toNat))
    rw [show 158 + (j : Int).toNat = 158 + j by omega]
end ME
