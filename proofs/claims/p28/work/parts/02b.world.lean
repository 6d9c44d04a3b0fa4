/-! ===== worlds of numbered things ===== -/
def gw (ad : Nat → Nat) (ids : List Nat) (e : Nat → va_E) : va_W := ids.map (fun i => (ad i, e i))
def gA (ad : Nat → Nat) (ids : List Nat) (sz : Nat) : Nat → Prop := fun q => (∃ i, i ∈ ids ∧ q = ad i) ∨ sz ≤ q
theorem gw_get {ad : Nat → Nat} {ids : List Nat} {e : Nat → va_E} {T : va_W} {i : Nat} (hi : i ∈ ids) : ∃ k : Nat, (gw ad ids e ++ T)[k]? = some (ad i, e i) ∧ ids[k]? = some i := by
  obtain ⟨k, hk⟩ := List.getElem?_of_mem hi
  refine ⟨k, ?_, hk⟩
  have hl : k < (gw ad ids e).length := by unfold gw; rw [List.length_map]; exact (List.getElem?_eq_some_iff.mp hk).1
  rw [List.getElem?_append_left hl]
  unfold gw
  rw [List.getElem?_map, hk]
  rfl
theorem gw_tmp {ad : Nat → Nat} {ids : List Nat} {e : Nat → va_E} {T : va_W} (j : Nat) {x : Nat × va_E} (h : T[j]? = some x) : (gw ad ids e ++ T)[ids.length + j]? = some x := by
  have hl : (gw ad ids e).length = ids.length := by unfold gw; rw [List.length_map]
  rw [List.getElem?_append_right (by omega), hl, Nat.add_sub_cancel_left]
  exact h
theorem gw_setT {ad : Nat → Nat} {ids : List Nat} {e : Nat → va_E} {T : va_W} (j : Nat) (x : Nat × va_E) : (gw ad ids e ++ T).set (ids.length + j) x = gw ad ids e ++ T.set j x := by
  have hl : (gw ad ids e).length = ids.length := by unfold gw; rw [List.length_map]
  rw [List.set_append_right _ _ (by omega), hl, Nat.add_sub_cancel_left]
theorem gw_set {ad : Nat → Nat} {ids : List Nat} {e e' : Nat → va_E} {T : va_W} {i k : Nat} {x : va_E} (hnd : ids.Nodup) (hk : ids[k]? = some i) (hx : e' i = x) (hne : ∀ j, j ≠ i → e' j = e j) : (gw ad ids e ++ T).set k (ad i, x) = gw ad ids e' ++ T := by
  have hkl : k < ids.length := (List.getElem?_eq_some_iff.mp hk).1
  have hl : (gw ad ids e).length = ids.length := by unfold gw; rw [List.length_map]
  rw [List.set_append_left _ _ (by omega)]
  congr 1
  apply List.ext_getElem?
  intro j
  unfold gw
  rw [List.getElem?_map]
  by_cases hj : j = k
  · subst hj
    rw [List.getElem?_set_self (by rw [List.length_map]; exact hkl), hk, ← hx]
    rfl
  · rw [List.getElem?_set_ne (fun z => hj z.symm), List.getElem?_map]
    cases hq : ids[j]? with
    | none => rfl
    | some a =>
      have ha : a ≠ i := fun z => hj ((List.getElem?_inj (List.getElem?_eq_some_iff.mp hq).1 hnd).mp (hq.trans (by rw [z, hk])))
      show some (ad a, e a) = some (ad a, e' a)
      rw [hne a ha]
theorem gw_D {ad : Nat → Nat} {ids : List Nat} {e e' : Nat → va_E} {A : Nat → Prop} (h : va_D A (gw ad ids e)) : va_D A (gw ad ids e') := by
  have key : ∀ (f : Nat → va_E) (k : Nat) (q : Nat × va_E), (gw ad ids f)[k]? = some q → ∃ i, ids[k]? = some i ∧ q = (ad i, f i) := by
    intro f k q hq
    unfold gw at hq
    rw [List.getElem?_map] at hq
    cases hk : ids[k]? with
    | none => rw [hk] at hq; cases hq
    | some i => rw [hk] at hq; exact ⟨i, rfl, (Option.some.inj hq).symm⟩
  have back : ∀ (k i : Nat), ids[k]? = some i → (gw ad ids e)[k]? = some (ad i, e i) := by
    intro k i hk
    unfold gw
    rw [List.getElem?_map, hk]
    rfl
  refine ⟨fun i j p q hp hq hpq => ?_, fun k q hq => ?_⟩
  · obtain ⟨a, ha, rfl⟩ := key _ i p hp
    obtain ⟨b, hb, rfl⟩ := key _ j q hq
    exact h.1 i j _ _ (back i a ha) (back j b hb) hpq
  · obtain ⟨a, ha, rfl⟩ := key _ k q hq
    have := h.2 k _ (back k a ha)
    exact this
theorem gw_A {ad : Nat → Nat} {ids : List Nat} {e : Nat → va_E} {A : Nat → Prop} {sz : Nat} (h : va_D A (gw ad ids e)) : va_D (gA ad ids sz) (gw ad ids e) := by
  refine ⟨h.1, fun k q hq => Or.inl ?_⟩
  unfold gw at hq
  rw [List.getElem?_map] at hq
  cases hk : ids[k]? with
  | none => rw [hk] at hq; cases hq
  | some i =>
    rw [hk] at hq
    cases hq
    exact ⟨i, List.mem_of_getElem? hk, rfl⟩
theorem gw_left {ad : Nat → Nat} {ids : List Nat} {e : Nat → va_E} {T : va_W} {A : Nat → Prop} (h : va_D A (gw ad ids e ++ T)) : va_D A (gw ad ids e) := by
  have key : ∀ (k : Nat) (q : Nat × va_E), (gw ad ids e)[k]? = some q → (gw ad ids e ++ T)[k]? = some q := by
    intro k q hq
    rw [List.getElem?_append_left (List.getElem?_eq_some_iff.mp hq).1]
    exact hq
  exact ⟨fun i j p q hp hq hpq => h.1 i j p q (key i p hp) (key j q hq) hpq, fun k q hq => h.2 k q (key k q hq)⟩
theorem gP_left {D : va_G} {w T : va_W} {H : Heap} (h : va_P D vwCl (w ++ T) H) : va_P D vwCl w H := fun k q hq => h k q (by rw [List.getElem?_append_left (List.getElem?_eq_some_iff.mp hq).1]; exact hq)
theorem gP_right {D : va_G} {w T : va_W} {H : Heap} (h : va_P D vwCl (w ++ T) H) : va_P D vwCl T H := fun k q hq => h (w.length + k) q (by rw [List.getElem?_append_right (by omega), Nat.add_sub_cancel_left]; exact hq)
/-- behind a call that may change the numbered things alone: what stands beside them stays -/
theorem gP_join {D : va_G} {ad : Nat → Nat} {ids : List Nat} {e e' : Nat → va_E} {T : va_W} {A : Nat → Prop} {H H1 : Heap} (hP : va_P D vwCl (gw ad ids e ++ T) H) (hD : va_D A (gw ad ids e ++ T)) (hk : ∀ q : Nat, q < H.size → ¬ gA ad ids H.size q → H1[q]? = H[q]?) (hP1 : va_P D vwCl (gw ad ids e') H1) : va_P D vwCl (gw ad ids e' ++ T) H1 := by
  refine va_P.app hP1 (va_P.kept (gP_right hP) (fun k q hq => ?_))
  have hat : (gw ad ids e ++ T)[(gw ad ids e).length + k]? = some q := by rw [List.getElem?_append_right (by omega), Nat.add_sub_cancel_left]; exact hq
  refine hk q.1 ((gP_right hP k q hq).lt) (fun z => ?_)
  rcases z with ⟨i, hi, hqi⟩ | z
  · obtain ⟨k2, h2, -⟩ := gw_get (ad := ad) (e := e) (T := T) hi
    have hl2 : k2 < (gw ad ids e).length ∨ ¬ k2 < (gw ad ids e).length := Classical.em _
    obtain ⟨k3, h3⟩ := List.getElem?_of_mem hi
    have h4 : (gw ad ids e ++ T)[k3]? = some (ad i, e i) := by
      have hl3 : k3 < (gw ad ids e).length := by unfold gw; rw [List.length_map]; exact (List.getElem?_eq_some_iff.mp h3).1
      rw [List.getElem?_append_left hl3]
      unfold gw
      rw [List.getElem?_map, h3]
      rfl
    have hl3 : k3 < (gw ad ids e).length := by unfold gw; rw [List.length_map]; exact (List.getElem?_eq_some_iff.mp h3).1
    have := hD.1 _ _ _ _ hat h4 hqi
    omega
  · have := (gP_right hP k q hq).lt
    omega
theorem gD_join {ad : Nat → Nat} {ids : List Nat} {e e' : Nat → va_E} {T : va_W} {A : Nat → Prop} (hD : va_D A (gw ad ids e ++ T)) : va_D A (gw ad ids e' ++ T) := by
  have key : ∀ (k : Nat) (q : Nat × va_E), (gw ad ids e' ++ T)[k]? = some q → ∃ q', (gw ad ids e ++ T)[k]? = some q' ∧ q'.1 = q.1 := by
    intro k q hq
    have hl : (gw ad ids e).length = (gw ad ids e').length := by unfold gw; rw [List.length_map, List.length_map]
    by_cases h : k < (gw ad ids e').length
    · rw [List.getElem?_append_left h] at hq
      unfold gw at hq
      rw [List.getElem?_map] at hq
      cases hk : ids[k]? with
      | none => rw [hk] at hq; cases hq
      | some i =>
        rw [hk] at hq
        cases hq
        refine ⟨(ad i, e i), ?_, rfl⟩
        rw [List.getElem?_append_left (by omega)]
        unfold gw
        rw [List.getElem?_map, hk]
        rfl
    · rw [List.getElem?_append_right (by omega)] at hq
      exact ⟨q, by rw [List.getElem?_append_right (by omega), hl]; exact hq, rfl⟩
  refine ⟨fun i j p q hp hq hpq => ?_, fun k q hq => ?_⟩
  · obtain ⟨p', h1, h2⟩ := key i p hp
    obtain ⟨q', h3, h4⟩ := key j q hq
    exact hD.1 i j p' q' h1 h3 (h2.trans (hpq.trans h4.symm))
  · obtain ⟨q', h1, h2⟩ := key k q hq
    rw [← h2]
    exact hD.2 k q' h1
/-- rows of numbers, of references to numbered things -/
abbrev iA (E : cE) (n : Nat) (g : Int → Int) : va_E := .inl ((yI E), n, .inl (fun j => Int32.ofInt (g (j : Int))))
abbrev rA (E : cE) (c : ClassId) (n : Nat) (g : Int → Nat) : va_E := .inl (c, n, .inr (.inr (.inr (.inr (fun j => some (E.1 (g (j : Int))))))))
section GROWS
variable {X : xC} {E : cE} {own : String} {cc : ByteArray} {Ts : List Cond} {nc ns pc : Nat} {lv lv' : List (Nat × Value)} {st : List Value} {ids : List Nat} {e e' : Nat → va_E} {T : va_W} {i : Nat}
theorem g_get (F : mF X E own cc Ts) (hi : i ∈ ids) {ci : Nat} {fs : List Value} (he : e i = .inr (ci, fs)) {C ref : String} {TT : u_T} {N index : Nat} (hc : vwCl[ci]? = some (C, TT, N)) (hin : ∀ w ∈ u_ws C TT N, w ∈ Ts) (k : Nat) (hk : k < N) (hl : Cond.fieldLink own index ref (TT k).2.1 (TT k).2.2.1 ∈ Ts) (hr : (TT k).1 = ref) {v : Value} (hv : fs[k]? = some v) (hd : decode cc pc = .ok (.getfield index, 3))
    (kk : cW X nc ns (pc + 3) lv (v :: st) (gw E.1 ids e ++ T)) : cW X nc ns pc lv (.ref (E.1 i) :: st) (gw E.1 ids e ++ T) := by
  intro H locs ls hP hD hS hlv
  obtain ⟨q, hq, -⟩ := gw_get (ad := E.1) (e := e) (T := T) hi
  rw [he] at hq
  exact va_get F.hx F.hb F.ht hin F.ho F.hK hP q hq hc k hk (F.ht _ hl) (fun x h => by rw [← hr]; exact h) hv hd (kk H locs ls hP hD hS hlv)
theorem g_put (F : mF X E own cc Ts) (hnd : ids.Nodup) (hi : i ∈ ids) {ci : Nat} {fs : List Value} (he : e i = .inr (ci, fs)) {C ref : String} {TT : u_T} {N index : Nat} (hc : vwCl[ci]? = some (C, TT, N)) (hin : ∀ w ∈ u_ws C TT N, w ∈ Ts) (ty0 : Nat → FieldType) (hty : ∀ k, k < N → parseFieldDescriptor (TT k).2.2.1 = some (ty0 k)) (hnm : ∀ a, a < N → ∀ b, b < N → a ≠ b → (TT a).2.1 ≠ (TT b).2.1) (k : Nat) (hk : k < N) (hl : Cond.fieldLink own index ref (TT k).2.1 (TT k).2.2.1 ∈ Ts) (hr : (TT k).1 = ref) (hfin : (TT k).2.2.2 = false) {ty : FieldType} {v : Value} (hdd : parseFieldDescriptor (TT k).2.2.1 = some ty) (hn : narrow ty v = v) (hfit : fits ty v = true) (hlen : k < fs.length)
    (hset : e' i = .inr (ci, fs.set k v)) (hne : ∀ j, j ≠ i → e' j = e j) (hd : decode cc pc = .ok (.putfield index, 3))
    (kk : cW X nc ns (pc + 3) lv st (gw E.1 ids e' ++ T)) : cW X nc ns pc lv (v :: .ref (E.1 i) :: st) (gw E.1 ids e ++ T) := by
  intro H locs ls hP hD hS hlv
  obtain ⟨q, hq, hqi⟩ := gw_get (ad := E.1) (e := e) (T := T) hi
  rw [he] at hq
  refine va_put F.hx F.hb F.ht hin ty0 hty hnm F.ho F.hK hP hD hS q hq hc k hk (F.ht _ hl) (fun x h => by rw [← hr]; exact h) hfin hdd hn hfit hlen hd (fun H1 locs1 hP1 hD1 hS1 => ?_)
  rw [gw_set hnd hqi hset hne] at hP1 hD1
  exact kk H1 locs1 ls hP1 hD1 hS1 hlv
theorem g_ald (F : mF X E own cc Ts) (hi : i ∈ ids) {n : Nat} {g : Int → Int} (he : e i = iA E n g) {x : Int} (h : 0 ≤ x ∧ x < n) (hn : n < 2147483648) (hd : decode cc pc = .ok (.iaload, 1))
    (kk : cW X nc ns (pc + 1) lv (iV (g x) :: st) (gw E.1 ids e ++ T)) : cW X nc ns pc lv (iV x :: .ref (E.1 i) :: st) (gw E.1 ids e ++ T) := by
  intro H locs ls hP hD hS hlv
  obtain ⟨q, hq, -⟩ := gw_get (ad := E.1) (e := e) (T := T) hi
  rw [he] at hq
  refine va_iald F.hx F.hb F.hK hP q 0 hq rfl (ti_in h.1 h.2 hn) hd ?_
  rw [ti_cln h.1 h.2 hn, Int.toNat_of_nonneg h.1]
  exact kk H locs ls hP hD hS hlv
theorem g_ast (F : mF X E own cc Ts) (hnd : ids.Nodup) (hi : i ∈ ids) {n : Nat} {g : Int → Int} (he : e i = iA E n g) {x y : Int} (h : 0 ≤ x ∧ x < n) (hn : n < 2147483648) (hset : e' i = iA E n (fun j => if j = x then y else g j)) (hne : ∀ j, j ≠ i → e' j = e j) (hd : decode cc pc = .ok (.iastore, 1))
    (kk : cW X nc ns (pc + 1) lv st (gw E.1 ids e' ++ T)) : cW X nc ns pc lv (iV y :: iV x :: .ref (E.1 i) :: st) (gw E.1 ids e ++ T) := by
  intro H locs ls hP hD hS hlv
  obtain ⟨q, hq, hqi⟩ := gw_get (ad := E.1) (e := e) (T := T) hi
  rw [he] at hq
  refine va_iast F.hx F.hb F.hK hP hD hS q 0 hq rfl (ti_in h.1 h.2 hn) hd (fun H1 locs1 hP1 hD1 hS1 => ?_)
  have hu : upd (fun j : Nat => Int32.ofInt (g (j : Int))) (Int32.ofInt x).toNatClampNeg (Int32.ofInt y) = fun j : Nat => Int32.ofInt (if (j : Int) = x then y else g (j : Int)) := by
    rw [ti_cln h.1 h.2 hn]
    funext j
    unfold upd
    by_cases hj : j = x.toNat
    · rw [if_pos hj, if_pos (by omega)]
    · rw [if_neg hj, if_neg (by omega)]
  rw [hu] at hP1 hD1
  rw [gw_set hnd hqi hset hne] at hP1 hD1
  exact kk H1 locs1 ls hP1 hD1 hS1 hlv
theorem g_alen (F : mF X E own cc Ts) (hi : i ∈ ids) {n : Nat} {g : Int → Int} (he : e i = iA E n g) (hd : decode cc pc = .ok (.arraylength, 1))
    (kk : cW X nc ns (pc + 1) lv (iV n :: st) (gw E.1 ids e ++ T)) : cW X nc ns pc lv (.ref (E.1 i) :: st) (gw E.1 ids e ++ T) := by
  intro H locs ls hP hD hS hlv
  obtain ⟨q, hq, -⟩ := gw_get (ad := E.1) (e := e) (T := T) hi
  rw [he] at hq
  exact va_alen F.hx F.hb F.hK hP q 0 hq rfl (Int32.ofInt_eq_ofNat.symm) hd (kk H locs ls hP hD hS hlv)
/-- the row of rules -/
theorem g_rlen (F : mF X E own cc Ts) (hi : i ∈ ids) {n : Nat} {g : Int → Nat} (he : e i = rA E (yR E) n g) (hd : decode cc pc = .ok (.arraylength, 1))
    (kk : cW X nc ns (pc + 1) lv (iV n :: st) (gw E.1 ids e ++ T)) : cW X nc ns pc lv (.ref (E.1 i) :: st) (gw E.1 ids e ++ T) := by
  intro H locs ls hP hD hS hlv
  obtain ⟨q, hq, -⟩ := gw_get (ad := E.1) (e := e) (T := T) hi
  rw [he] at hq
  exact va_alen F.hx F.hb F.hK hP q 1 hq rfl (Int32.ofInt_eq_ofNat.symm) hd (kk H locs ls hP hD hS hlv)
theorem g_rld (F : mF X E own cc Ts) (hi : i ∈ ids) {n : Nat} {g : Int → Nat} (he : e i = rA E (yR E) n g) {x : Int} (h : 0 ≤ x ∧ x < n) (hn : n < 2147483648) (hd : decode cc pc = .ok (.aaload, 1))
    (kk : cW X nc ns (pc + 1) lv (.ref (E.1 (g x)) :: st) (gw E.1 ids e ++ T)) : cW X nc ns pc lv (iV x :: .ref (E.1 i) :: st) (gw E.1 ids e ++ T) := by
  intro H locs ls hP hD hS hlv
  obtain ⟨q, hq, -⟩ := gw_get (ad := E.1) (e := e) (T := T) hi
  rw [he] at hq
  refine va_aldq F.hx F.hb F.hK hP q 1 hq rfl (ti_in h.1 h.2 hn) hd ?_
  rw [ti_cln h.1 h.2 hn, Int.toNat_of_nonneg h.1]
  exact kk H locs ls hP hD hS hlv
theorem g_rst (F : mF X E own cc Ts) (hnd : ids.Nodup) (hi : i ∈ ids) {n : Nat} {g : Int → Nat} (he : e i = rA E (yR E) n g) {x : Int} {y : Nat} (h : 0 ≤ x ∧ x < n) (hn : n < 2147483648) (hy : y ∈ ids) {fs : List Value} (hey : e y = .inr (5, fs)) (hset : e' i = rA E (yR E) n (fun j => if j = x then y else g j)) (hne : ∀ j, j ≠ i → e' j = e j) (hd : decode cc pc = .ok (.aastore, 1))
    (kk : cW X nc ns (pc + 1) lv st (gw E.1 ids e' ++ T)) : cW X nc ns pc lv (.ref (E.1 y) :: iV x :: .ref (E.1 i) :: st) (gw E.1 ids e ++ T) := by
  intro H locs ls hP hD hS hlv
  obtain ⟨q, hq, hqi⟩ := gw_get (ad := E.1) (e := e) (T := T) hi
  obtain ⟨q2, hq2, -⟩ := gw_get (ad := E.1) (e := e) (T := T) hy
  rw [he] at hq
  rw [hey] at hq2
  refine va_astq (r := (RX7, TX7, 6)) F.hx F.hb F.hK hP hD hS q 1 q2 5 hq rfl hq2 rfl (ti_in h.1 h.2 hn) hd (fun H1 locs1 hP1 hD1 hS1 => ?_)
  have hu : va_up (fun j : Nat => some (E.1 (g (j : Int)))) (Int32.ofInt x).toNatClampNeg (some (E.1 y)) = fun j : Nat => some (E.1 (if (j : Int) = x then y else g (j : Int))) := by
    rw [ti_cln h.1 h.2 hn]
    funext j
    unfold va_up
    by_cases hj : j = x.toNat
    · rw [if_pos hj, if_pos (by omega)]
    · rw [if_neg hj, if_neg (by omega)]
  rw [hu] at hP1 hD1
  rw [gw_set hnd hqi hset hne] at hP1 hD1
  exact kk H1 locs1 ls hP1 hD1 hS1 hlv
/-- the row of rows -/
theorem g_qld (F : mF X E own cc Ts) (hi : i ∈ ids) {n : Nat} {g : Int → Nat} (he : e i = rA E (yA E) n g) {x : Int} (h : 0 ≤ x ∧ x < n) (hn : n < 2147483648) (hd : decode cc pc = .ok (.aaload, 1))
    (kk : cW X nc ns (pc + 1) lv (.ref (E.1 (g x)) :: st) (gw E.1 ids e ++ T)) : cW X nc ns pc lv (iV x :: .ref (E.1 i) :: st) (gw E.1 ids e ++ T) := by
  intro H locs ls hP hD hS hlv
  obtain ⟨q, hq, -⟩ := gw_get (ad := E.1) (e := e) (T := T) hi
  rw [he] at hq
  have hlt : x.toNat < n := by omega
  have hin := ti_in h.1 h.2 hn
  have hg : (.ref (E.1 (g x)) : Value) = va_rf (some (E.1 (g ((x.toNat : Nat) : Int)))) := by rw [Int.toNat_of_nonneg h.1]; rfl
  refine W.aald (v := .ref (E.1 (g x))) (ty := .array .int) F.hx F.hb (hP q _ hq) ((F.hK.2 2 _ rfl).1 n (fun j => va_rf (some (E.1 (g (j : Int)))))) rfl (fun q => by cases q) (by show ¬ (_ < _ ∨ (arrV _ _ _).slots.size ≤ _); rw [arrV_size]; exact hin) (by show (arrV _ _ _).slots[_]? = _; rw [ti_cln h.1 h.2 hn, arrV_read _ _ hlt, hg]) rfl rfl hd (kk H locs ls hP hD hS hlv)
theorem g_qlen (F : mF X E own cc Ts) (hi : i ∈ ids) {n : Nat} {g : Int → Nat} (he : e i = rA E (yA E) n g) (hd : decode cc pc = .ok (.arraylength, 1))
    (kk : cW X nc ns (pc + 1) lv (iV n :: st) (gw E.1 ids e ++ T)) : cW X nc ns pc lv (.ref (E.1 i) :: st) (gw E.1 ids e ++ T) := by
  intro H locs ls hP hD hS hlv
  obtain ⟨q, hq, -⟩ := gw_get (ad := E.1) (e := e) (T := T) hi
  rw [he] at hq
  exact va_alen F.hx F.hb F.hK hP q 2 hq rfl (Int32.ofInt_eq_ofNat.symm) hd (kk H locs ls hP hD hS hlv)
/-- a row that the method has made, beside the world -/
theorem g_tald (F : mF X E own cc Ts) (j : Nat) {q n : Nat} {g : Int → Int} (ht : T[j]? = some (q, iA E n g)) {x : Int} (h : 0 ≤ x ∧ x < n) (hn : n < 2147483648) (hd : decode cc pc = .ok (.iaload, 1))
    (kk : cW X nc ns (pc + 1) lv (iV (g x) :: st) (gw E.1 ids e ++ T)) : cW X nc ns pc lv (iV x :: .ref q :: st) (gw E.1 ids e ++ T) := by
  intro H locs ls hP hD hS hlv
  refine va_iald F.hx F.hb F.hK hP _ 0 (gw_tmp j ht) rfl (ti_in h.1 h.2 hn) hd ?_
  rw [ti_cln h.1 h.2 hn, Int.toNat_of_nonneg h.1]
  exact kk H locs ls hP hD hS hlv
theorem g_tast (F : mF X E own cc Ts) (j : Nat) {q n : Nat} {g : Int → Int} (ht : T[j]? = some (q, iA E n g)) {x y : Int} (h : 0 ≤ x ∧ x < n) (hn : n < 2147483648) {T' : va_W} (hT : T.set j (q, iA E n (fun z => if z = x then y else g z)) = T') (hd : decode cc pc = .ok (.iastore, 1))
    (kk : cW X nc ns (pc + 1) lv st (gw E.1 ids e ++ T')) : cW X nc ns pc lv (iV y :: iV x :: .ref q :: st) (gw E.1 ids e ++ T) := by
  intro H locs ls hP hD hS hlv
  refine va_iast F.hx F.hb F.hK hP hD hS _ 0 (gw_tmp j ht) rfl (ti_in h.1 h.2 hn) hd (fun H1 locs1 hP1 hD1 hS1 => ?_)
  have hu : upd (fun j : Nat => Int32.ofInt (g (j : Int))) (Int32.ofInt x).toNatClampNeg (Int32.ofInt y) = fun j : Nat => Int32.ofInt (if (j : Int) = x then y else g (j : Int)) := by
    rw [ti_cln h.1 h.2 hn]
    funext j
    unfold upd
    by_cases hj : j = x.toNat
    · rw [if_pos hj, if_pos (by omega)]
    · rw [if_neg hj, if_neg (by omega)]
  rw [hu] at hP1 hD1
  rw [gw_setT, hT] at hP1 hD1
  exact kk H1 locs1 ls hP1 hD1 hS1 hlv
theorem g_talen (F : mF X E own cc Ts) (j : Nat) {q n : Nat} {g : Int → Int} (ht : T[j]? = some (q, iA E n g)) (hd : decode cc pc = .ok (.arraylength, 1))
    (kk : cW X nc ns (pc + 1) lv (iV n :: st) (gw E.1 ids e ++ T)) : cW X nc ns pc lv (.ref q :: st) (gw E.1 ids e ++ T) := by
  intro H locs ls hP hD hS hlv
  exact va_alen F.hx F.hb F.hK hP _ 0 (gw_tmp j ht) rfl (Int32.ofInt_eq_ofNat.symm) hd (kk H locs ls hP hD hS hlv)
/-- new int[n] -/
theorem g_tnew (F : mF X E own cc Ts) (harr : Cond.arrayClass .int ∈ Ts) {x : Int} (n : Nat) (hx : x = n) (hn : n ≤ 100000) (hc : nc + 1 ≤ X.1.2.2.2.cells) (hs : ns + n ≤ X.1.2.2.2.slots) (hd : decode cc pc = .ok (.newarray .int, 2)) {T' : Nat → va_W} (hT : ∀ q, T ++ [(q, iA E n (fun _ => 0))] = T' q)
    (kk : ∀ q : Nat, cW X (nc + 1) (ns + n) (pc + 2) lv (.ref q :: st) (gw E.1 ids e ++ T' q)) : cW X nc ns pc lv (iV x :: st) (gw E.1 ids e ++ T) := by
  intro H locs ls hP hD hS hlv
  subst hx
  have hr : inR (n : Int) := by unfold inR; omega
  refine va_newa (atype := .int) (ty := .int) F.hx F.hb (F.ht _ harr) rfl F.hK hP hD hS F.hA (n := Int32.ofInt n) (N' := n) (a0 := (n, .inl (fun _ => Int32.ofInt 0))) (fun cA => rfl) (fun z => ?_) ((ti_cl hr).trans (by omega)) (by show n * 4 ≤ _; omega) hc hs hd (fun q cA H1 hK1 hP1 hD1 hS1 => ?_)
  · have : Int32.ofInt (n : Int) < Int32.ofInt 0 := z
    rw [ti_lt hr ti_0] at this
    omega
  · have hcA : cA = yI E := by
      have h1 := (hK1.2 (cty E).length (cA, .int) (by rw [List.getElem?_append_right (Nat.le_refl _), Nat.sub_self]; rfl)).2
      have h2 := (F.hK.2 0 (yI E, .int) rfl).2
      exact Option.some.inj (h1.symm.trans h2)
    rw [hcA, List.append_assoc] at hP1 hD1
    have hq : T ++ [(q, .inl (yI E, n, .inl (fun _ => Int32.ofInt 0)))] = T' q := hT q
    rw [hq] at hP1 hD1
    exact kk q H1 locs ls hP1 hD1 hS1 hlv
end GROWS
