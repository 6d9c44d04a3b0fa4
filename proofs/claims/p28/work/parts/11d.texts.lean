/-! ===== texts: their bytes ===== -/
def byS (S : List lxT) : List Int := S.flatMap (fun x => lxB x.1 ++ (if x.2 = true then [32] else []))
/-- a blank between each two -/
def blk : List (Int × Int) → List lxT
  | [] => []
  | [x] => [(x, false)]
  | x :: y :: S => (x, true) :: blk (y :: S)
def itT (r : rdT) : List lxT := blk (itL r) ++ [(((4 : Int), (0 : Int)), false)]
def hdT (b : Bool) : List lxT := [((2, 14), true), ((3, 2), true), ((3, 2), true), ((3, 4), false), ((4, 0), b)]
def txt (b : Bool) (its : List rdT) : List lxT := hdT b ++ its.flatMap itT
theorem blk_m : ∀ S : List (Int × Int), (blk S).map (fun x => x.1) = S := by
  intro S
  induction S with
  | nil => rfl
  | cons x S ih =>
    cases S with
    | nil => rfl
    | cons y S => show x :: (blk (y :: S)).map (fun x => x.1) = _; rw [ih]
theorem txt_m {b : Bool} : ∀ its : List rdT, (txt b its).map (fun x => x.1) = hdK ++ itS its := by
  intro its
  unfold txt
  rw [List.map_append]
  have h1 : (hdT b).map (fun x => x.1) = hdK := rfl
  rw [h1]
  congr 1
  induction its with
  | nil => rfl
  | cons r its ih =>
    rw [List.flatMap_cons, List.map_append, ih, itS_c]
    unfold itT
    rw [List.map_append, blk_m, List.append_assoc]
    rfl
theorem adj_app : ∀ (A B : List lxT), adj A → adj B → adj (A ++ B) := by
  intro A
  induction A with
  | nil => intro B _ h; exact h
  | cons x A ih =>
    intro B h1 h2
    cases A with
    | nil =>
      have h4 : x.1.1 = 4 := h1
      cases B with
      | nil => exact h1
      | cons y B => exact ⟨Or.inr (Or.inr (Or.inr h4)), Or.inr (Or.inl h4), h2⟩
    | cons y A => exact ⟨h1.1, h1.2.1, ih B h1.2.2 h2⟩
theorem adj_blk : ∀ S : List (Int × Int), (∀ x ∈ S, okL x) → adj (blk S ++ [(((4 : Int), (0 : Int)), false)]) := by
  intro S
  induction S with
  | nil => intro _; exact rfl
  | cons x S ih =>
    intro h
    have hx := h x List.mem_cons_self
    cases S with
    | nil => exact ⟨hx, Or.inr (Or.inr rfl), rfl⟩
    | cons y S =>
      have h2 := ih (fun z hz => h z (List.mem_cons_of_mem _ hz))
      cases S with
      | nil => exact ⟨hx, Or.inl rfl, h2⟩
      | cons z S => exact ⟨hx, Or.inl rfl, h2⟩
theorem nsR_in {r : rdT} {v : Int} (h : v ∈ nsR r) : v = r.2.1 ∨ v = r.2.2.1 := by
  have := List.mem_of_mem_take h
  rw [List.mem_cons, List.mem_singleton] at this
  exact this
theorem itL_ok {r : rdT} (o : okI r) : ∀ x ∈ itL r, okL x := by
  have b : (0 ≤ r.1 ∧ r.1 < 14) := by
    rcases o with o | ⟨o, -⟩
    · have := o.1; have := o.2.1; omega
    · omega
  intro x hx
  unfold itL at hx
  rw [List.mem_cons, List.mem_append, List.mem_append] at hx
  rcases hx with rfl | hx | hx | hx
  · exact Or.inr (Or.inl ⟨rfl, b.1, by show r.1 < 15; omega⟩)
  · obtain ⟨v, hv, rfl⟩ := List.mem_map.mp hx
    rcases o with o | ⟨o, -⟩
    · have h2 := o.2.2.2.2.1
      have h3 := o.2.2.2.2.2.1
      have h0 := o.2.2.1
      have h1 := o.2.2.2.1
      have := nsR_in hv
      exact Or.inr (Or.inr (Or.inl ⟨rfl, by show 0 ≤ v; omega, by show v ≤ 9; omega⟩))
    · have e0 : nuT r.1 = 0 := by rcases o with o | o <;> rw [o] <;> decide
      unfold nsR at hv
      rw [e0] at hv
      exact (List.not_mem_nil hv).elim
  · obtain ⟨c, hc, rfl⟩ := List.mem_map.mp hx
    rcases o with o | ⟨-, o⟩
    · exact Or.inl ⟨rfl, o.2.2.2.2.2.2.2.2.1 c hc⟩
    · rw [o] at hc; exact (List.not_mem_nil hc).elim
  · by_cases q : r.1 = 9
    · rw [if_pos q, List.mem_singleton] at hx
      subst hx
      rcases o with o | ⟨o, -⟩
      · exact Or.inr (Or.inr (Or.inl ⟨rfl, o.2.2.1, o.2.2.2.1⟩))
      · omega
    · rw [if_neg q] at hx; exact (List.not_mem_nil hx).elim
theorem adj_its : ∀ its : List rdT, (∀ r ∈ its, okI r) → adj (its.flatMap itT) := by
  intro its
  induction its with
  | nil => intro _; trivial
  | cons r its ih =>
    intro h
    rw [List.flatMap_cons]
    exact adj_app _ _ (adj_blk _ (itL_ok (h r List.mem_cons_self))) (ih (fun q hq => h q (List.mem_cons_of_mem _ hq)))
theorem adj_txt {b : Bool} {its : List rdT} (h : ∀ r ∈ its, okI r) : adj (txt b its) := by
  refine adj_app _ _ ?_ (adj_its its h)
  exact ⟨Or.inr (Or.inl ⟨rfl, by decide, by decide⟩), Or.inl rfl, Or.inr (Or.inr (Or.inl ⟨rfl, by decide, by decide⟩)), Or.inl rfl, Or.inr (Or.inr (Or.inl ⟨rfl, by decide, by decide⟩)), Or.inl rfl, Or.inr (Or.inr (Or.inl ⟨rfl, by decide, by decide⟩)), Or.inr (Or.inr rfl), rfl⟩
/-- a tape with these bytes -/
theorem Tx_of {T : Int → Int} {L : Int} : ∀ (S : List lxT) (p : Int), (∀ j : Nat, j < (byS S).length → T (p + j) = (byS S).getD j 0) → L = p + (byS S).length → Tx T L p S := by
  intro S
  induction S with
  | nil => intro p _ h; have e : (((byS []).length : Nat) : Int) = 0 := rfl; show p = L; omega
  | cons x S ih =>
    intro p h hL
    have e : byS (x :: S) = (lxB x.1 ++ (if x.2 = true then [32] else [])) ++ byS S := rfl
    have el : (((if x.2 = true then [(32 : Int)] else []).length : Nat) : Int) = bl x.2 := by cases x.2 <;> rfl
    rw [e] at h hL
    have ll : (((lxB x.1 ++ (if x.2 = true then [32] else []) ++ byS S).length : Nat) : Int) = (lxB x.1).length + bl x.2 + (byS S).length := by rw [List.length_append, List.length_append]; omega
    refine ⟨fun j hj => ?_, fun q => ?_, ih _ (fun j hj => ?_) (by omega)⟩
    · rw [h j (by rw [List.length_append, List.length_append]; omega), List.getD_eq_getElem?_getD, List.getD_eq_getElem?_getD, List.append_assoc, List.getElem?_append_left hj]
    · rw [h (lxB x.1).length (by rw [List.length_append, List.length_append, if_pos q, List.length_singleton]; omega), List.getD_eq_getElem?_getD, List.append_assoc, List.getElem?_append_right (Nat.le_refl _), Nat.sub_self, if_pos q]
      rfl
    · have := h ((lxB x.1).length + (if x.2 = true then [(32 : Int)] else []).length + j) (by rw [List.length_append, List.length_append]; omega)
      rw [show p + (((lxB x.1).length + (if x.2 = true then [(32 : Int)] else []).length + j : Nat) : Int) = p + (lxB x.1).length + bl x.2 + j by omega] at this
      rw [this, List.getD_eq_getElem?_getD, List.getD_eq_getElem?_getD, List.getElem?_append_right (by rw [List.length_append]; omega)]
      congr 2
      rw [List.length_append]
      omega
/-- what is compiled of such a tape -/
theorem cmp_txt {T : Int → Int} {b : Bool} {its : List rdT} (ok : ∀ r ∈ its, okI r) (h40 : (its.flatMap rlI).length ≤ 40) (hl : (byS (txt b its)).length ≤ 1600) (hT : ∀ j : Nat, j < (byS (txt b its)).length → T j = (byS (txt b its)).getD j 0) :
    let k := kOf T (byS (txt b its)).length
    kV' k 1 = 2 ∧ kV' k 2 = 2 ∧ kV' k 3 = 4 ∧ (cmp k).1 = 0 ∧ (cmp k).2.2.1 = (its.flatMap rlI).length ∧ ∀ j : Nat, j < (its.flatMap rlI).length → e9 ((cmp k).2.2.2 j) (sh ((its.flatMap rlI).getD j rd0)) := by
  intro k
  have tx : Tx T (byS (txt b its)).length 0 (txt b its) := Tx_of _ 0 (fun j hj => by rw [Int.zero_add]; exact hT j hj) (by omega)
  have e : txt b its = ((2, 14), true) :: ((hdT b).tail ++ its.flatMap itT) := rfl
  have ha : adj (txt b its) := adj_txt ok
  have kl : ∀ N : Int, 0 ≤ N → N ≤ 1600 → Tx T N 0 (txt b its) → KL (kOf T N) (txt b its) := by
    rw [e] at ha ⊢
    exact fun N n0 n1 tx => KL_of n0 n1 tx ha
  have ks := Ks_of (kl _ (by omega) (by omega) tx)
  rw [txt_m] at ks
  exact cmp_r ok ks h40
/-! the law's items -/
def bysX (i : Nat) : List Int := (List.range (txL.getD i 0)).map (fun (j : Nat) => txC i (j : Int))
def RT : List rdT := [(12, 0, 0, []), (13, 0, 0, []), (0, 0, 0, [0, 3]), (1, 5, 0, [0, 1]), (1, 6, 0, [2, 3, 0]), (3, 0, 0, [2, 1]), (4, 0, 0, [0, 1]), (5, 2, 0, [0, 1, 2]), (6, 0, 0, [0]), (7, 0, 0, [3]), (8, 2, 1, [0, 3, 1]), (10, 1, 0, [0, 1, 3]), (11, 0, 0, [0, 3]), (2, 6, 0, [0, 1, 2]), (9, 2, 0, [2]), (9, 3, 0, [1])]
theorem RT_ok : ∀ r ∈ RT, okI r :=
  List.forall_mem_cons.mpr ⟨Or.inr ⟨by decide, rfl⟩, List.forall_mem_cons.mpr ⟨Or.inr ⟨by decide, rfl⟩, List.forall_mem_cons.mpr ⟨Or.inl ⟨by decide, by decide, by decide, by decide, by decide, by decide, by decide, by decide, by decide, by decide, by decide, by decide, by decide, by decide, by unfold nok; decide, by unfold nok; decide⟩, List.forall_mem_cons.mpr ⟨Or.inl ⟨by decide, by decide, by decide, by decide, by decide, by decide, by decide, by decide, by decide, by decide, by decide, by decide, by decide, by decide, by unfold nok; decide, by unfold nok; decide⟩, List.forall_mem_cons.mpr ⟨Or.inl ⟨by decide, by decide, by decide, by decide, by decide, by decide, by decide, by decide, by decide, by decide, by decide, by decide, by decide, by decide, by unfold nok; decide, by unfold nok; decide⟩, List.forall_mem_cons.mpr ⟨Or.inl ⟨by decide, by decide, by decide, by decide, by decide, by decide, by decide, by decide, by decide, by decide, by decide, by decide, by decide, by decide, by unfold nok; decide, by unfold nok; decide⟩, List.forall_mem_cons.mpr ⟨Or.inl ⟨by decide, by decide, by decide, by decide, by decide, by decide, by decide, by decide, by decide, by decide, by decide, by decide, by decide, by decide, by unfold nok; decide, by unfold nok; decide⟩, List.forall_mem_cons.mpr ⟨Or.inl ⟨by decide, by decide, by decide, by decide, by decide, by decide, by decide, by decide, by decide, by decide, by decide, by decide, by decide, by decide, by unfold nok; decide, by unfold nok; decide⟩, List.forall_mem_cons.mpr ⟨Or.inl ⟨by decide, by decide, by decide, by decide, by decide, by decide, by decide, by decide, by decide, by decide, by decide, by decide, by decide, by decide, by unfold nok; decide, by unfold nok; decide⟩, List.forall_mem_cons.mpr ⟨Or.inl ⟨by decide, by decide, by decide, by decide, by decide, by decide, by decide, by decide, by decide, by decide, by decide, by decide, by decide, by decide, by unfold nok; decide, by unfold nok; decide⟩, List.forall_mem_cons.mpr ⟨Or.inl ⟨by decide, by decide, by decide, by decide, by decide, by decide, by decide, by decide, by decide, by decide, by decide, by decide, by decide, by decide, by unfold nok; decide, by unfold nok; decide⟩, List.forall_mem_cons.mpr ⟨Or.inl ⟨by decide, by decide, by decide, by decide, by decide, by decide, by decide, by decide, by decide, by decide, by decide, by decide, by decide, by decide, by unfold nok; decide, by unfold nok; decide⟩, List.forall_mem_cons.mpr ⟨Or.inl ⟨by decide, by decide, by decide, by decide, by decide, by decide, by decide, by decide, by decide, by decide, by decide, by decide, by decide, by decide, by unfold nok; decide, by unfold nok; decide⟩, List.forall_mem_cons.mpr ⟨Or.inl ⟨by decide, by decide, by decide, by decide, by decide, by decide, by decide, by decide, by decide, by decide, by decide, by decide, by decide, by decide, by unfold nok; decide, by unfold nok; decide⟩, List.forall_mem_cons.mpr ⟨Or.inl ⟨by decide, by decide, by decide, by decide, by decide, by decide, by decide, by decide, by decide, by decide, by decide, by decide, by decide, by decide, by unfold nok; decide, by unfold nok; decide⟩, List.forall_mem_cons.mpr ⟨Or.inl ⟨by decide, by decide, by decide, by decide, by decide, by decide, by decide, by decide, by decide, by decide, by decide, by decide, by decide, by decide, by unfold nok; decide, by unfold nok; decide⟩, fun _ h => (List.not_mem_nil h).elim⟩⟩⟩⟩⟩⟩⟩⟩⟩⟩⟩⟩⟩⟩⟩⟩
theorem RT_b : ∀ j : Nat, j < 16 → byS (itT (RT.getD j rd0)) = bysX (15 + j) ++ [59] := by decide +kernel
theorem HD_b : byS (hdT true) = bysX 31 := by decide +kernel
theorem SM_b : bysX 32 = [59] := by decide +kernel
/-- the rules of the items: eighteen of them -/
def ST : List rdT := [(0, 0, 0, [0, 1]), (0, 0, 0, [2, 3]), (0, 0, 0, [0, 2]), (0, 0, 0, [1, 3]), (0, 0, 0, [0, 3]), (1, 5, 0, [0, 1]), (1, 6, 0, [2, 3, 0]), (3, 0, 0, [2, 1]), (4, 0, 0, [0, 1]), (5, 2, 0, [0, 1, 2]), (6, 0, 0, [0]), (7, 0, 0, [3]), (8, 2, 1, [0, 3, 1]), (10, 1, 0, [0, 1, 3]), (11, 0, 0, [0, 3]), (2, 6, 0, [0, 1, 2]), (9, 2, 0, [2]), (9, 3, 0, [1])]
theorem ST_ok : ∀ r ∈ ST, okR r :=
  List.forall_mem_cons.mpr ⟨⟨by decide, by decide, by decide, by decide, by decide, by decide, by decide, by decide, by decide, by decide, by decide, by decide, by decide, by decide, by unfold nok; decide, by unfold nok; decide⟩, List.forall_mem_cons.mpr ⟨⟨by decide, by decide, by decide, by decide, by decide, by decide, by decide, by decide, by decide, by decide, by decide, by decide, by decide, by decide, by unfold nok; decide, by unfold nok; decide⟩, List.forall_mem_cons.mpr ⟨⟨by decide, by decide, by decide, by decide, by decide, by decide, by decide, by decide, by decide, by decide, by decide, by decide, by decide, by decide, by unfold nok; decide, by unfold nok; decide⟩, List.forall_mem_cons.mpr ⟨⟨by decide, by decide, by decide, by decide, by decide, by decide, by decide, by decide, by decide, by decide, by decide, by decide, by decide, by decide, by unfold nok; decide, by unfold nok; decide⟩, List.forall_mem_cons.mpr ⟨⟨by decide, by decide, by decide, by decide, by decide, by decide, by decide, by decide, by decide, by decide, by decide, by decide, by decide, by decide, by unfold nok; decide, by unfold nok; decide⟩, List.forall_mem_cons.mpr ⟨⟨by decide, by decide, by decide, by decide, by decide, by decide, by decide, by decide, by decide, by decide, by decide, by decide, by decide, by decide, by unfold nok; decide, by unfold nok; decide⟩, List.forall_mem_cons.mpr ⟨⟨by decide, by decide, by decide, by decide, by decide, by decide, by decide, by decide, by decide, by decide, by decide, by decide, by decide, by decide, by unfold nok; decide, by unfold nok; decide⟩, List.forall_mem_cons.mpr ⟨⟨by decide, by decide, by decide, by decide, by decide, by decide, by decide, by decide, by decide, by decide, by decide, by decide, by decide, by decide, by unfold nok; decide, by unfold nok; decide⟩, List.forall_mem_cons.mpr ⟨⟨by decide, by decide, by decide, by decide, by decide, by decide, by decide, by decide, by decide, by decide, by decide, by decide, by decide, by decide, by unfold nok; decide, by unfold nok; decide⟩, List.forall_mem_cons.mpr ⟨⟨by decide, by decide, by decide, by decide, by decide, by decide, by decide, by decide, by decide, by decide, by decide, by decide, by decide, by decide, by unfold nok; decide, by unfold nok; decide⟩, List.forall_mem_cons.mpr ⟨⟨by decide, by decide, by decide, by decide, by decide, by decide, by decide, by decide, by decide, by decide, by decide, by decide, by decide, by decide, by unfold nok; decide, by unfold nok; decide⟩, List.forall_mem_cons.mpr ⟨⟨by decide, by decide, by decide, by decide, by decide, by decide, by decide, by decide, by decide, by decide, by decide, by decide, by decide, by decide, by unfold nok; decide, by unfold nok; decide⟩, List.forall_mem_cons.mpr ⟨⟨by decide, by decide, by decide, by decide, by decide, by decide, by decide, by decide, by decide, by decide, by decide, by decide, by decide, by decide, by unfold nok; decide, by unfold nok; decide⟩, List.forall_mem_cons.mpr ⟨⟨by decide, by decide, by decide, by decide, by decide, by decide, by decide, by decide, by decide, by decide, by decide, by decide, by decide, by decide, by unfold nok; decide, by unfold nok; decide⟩, List.forall_mem_cons.mpr ⟨⟨by decide, by decide, by decide, by decide, by decide, by decide, by decide, by decide, by decide, by decide, by decide, by decide, by decide, by decide, by unfold nok; decide, by unfold nok; decide⟩, List.forall_mem_cons.mpr ⟨⟨by decide, by decide, by decide, by decide, by decide, by decide, by decide, by decide, by decide, by decide, by decide, by decide, by decide, by decide, by unfold nok; decide, by unfold nok; decide⟩, List.forall_mem_cons.mpr ⟨⟨by decide, by decide, by decide, by decide, by decide, by decide, by decide, by decide, by decide, by decide, by decide, by decide, by decide, by decide, by unfold nok; decide, by unfold nok; decide⟩, List.forall_mem_cons.mpr ⟨⟨by decide, by decide, by decide, by decide, by decide, by decide, by decide, by decide, by decide, by decide, by decide, by decide, by decide, by decide, by unfold nok; decide, by unfold nok; decide⟩, fun _ h => (List.not_mem_nil h).elim⟩⟩⟩⟩⟩⟩⟩⟩⟩⟩⟩⟩⟩⟩⟩⟩⟩⟩
theorem ST_r : ∀ r ∈ ST, rlI r = [r] := fun r hr => by
  have o := ST_ok r hr
  unfold rlI
  rw [if_neg (by have := o.2.1; omega), if_neg (by have := o.2.1; omega)]
theorem ST_all : ∀ r ∈ RT, ∀ q ∈ rlI r, q ∈ ST := by decide +kernel
theorem ST_in {r q : rdT} (hr : r ∈ RT) (hq : q ∈ rlI r) : q ∈ ST := ST_all r hr q hq
theorem RT_l : ∀ r ∈ RT, (rlI r).length ≤ 2 := by decide +kernel
