/-! ===== rows that the walks use ===== -/
theorem ib2 : ∀ w ∈ wsX20, w ∈ bG := fun w h => bm ((show ∀ w ∈ wsX20, w ∈ lw_tbl by decide +kernel) w h) ((show ∀ w ∈ wsX20, goodWord w = true by decide +kernel) w h)
theorem ib3 : ∀ w ∈ wsX30, w ∈ bG := fun w h => bm ((show ∀ w ∈ wsX30, w ∈ lw_tbl by decide +kernel) w h) ((show ∀ w ∈ wsX30, goodWord w = true by decide +kernel) w h)
theorem ib4 : ∀ w ∈ wsX40, w ∈ bG := fun w h => bm ((show ∀ w ∈ wsX40, w ∈ lw_tbl by decide +kernel) w h) ((show ∀ w ∈ wsX40, goodWord w = true by decide +kernel) w h)
theorem ib5 : ∀ w ∈ wsX50, w ∈ bG := fun w h => bm ((show ∀ w ∈ wsX50, w ∈ lw_tbl by decide +kernel) w h) ((show ∀ w ∈ wsX50, goodWord w = true by decide +kernel) w h)
theorem ib6 : ∀ w ∈ wsX60, w ∈ bG := fun w h => bm ((show ∀ w ∈ wsX60, w ∈ lw_tbl by decide +kernel) w h) ((show ∀ w ∈ wsX60, goodWord w = true by decide +kernel) w h)
theorem ib7 : ∀ w ∈ wsX70, w ∈ bG := fun w h => bm ((show ∀ w ∈ wsX70, w ∈ lw_tbl by decide +kernel) w h) ((show ∀ w ∈ wsX70, goodWord w = true by decide +kernel) w h)
theorem ib8 : ∀ w ∈ wsX80, w ∈ bG := fun w h => bm ((show ∀ w ∈ wsX80, w ∈ lw_tbl by decide +kernel) w h) ((show ∀ w ∈ wsX80, goodWord w = true by decide +kernel) w h)
theorem ib9 : ∀ w ∈ wsX90, w ∈ bG := fun w h => bm ((show ∀ w ∈ wsX90, w ∈ lw_tbl by decide +kernel) w h) ((show ∀ w ∈ wsX90, goodWord w = true by decide +kernel) w h)
theorem ib10 : ∀ w ∈ wsX100, w ∈ bG := fun w h => bm ((show ∀ w ∈ wsX100, w ∈ lw_tbl by decide +kernel) w h) ((show ∀ w ∈ wsX100, goodWord w = true by decide +kernel) w h)
theorem ib11 : ∀ w ∈ wsX110, w ∈ bG := fun w h => bm ((show ∀ w ∈ wsX110, w ∈ lw_tbl by decide +kernel) w h) ((show ∀ w ∈ wsX110, goodWord w = true by decide +kernel) w h)
theorem kA_2 : isA 1600 2 := by unfold isA; decide
theorem kA_5 : isA 1601 5 := by unfold isA; decide
theorem kA_6 : isA 1601 6 := by unfold isA; decide
theorem kA_7 : isA 1601 7 := by unfold isA; decide
theorem kA_9 : isA 1980 9 := by unfold isA; decide
theorem kA_12 : isA 25 12 := by unfold isA; decide
theorem kA_13 : isA 25 13 := by unfold isA; decide
theorem kA_14 : isA 25 14 := by unfold isA; decide
theorem kA_47 : isA 25 47 := by unfold isA; decide
theorem kA_48 : isA 25 48 := by unfold isA; decide
theorem kA_49 : isA 25 49 := by unfold isA; decide
theorem kA_81 : isA 25 81 := by unfold isA; decide
theorem kA_82 : isA 25 82 := by unfold isA; decide
theorem kA_84 : isA 25 84 := by unfold isA; decide

theorem bV {own C : String} {idx : Nat} {y : MethodName} {b : ByteArray} {n : Nat} {r : Option FieldType} (h1 : Cond.methodLink own idx y ∈ bG) (h2 : Cond.instanceMethod y ∈ bG) (h3 : Cond.selects C y y ∈ bG) (h4 : Cond.initialized C ∈ bG) (h5 : Cond.code y b n r ∈ bG) : GoodIn bG (wsV own idx C y (Cond.code y b n r :: bG)) := by
  have hm : ∀ w ∈ wsV own idx C y (Cond.code y b n r :: bG), w ∈ bG := by
    intro w h
    unfold wsV at h
    simp only [List.cons_append, List.nil_append, List.mem_cons] at h
    rcases h with rfl | rfl | rfl | rfl | rfl | h
    · exact h1
    · exact h2
    · exact h3
    · exact h4
    · exact h5
    · exact h
  exact fun w h => ⟨hm w h, good_of_word (List.mem_filter.mp (hm w h)).2⟩
theorem bS {own : String} {idx : Nat} {y : MethodName} {b : ByteArray} {n : Nat} {r : Option FieldType} (h1 : Cond.methodLink own idx y ∈ bG) (h2 : Cond.static y ∈ bG) (h4 : Cond.initialized y.cls ∈ bG) (h5 : Cond.code y b n r ∈ bG) : GoodIn bG (va_wsS own idx y (Cond.code y b n r :: bG)) := by
  have hm : ∀ w ∈ va_wsS own idx y (Cond.code y b n r :: bG), w ∈ bG := by
    intro w h
    unfold va_wsS at h
    simp only [List.cons_append, List.nil_append, List.mem_cons] at h
    rcases h with rfl | rfl | rfl | rfl | h
    · exact h1
    · exact h2
    · exact h4
    · exact h5
    · exact h
  exact fun w h => ⟨hm w h, good_of_word (List.mem_filter.mp (hm w h)).2⟩
/-- constants of Kind, the tables, texts: what they tell -/
def kN (j : Nat) : Int := (j : Int)
def kA (j : Nat) : Int := kAh.getD j 0
def kE (j : Nat) : Int := kEx.getD j 0
def swT (x : Int) : Int := swM.getD x.toNat 0
def nuT (x : Int) : Int := nuM.getD x.toNat 0
def txN (i : Nat) : Int := (txL.getD i 0 : Int)
def txC (i : Nat) (x : Int) : Int := (((txB.getD i []).getD x.toNat 0).toInt) % 256
theorem inR_b {x : Int} (h : 0 ≤ x ∧ x < 100000) : inR x := by unfold inR; omega
theorem kN_in {j : Nat} (h : j < 12) : inR (kN j) := inR_b (by unfold kN; omega)
theorem kA_in {j : Nat} (h : j < 12) : inR (kA j) := inR_b ((show ∀ j, j < 12 → 0 ≤ kA j ∧ kA j < 100000 by unfold kA; decide +kernel) j h)
theorem kE_in {j : Nat} (h : j < 12) : inR (kE j) := inR_b ((show ∀ j, j < 12 → 0 ≤ kE j ∧ kE j < 100000 by unfold kE; decide +kernel) j h)
theorem getD_in (l : List Int) (h : ∀ x ∈ l, 0 ≤ x ∧ x < 100000) (n : Nat) : inR (l.getD n 0) := by
  rw [List.getD_eq_getElem?_getD]
  cases e : l[n]? with
  | none => exact ti_0
  | some x => exact inR_b (h x (List.mem_of_getElem? e))
theorem swT_in (x : Int) : inR (swT x) := getD_in swM (by decide) _
theorem nuT_in (x : Int) : inR (nuT x) := getD_in nuM (by decide) _
theorem txN_in {i : Nat} (h : i < 33) : inR (txN i) := inR_b ((show ∀ j, j < 33 → 0 ≤ txN j ∧ txN j < 100000 by unfold txN; decide +kernel) i h)
theorem txC_in (i : Nat) (x : Int) : inR (txC i x) := by
  unfold txC
  exact inR_b (by omega)
theorem tN12 {x : Int} (h : 0 ≤ x ∧ x < 12) : x.toNat < 12 := by omega
theorem tN33 {x : Int} (h : 0 ≤ x ∧ x < 16) : 15 + x.toNat < 33 := by omega
def upF (f : Int → Int) (x v : Int) : Int → Int := fun z => if z = x then v else f z
theorem upF_in {f g : Int → Int} {x v : Int} (h : ∀ z, inR (f z)) (e : g = upF f x v) (hv : inR v) : ∀ z, inR (g z) := by
  intro z
  rw [e]
  unfold upF
  by_cases q : z = x
  · rw [if_pos q]; exact hv
  · rw [if_neg q]; exact h z
def imax (x y : Int) : Int := if x < y then y else x
def iabs (x : Int) : Int := if 0 ≤ x then x else -x
theorem imax_in {x y : Int} (hx : inR x) (hy : inR y) : inR (imax x y) := by
  unfold imax
  by_cases h : x < y
  · rw [if_pos h]; exact hy
  · rw [if_neg h]; exact hx
/-- how many bits of a number are 1, as the JDK counts them -/
def bcS (x y : Int32) : Int32 := (x.toUInt32 >>> (y.toUInt32 &&& Int32.toUInt32 31)).toInt32
def bcI (x0 : Int32) : Int32 :=
  let x1 := x0 - (bcS x0 1 &&& 1431655765)
  let x2 := (x1 &&& 858993459) + (bcS x1 2 &&& 858993459)
  let x3 := (x2 + bcS x2 4) &&& 252645135
  let x4 := x3 + bcS x3 8
  let x5 := x4 + bcS x4 16
  x5 &&& 63
def bc (x : Int) : Int := (bcI (Int32.ofInt x)).toInt
theorem bc_in (x : Int) : inR (bc x) := ti_rng _
section HROWS
variable {X : xC} {E : cE} {own : String} {cc : ByteArray} {Ts : List Cond} {nc ns pc index : Nat} {lv lv' : List (Nat × Value)} {st : List Value} {ws : va_W}
theorem q_top {x y : Int} (h : y = x) (k : cW X nc ns pc lv (iV y :: st) ws) : cW X nc ns pc lv (iV x :: st) ws := by rw [← h]; exact k
theorem q_n {i n m : Nat} (h : m = n) (hi : i < n) : i < m := by rw [h]; exact hi
theorem q_ldc_w (F : mF X E own cc Ts) {n : Int} (hc : Cond.constant own index (Int32.ofInt n) ∈ Ts) (hd : decode cc pc = .ok (.ldc_w index, 3)) (k : cW X nc ns (pc + 3) lv (iV n :: st) ws) : cW X nc ns pc lv st ws := fun H locs ls hP hD hS hl => lv_ldcw F.hx F.hb F.ho (F.ht _ hc) hd (k H locs ls hP hD hS hl)
theorem q_ldcT (F : mF X E own cc Ts) {tx : String} {q : Nat} (hZ : vk_R own index tx q X.2.1.1) (hd : decode cc pc = .ok (.ldc index, 2)) (k : cW X nc ns (pc + 2) lv (.ref q :: st) ws) : cW X nc ns pc lv st ws := fun H locs ls hP hD hS hl => va_ldcS F.hx F.hb F.ho hZ hd (k H locs ls hP hD hS hl)
theorem q_gs (F : mF X E own cc Ts) {C n d ref : String} {v : Value} (hZ : va_Z C n d v X.2.2.2.1 X.2.1.1 X.2.1.1.heap) (hl : Cond.fieldLink own index ref n d ∈ Ts) (hr : C = ref) (hd : decode cc pc = .ok (.getstatic index, 3)) (k : cW X nc ns (pc + 3) lv (v :: st) ws) : cW X nc ns pc lv st ws := fun H locs ls hP hD hS hl2 => va_gets F.hx F.hb hZ hS F.ho (F.ht _ hl) (fun x h => by rw [← hr]; exact h) hd (k H locs ls hP hD hS hl2)
theorem q_gsN (F : mF X E own cc Ts) {C n d ref host : String} {v : Value} (hZ : va_Z C n d v X.2.2.2.1 X.2.1.1 X.2.1.1.heap) (hl : va_Nw (.fieldLinkNest own index ref n d host) X.2.1.1) (hr : C = ref) (hd : decode cc pc = .ok (.getstatic index, 3)) (k : cW X nc ns (pc + 3) lv (v :: st) ws) : cW X nc ns pc lv st ws := fun H locs ls hP hD hS hl2 => va_getsN F.hx F.hb hZ hS F.ho (va_Nw.use rfl hl) (fun x h => by rw [← hr]; exact h) hd (k H locs ls hP hD hS hl2)
theorem q_gOF (F : mF X E own cc Ts) {o n d ref : String} {q : Nat} {v : Value} (hE : va_OF o n d v q X.2.2.2.1 X.2.1.1 X.2.1.1.heap) (hl : Cond.fieldLink own index ref n d ∈ Ts) (hr : o = ref) (hd : decode cc pc = .ok (.getfield index, 3)) (k : cW X nc ns (pc + 3) lv (v :: st) ws) : cW X nc ns pc lv (.ref q :: st) ws := fun H locs ls hP hD hS hl2 => vk_getf F.hx F.hb hE hS F.ho (F.ht _ hl) (fun x h => by rw [← hr]; exact h) hd (k H locs ls hP hD hS hl2)
theorem q_tlen (F : mF X E own cc Ts) {ty : FieldType} {t N : Nat} {f : Nat → Value} (hT : va_T ty t N f X.2.2.2.1 X.2.1.1 X.2.1.1.heap) (hd : decode cc pc = .ok (.arraylength, 1)) (k : cW X nc ns (pc + 1) lv (iV (N : Int) :: st) ws) : cW X nc ns pc lv (.ref t :: st) ws := fun H locs ls hP hD hS hl2 => va_tlen F.hx F.hb hT hS (Int32.ofInt_eq_ofNat.symm) hd (k H locs ls hP hD hS hl2)
theorem q_tld (F : mF X E own cc Ts) {t N : Nat} {f : Nat → Value} {x : Int} (hT : va_T .int t N f X.2.2.2.1 X.2.1.1 X.2.1.1.heap) (h : 0 ≤ x ∧ x < N) (hn : N < 2147483648) (hd : decode cc pc = .ok (.iaload, 1)) (k : cW X nc ns (pc + 1) lv (f x.toNat :: st) ws) : cW X nc ns pc lv (iV x :: .ref t :: st) ws := fun H locs ls hP hD hS hl2 => va_ti F.hx F.hb hT hS (ti_in h.1 h.2 hn) (by rw [ti_cln h.1 h.2 hn]) hd (k H locs ls hP hD hS hl2)
theorem q_tbd (F : mF X E own cc Ts) {t N : Nat} {f : Nat → Value} {x : Int} (hT : va_T .byte t N f X.2.2.2.1 X.2.1.1 X.2.1.1.heap) (h : 0 ≤ x ∧ x < N) (hn : N < 2147483648) (hd : decode cc pc = .ok (.baload, 1)) (k : cW X nc ns (pc + 1) lv (f x.toNat :: st) ws) : cW X nc ns pc lv (iV x :: .ref t :: st) ws := fun H locs ls hP hD hS hl2 => va_tb F.hx F.hb hT hS (ti_in h.1 h.2 hn) (by rw [ti_cln h.1 h.2 hn]) hd (k H locs ls hP hD hS hl2)
theorem q_tqd (F : mF X E own cc Ts) {C : String} {t N : Nat} {f : Nat → Value} {x : Int} (hT : va_T (.object C) t N f X.2.2.2.1 X.2.1.1 X.2.1.1.heap) (h : 0 ≤ x ∧ x < N) (hn : N < 2147483648) (hd : decode cc pc = .ok (.aaload, 1)) (k : cW X nc ns (pc + 1) lv (f x.toNat :: st) ws) : cW X nc ns pc lv (iV x :: .ref t :: st) ws := fun H locs ls hP hD hS hl2 => vb_tq F.hx F.hb hT hS (ti_in h.1 h.2 hn) (by rw [ti_cln h.1 h.2 hn]) hd (k H locs ls hP hD hS hl2)
/-- the static facts, each by its name -/
theorem sZ_DIFFER (F : mF X E own cc Ts) : va_Z RX1 "DIFFER" "LRiddleMill$Kind;" (.ref (E.2.1 0 0)) X.2.2.2.1 X.2.1.1 X.2.1.1.heap := F.hS.2.1.2.2.2.2.2.2.1
theorem sZ_IS (F : mF X E own cc Ts) : va_Z RX1 "IS" "LRiddleMill$Kind;" (.ref (E.2.1 0 9)) X.2.2.2.1 X.2.1.1 X.2.1.1.heap := F.hS.2.1.2.2.2.2.2.2.2.1
theorem sZ_ALL (F : mF X E own cc Ts) : va_Z RX1 "ALL" "[LRiddleMill$Kind;" (.ref (E.2.1 4 0)) X.2.2.2.1 X.2.1.1 X.2.1.1.heap := F.hS.2.1.2.2.2.2.2.2.2.2.1
theorem sT_ALL (F : mF X E own cc Ts) : va_T (.object RX1) (E.2.1 4 0) 12 (fun j => .ref (E.2.1 0 j)) X.2.2.2.1 X.2.1.1 X.2.1.1.heap := F.hS.2.1.2.2.2.2.2.2.2.2.2.1
theorem sZ_SW (F : mF X E own cc Ts) : va_Z RX0 "$SwitchMap$RiddleMill$Kind" "[I" (.ref (E.2.1 4 1)) X.2.2.2.1 X.2.1.1 X.2.1.1.heap := F.hS.2.1.2.2.2.2.2.2.2.2.2.2.1
theorem sT_SW (F : mF X E own cc Ts) : va_T .int (E.2.1 4 1) 12 (fun j => iV (swM.getD j 0)) X.2.2.2.1 X.2.1.1 X.2.1.1.heap := F.hS.2.1.2.2.2.2.2.2.2.2.2.2.2.1
theorem sZ_RULES (F : mF X E own cc Ts) : va_Z RL "RULES" "[Ljava/lang/String;" (.ref (E.2.1 4 2)) X.2.2.2.1 X.2.1.1 X.2.1.1.heap := F.hS.2.1.2.2.2.2.2.2.2.2.2.2.2.2.1
theorem sT_RULES (F : mF X E own cc Ts) : va_T (.object "java/lang/String") (E.2.1 4 2) 16 (fun j => .ref (E.2.1 1 (15 + j))) X.2.2.2.1 X.2.1.1 X.2.1.1.heap := F.hS.2.1.2.2.2.2.2.2.2.2.2.2.2.2.2.1
theorem sT_SC (F : mF X E own cc Ts) : va_T .int (E.2.1 4 3) (scL E) (fun j => iV (scE E j)) X.2.2.2.1 X.2.1.1 X.2.1.1.heap := F.hS.2.1.2.2.2.2.2.2.2.2.2.2.2.2.2.2.1
theorem sZ_COMPACT (F : mF X E own cc Ts) : va_Z "java/lang/String" "COMPACT_STRINGS" "Z" (.int 1) X.2.2.2.1 X.2.1.1 X.2.1.1.heap := F.hS.2.1.2.2.2.2.2.2.2.2.2.2.2.2.2.2.2.1
theorem sK (F : mF X E own cc Ts) : wk_S 33 txL txB (E.2.1 1) (E.2.1 2) X.2.2.2.1 X.2.1.1 X.2.1.1.heap := F.hS.2.1.2.2.2.2.2.2.2.2.2.2.2.2.2.2.2.2.1
theorem sQ_U (F : mF X E own cc Ts) : vx_Zq Bundle.tN "UNASSIGNED_STACK" Bundle.steD X.2.2.2.1 X.2.1.1 X.2.1.1.heap := F.hS.2.1.2.2.2.2.2.2.2.2.2.2.2.2.2.2.2.2.2.1
theorem sQ_N (F : mF X E own cc Ts) : vx_Zq Bundle.tN "SUPPRESSED_SENTINEL" Bundle.listD X.2.2.2.1 X.2.1.1 X.2.1.1.heap := F.hS.2.1.2.2.2.2.2.2.2.2.2.2.2.2.2.2.2.2.2.2.1
theorem sQ_F (F : mF X E own cc Ts) : va_Zq "jdk/internal/util/Preconditions" "SIOOBE_FORMATTER" "Ljava/util/function/BiFunction;" X.2.2.2.1 X.2.1.1 X.2.1.1.heap := F.hS.2.1.2.2.2.2.2.2.2.2.2.2.2.2.2.2.2.2.2.2.2
theorem sR_m (F : mF X E own cc Ts) {j : Nat} (h : j < 15) : vk_R RX11 (msG.getD j (0, "")).1 (msG.getD j (0, "")).2 (E.2.1 3 j) X.2.1.1 := F.hS.2.2.1 j h
theorem sR_RX10_rows (F : mF X E own cc Ts) : vk_R RX10 76 "rows" (E.2.1 1 12) X.2.1.1 := F.hS.2.2.2.1
theorem sR_RX10_columns (F : mF X E own cc Ts) : vk_R RX10 78 "columns" (E.2.1 1 13) X.2.1.1 := F.hS.2.2.2.2.1
theorem sR_RX10_grid (F : mF X E own cc Ts) : vk_R RX10 80 "grid" (E.2.1 1 14) X.2.1.1 := F.hS.2.2.2.2.2.1
theorem sR_RX3_grid (F : mF X E own cc Ts) : vk_R RX3 19 "grid" (E.2.1 1 14) X.2.1.1 := F.hS.2.2.2.2.2.2.1
theorem sR_RL_grid (F : mF X E own cc Ts) : vk_R RL 63 "grid 2 2 4; " (E.2.1 1 31) X.2.1.1 := F.hS.2.2.2.2.2.2.2.1
theorem sR_RL_semi (F : mF X E own cc Ts) : vk_R RL 76 ";" (E.2.1 1 32) X.2.1.1 := F.hS.2.2.2.2.2.2.2.2.1
theorem sN_10 (F : mF X E own cc Ts) : va_Nw (.fieldLinkNest RX10 59 "RiddleMill$Kind" "ALL" "[LRiddleMill$Kind;" "RiddleMill") X.2.1.1 := F.hS.2.2.2.2.2.2.2.2.2.1
theorem sN_5 (F : mF X E own cc Ts) : va_Nw (.fieldLinkNest RX5 67 "RiddleMill$Kind" "ALL" "[LRiddleMill$Kind;" "RiddleMill") X.2.1.1 := F.hS.2.2.2.2.2.2.2.2.2.2.1
theorem sC_0 (F : mF X E own cc Ts) : va_Nw (.castable "java/lang/IllegalStateException" "java/lang/IllegalStateException") X.2.1.1 := F.hS.2.2.2.2.2.2.2.2.2.2.2.1
theorem sC_1 (F : mF X E own cc Ts) : va_Nw (.castable "java/lang/IllegalArgumentException" "java/lang/IllegalArgumentException") X.2.1.1 := F.hS.2.2.2.2.2.2.2.2.2.2.2.2.1
theorem sC_2 (F : mF X E own cc Ts) : va_Nw (.castable "java/lang/IndexOutOfBoundsException" "java/lang/IndexOutOfBoundsException") X.2.1.1 := F.hS.2.2.2.2.2.2.2.2.2.2.2.2.2.1
theorem sC_3 (F : mF X E own cc Ts) : va_Nw (.declares ⟨"java/lang/RuntimeException", "<init>", "(Ljava/lang/String;)V"⟩) X.2.1.1 := F.hS.2.2.2.2.2.2.2.2.2.2.2.2.2.2.1
theorem sC_4 (F : mF X E own cc Ts) : va_Nw (.declares ⟨"java/lang/Exception", "<init>", "(Ljava/lang/String;)V"⟩) X.2.1.1 := F.hS.2.2.2.2.2.2.2.2.2.2.2.2.2.2.2.1
theorem sC_5 (F : mF X E own cc Ts) : va_Nw (.declares ⟨"java/lang/Throwable", "<init>", "(Ljava/lang/String;)V"⟩) X.2.1.1 := F.hS.2.2.2.2.2.2.2.2.2.2.2.2.2.2.2.2
/-- constants of Kind -/
theorem q_kNum (F : mF X E own cc Ts) {j : Nat} (h : j < 12) (hl : Cond.fieldLink own index "RiddleMill$Kind" "number" "I" ∈ Ts) (hd : decode cc pc = .ok (.getfield index, 3)) (k : cW X nc ns (pc + 3) lv (iV (kN j) :: st) ws) : cW X nc ns pc lv (.ref (E.2.1 0 j) :: st) ws := q_gOF F (F.hS.2.1.2.2.1 j h) hl rfl hd k
theorem q_kWord (F : mF X E own cc Ts) {j : Nat} (h : j < 12) (hl : Cond.fieldLink own index "RiddleMill$Kind" "word" "Ljava/lang/String;" ∈ Ts) (hd : decode cc pc = .ok (.getfield index, 3)) (k : cW X nc ns (pc + 3) lv (.ref (E.2.1 1 j) :: st) ws) : cW X nc ns pc lv (.ref (E.2.1 0 j) :: st) ws := q_gOF F (F.hS.2.1.2.2.2.1 j h) hl rfl hd k
theorem q_kAhd (F : mF X E own cc Ts) {j : Nat} (h : j < 12) (hl : Cond.fieldLink own index "RiddleMill$Kind" "numbersAhead" "I" ∈ Ts) (hd : decode cc pc = .ok (.getfield index, 3)) (k : cW X nc ns (pc + 3) lv (iV (kA j) :: st) ws) : cW X nc ns pc lv (.ref (E.2.1 0 j) :: st) ws := q_gOF F (F.hS.2.1.2.2.2.2.1 j h) hl rfl hd k
theorem q_kExa (F : mF X E own cc Ts) {j : Nat} (h : j < 12) (hl : Cond.fieldLink own index "RiddleMill$Kind" "exactCells" "I" ∈ Ts) (hd : decode cc pc = .ok (.getfield index, 3)) (k : cW X nc ns (pc + 3) lv (iV (kE j) :: st) ws) : cW X nc ns pc lv (.ref (E.2.1 0 j) :: st) ws := q_gOF F (F.hS.2.1.2.2.2.2.2.1 j h) hl rfl hd k
theorem q_lenALL (F : mF X E own cc Ts) (hd : decode cc pc = .ok (.arraylength, 1)) (k : cW X nc ns (pc + 1) lv (iV 12 :: st) ws) : cW X nc ns pc lv (.ref (E.2.1 4 0) :: st) ws := q_tlen F (sT_ALL F) hd k
theorem q_lenRULES (F : mF X E own cc Ts) (hd : decode cc pc = .ok (.arraylength, 1)) (k : cW X nc ns (pc + 1) lv (iV 16 :: st) ws) : cW X nc ns pc lv (.ref (E.2.1 4 2) :: st) ws := q_tlen F (sT_RULES F) hd k
theorem q_lenSC (F : mF X E own cc Ts) (hd : decode cc pc = .ok (.arraylength, 1)) (k : cW X nc ns (pc + 1) lv (iV (scL E : Int) :: st) ws) : cW X nc ns pc lv (.ref (E.2.1 4 3) :: st) ws := q_tlen F (sT_SC F) hd k
theorem q_ldALL (F : mF X E own cc Ts) {x : Int} (h : 0 ≤ x ∧ x < 12) (hd : decode cc pc = .ok (.aaload, 1)) (k : cW X nc ns (pc + 1) lv (.ref (E.2.1 0 x.toNat) :: st) ws) : cW X nc ns pc lv (iV x :: .ref (E.2.1 4 0) :: st) ws := q_tqd F (sT_ALL F) h (by decide) hd k
theorem q_ldRULES (F : mF X E own cc Ts) {x : Int} (h : 0 ≤ x ∧ x < 16) (hd : decode cc pc = .ok (.aaload, 1)) (k : cW X nc ns (pc + 1) lv (.ref (E.2.1 1 (15 + x.toNat)) :: st) ws) : cW X nc ns pc lv (iV x :: .ref (E.2.1 4 2) :: st) ws := q_tqd F (sT_RULES F) h (by decide) hd k
theorem q_ldSW (F : mF X E own cc Ts) {x : Int} (h : 0 ≤ x ∧ x < 12) (hd : decode cc pc = .ok (.iaload, 1)) (k : cW X nc ns (pc + 1) lv (iV (swT x) :: st) ws) : cW X nc ns pc lv (iV x :: .ref (E.2.1 4 1) :: st) ws := q_tld F (sT_SW F) h (by decide) hd k
theorem q_ldSC (F : mF X E own cc Ts) (hL : scL E < 2147483648) {x : Int} (h : 0 ≤ x ∧ x < (scL E : Int)) (hd : decode cc pc = .ok (.iaload, 1)) (k : cW X nc ns (pc + 1) lv (iV (scE E x.toNat) :: st) ws) : cW X nc ns pc lv (iV x :: .ref (E.2.1 4 3) :: st) ws := q_tld F (sT_SC F) h hL hd k
theorem q_acne (F : mF X E own cc Ts) {i j : Nat} (hi : i < 12) (hj : j < 12) {off : Int} (tgt : Nat) (hd : decode cc pc = .ok (.if_acmp .ne off, 3)) (ht : (pc : Int) + off = (tgt : Int)) (kt : ¬ i = j → cW X nc ns tgt lv st ws) (kf : i = j → cW X nc ns (pc + 3) lv st ws) : cW X nc ns pc lv (.ref (E.2.1 0 j) :: .ref (E.2.1 0 i) :: st) ws := fun H locs ls hP hD hS hl => lv_acmp_ne (rx := some (E.2.1 0 i)) (ry := some (E.2.1 0 j)) F.hx F.hb hd ht (fun h => kt (fun z => h (by rw [z])) H locs ls hP hD hS hl) (fun h => kf (F.hS.1 i j hi hj (Option.some.inj h)) H locs ls hP hD hS hl)
theorem q_aceq (F : mF X E own cc Ts) {i j : Nat} (hi : i < 12) (hj : j < 12) {off : Int} (tgt : Nat) (hd : decode cc pc = .ok (.if_acmp .eq off, 3)) (ht : (pc : Int) + off = (tgt : Int)) (kt : i = j → cW X nc ns tgt lv st ws) (kf : ¬ i = j → cW X nc ns (pc + 3) lv st ws) : cW X nc ns pc lv (.ref (E.2.1 0 j) :: .ref (E.2.1 0 i) :: st) ws := fun H locs ls hP hD hS hl => lv_acmp_eq (rx := some (E.2.1 0 i)) (ry := some (E.2.1 0 j)) F.hx F.hb hd ht (fun h => kt (F.hS.1 i j hi hj (Option.some.inj h)) H locs ls hP hD hS hl) (fun h => kf (fun z => h (by rw [z])) H locs ls hP hD hS hl)
end HROWS
/-- returns -/
def rI (X : xC) (E : cE) (cc : ByteArray) (mc ms : Nat) (Q : Int → cI → cR → Prop) : Prop := ∀ (pc : Nat) (lv : List (Nat × Value)) (x : Int) (I : cI) (R : cR) (T : va_W), decode cc pc = .ok (.ireturn, 1) → inR x → cM I R → Q x I R → cW X mc ms pc lv [iV x] (gw E.1 cIds (cef E (I, R)) ++ T)
def rZ (X : xC) (E : cE) (cc : ByteArray) (mc ms : Nat) (Q : Int → cI → cR → Prop) : Prop := ∀ (pc : Nat) (lv : List (Nat × Value)) (x : Int) (I : cI) (R : cR) (T : va_W), decode cc pc = .ok (.ireturn, 1) → (x = 0 ∨ x = 1) → inR x → cM I R → Q x I R → cW X mc ms pc lv [iV x] (gw E.1 cIds (cef E (I, R)) ++ T)
def rV (X : xC) (E : cE) (cc : ByteArray) (mc ms : Nat) (Q : cI → cR → Prop) : Prop := ∀ (pc : Nat) (lv : List (Nat × Value)) (I : cI) (R : cR) (T : va_W), decode cc pc = .ok (.return_, 1) → cM I R → Q I R → cW X mc ms pc lv [] (gw E.1 cIds (cef E (I, R)) ++ T)
def rR (X : xC) (E : cE) (cc : ByteArray) (mc ms : Nat) (Q : Nat → cI → cR → Prop) : Prop := ∀ (pc : Nat) (lv : List (Nat × Value)) (r : Nat) (I : cI) (R : cR) (T : va_W), decode cc pc = .ok (.areturn, 1) → isR r → cM I R → Q r I R → cW X mc ms pc lv [.ref (E.1 r)] (gw E.1 cIds (cef E (I, R)) ++ T)
def rJ (X : xC) (E : cE) (cc : ByteArray) (mc ms : Nat) (Q : Int → cI → cR → Prop) : Prop := ∀ (pc : Nat) (lv : List (Nat × Value)) (x : Int) (I : cI) (R : cR) (T : va_W), decode cc pc = .ok (.lreturn, 1) → cM I R → Q x I R → cW X mc ms pc lv [jV x] (gw E.1 cIds (cef E (I, R)) ++ T)
section MK
variable {X : xC} {E : cE} {own : String} {cc : ByteArray} {Ts : List Cond} {mc ms : Nat}
theorem k_retl {σ : Type} {ids : List Nat} {ret : Option FieldType} {ef : σ → Nat → va_E} {post : Option Value → σ → Prop} {u : σ} {pc : Nat} {lv : List (Nat × Value)} {T : va_W} (F : mF X E own cc Ts) (K : kX X E ids ret ef post mc ms) (hr : ret = some .long) {x : Int} (hd : decode cc pc = .ok (.lreturn, 1)) (hq : post (some (jV x)) u) : cW X mc ms pc lv [jV x] (gw E.1 ids (ef u) ++ T) := by
  intro H locs ls hP hD hS hl
  rw [K.2.2]
  exact W.lret F.hx F.hb (K.2.1.trans hr) (fun t ht hW => k_q K.1 hq hP hS ht _) (by have h := hS.2.2; rw [K.1] at h; exact h) hd F.hl
theorem narZ {x : Int} (h : x = 0 ∨ x = 1) : narrow .boolean (iV x) = iV x := by rcases h with rfl | rfl <;> decide
theorem mk_rI {Q : Int → cI → cR → Prop} (F : mF X E own cc Ts) (K : kX X E cIds (some .int) (cef E) (pI Q) mc ms) : rI X E cc mc ms Q := fun pc lv x I R T hd hr hm hq => k_reti (u := (I, R)) F K rfl rfl hd ⟨x, rfl, hr, hm, hq⟩
theorem mk_rZ {Q : Int → cI → cR → Prop} (F : mF X E own cc Ts) (K : kX X E cIds (some .boolean) (cef E) (pI Q) mc ms) : rZ X E cc mc ms Q := fun pc lv x I R T hd hz hr hm hq => k_reti (u := (I, R)) F K rfl (narZ hz) hd ⟨x, rfl, hr, hm, hq⟩
theorem mk_rV {Q : cI → cR → Prop} (F : mF X E own cc Ts) (K : kX X E cIds none (cef E) (pV Q) mc ms) : rV X E cc mc ms Q := fun pc lv I R T hd hm hq => k_retv (u := (I, R)) F K rfl hd ⟨rfl, hm, hq⟩
theorem mk_rR {Q : Nat → cI → cR → Prop} (F : mF X E own cc Ts) (K : kX X E cIds (some (.object "RiddleMill$Rule")) (cef E) (pR E Q) mc ms) : rR X E cc mc ms Q := fun pc lv r I R T hd hr hm hq => k_reta (u := (I, R)) F K rfl hd ⟨r, rfl, hr, hm, hq⟩
theorem mk_rJ {Q : Int → cI → cR → Prop} (F : mF X E own cc Ts) (K : kX X E cIds (some .long) (cef E) (pJ Q) mc ms) : rJ X E cc mc ms Q := fun pc lv x I R T hd hm hq => k_retl (u := (I, R)) F K rfl hd ⟨x, rfl, hm, hq⟩
theorem mk_rIx {Q : Int → cI → cR → Prop} {px : String → cI × cR → Prop} (F : mF X E own cc Ts) (K : kXx X E cIds (some .int) (cef E) (pI Q) px mc ms) : rI X E cc mc ms Q := fun pc lv x I R T hd hr hm hq => k_xreti (u := (I, R)) F K rfl rfl hd ⟨x, rfl, hr, hm, hq⟩
theorem mk_rZx {Q : Int → cI → cR → Prop} {px : String → cI × cR → Prop} (F : mF X E own cc Ts) (K : kXx X E cIds (some .boolean) (cef E) (pI Q) px mc ms) : rZ X E cc mc ms Q := fun pc lv x I R T hd hz hr hm hq => k_xreti (u := (I, R)) F K rfl (narZ hz) hd ⟨x, rfl, hr, hm, hq⟩
theorem mk_rVx {Q : cI → cR → Prop} {px : String → cI × cR → Prop} (F : mF X E own cc Ts) (K : kXx X E cIds none (cef E) (pV Q) px mc ms) : rV X E cc mc ms Q := fun pc lv I R T hd hm hq => k_xretv (u := (I, R)) F K rfl hd ⟨rfl, hm, hq⟩
end MK
section CVN
variable {X : xC} {E : cE} {own : String} {cc : ByteArray} {Ts : List Cond} {nc ns pc kc ks : Nat} {lv : List (Nat × Value)} {st : List Value} {T : va_W} {ids : List Nat} {e : Nat → va_E}
/-- a call that could throw, but doesn't here -/
theorem q_cVn {σ : Type} {ef : σ → Nat → va_E} (F : mF X E own cc Ts) {qx : String → σ → Prop} {qo : Option Value → σ → Prop} {y : MethodName} {bytes : ByteArray} {maxL n index i ci N : Nat} {rt : Option FieldType} {wsY wsY' : List Cond} {rm : Room} {av st0 : List Value} {fs : List Value} {C : String} {TT : u_T}
    (hM : gMx X.1.2.1 X.2.2.2.2 E ids y wsY rm (.ref (E.1 i) :: av) e ef qo qx kc ks) (hi : i ∈ ids) (he : e i = .inr (ci, fs)) (hc : vwCl[ci]? = some (C, TT, N)) (hg : GoodIn Ts (wsV own index C y wsY)) (hw : wsY = Cond.code y bytes maxL rt :: wsY') (hrc : rm.cells = kc ∧ rm.slots = ks)
    (hy : y.cls = C ∧ y.cls ≠ "java/lang/invoke/MethodHandle" ∧ y.cls ≠ "java/lang/invoke/VarHandle" ∧ (parseMethodDescriptor y.desc).map (fun d => d.parameters.length) = some n) (hR : rm.frames + 1 ≤ X.1.2.2.2.frames ∧ 8 + (maxL + 11) + rm.locals ≤ X.1.2.2.2.locals)
    (hn : av.length = n) (hst : st0 = av.reverse ++ .ref (E.1 i) :: st) (hcat : (st.map fun v => v.category).sum ≤ 8) (hd : decode cc pc = .ok (.invokevirtual index, 3)) (hcs : nc + kc ≤ X.1.2.2.2.cells ∧ ns + ks ≤ X.1.2.2.2.slots)
    (hx : ∀ (c : String) (u : σ), qx c u → False)
    (kk : ∀ (v : Option Value) (u : σ), qo v u → cW X (nc + kc) (ns + ks) (pc + 3) lv (v.toList ++ st) (gw E.1 ids (ef u) ++ T)) : cW X nc ns pc lv st0 (gw E.1 ids e ++ T) := by
  intro H locs ls hP hD hS hlv
  obtain ⟨q, hq, -⟩ := gw_get (ad := E.1) (e := e) (T := T) hi
  rw [he] at hq
  have ho := k_own F.hA hD hS
  refine g_callx (vx_runV (As := av) (rest := st) ⟨F.hx, F.hb, F.hml, F.ho, F.ht⟩ (hM H.size) (cwV n F.ht hg hw hrc.1 hrc.2 hy hR) ⟨gP_blind, va_recv F.hK hP hc hq, k_pre F hP hD hS _⟩ rfl hn hlv.1 hst (lv_room hcat) hd hcs) hS (fun z _ h => ho z h) ho (fun c9 ce q9 u H1 locs1 hp hB hk hS1 hce hcv hcl => (hx c9 u hp).elim) (fun v u H1 locs1 hp hB hk hS1 => ?_)
  exact kk v u hp H1 locs1 ls (gP_join hP hD hk hB) (gD_join hD) hS1 hlv
/-- a call of a method of a thing beside the world: a text, a constant -/
theorem q_cG (F : mF X E own cc Ts) {τ : Type} {ef : τ → Nat → va_E} {post : Option Value → τ → Prop} {y : MethodName} {bytes : ByteArray} {maxL n index b mc ms : Nat} {rt : Option FieldType} {wsY wsY' : List Cond} {rm : Room} {av st0 : List Value} {C : String}
    (hM : gM X.1.2.1 X.2.2.2.2 E ids y wsY rm (.ref b :: av) e ef post mc ms) (hrecv : ∀ (H : Heap) (locs : List Loc), va_S X.2.2.2.1 X.2.1.1.heap H locs → ∃ cell : Cell, H[b]? = some cell ∧ cell.vm.isStatics = false ∧ X.2.1.1.vm.findClass C = some cell.cls) (hg : GoodIn Ts (wsV own index C y wsY)) (hw : wsY = Cond.code y bytes maxL rt :: wsY') (hrc : rm.cells = mc ∧ rm.slots = ms)
    (hy : y.cls = C ∧ y.cls ≠ "java/lang/invoke/MethodHandle" ∧ y.cls ≠ "java/lang/invoke/VarHandle" ∧ (parseMethodDescriptor y.desc).map (fun d => d.parameters.length) = some n) (hR : rm.frames + 1 ≤ X.1.2.2.2.frames ∧ 8 + (maxL + 11) + rm.locals ≤ X.1.2.2.2.locals)
    (hn : av.length = n) (hst : st0 = av.reverse ++ .ref b :: st) (hcat : (st.map fun v => v.category).sum ≤ 8) (hd : decode cc pc = .ok (.invokevirtual index, 3)) (hcs : nc + mc ≤ X.1.2.2.2.cells ∧ ns + ms ≤ X.1.2.2.2.slots)
    (kk : ∀ (v : Option Value) (u : τ), post v u → cW X (nc + mc) (ns + ms) (pc + 3) lv (v.toList ++ st) (gw E.1 ids (ef u) ++ T)) : cW X nc ns pc lv st0 (gw E.1 ids e ++ T) := by
  intro H locs ls hP hD hS hlv
  have ho := k_own F.hA hD hS
  refine g_callq (va_runV (As := av) (rest := st) ⟨F.hx, F.hb, F.hml, F.ho, F.ht⟩ (hM H.size) (cwV n F.ht hg hw hrc.1 hrc.2 hy hR) ⟨gP_blind, hrecv H locs hS, k_pre F hP hD hS _⟩ rfl hn hlv.1 hst (lv_room hcat) hd hcs) hS (fun z _ h => ho z h) ho (fun v u H1 locs1 hp hB hk hS1 => ?_)
  exact kk v u hp H1 locs1 ls (gP_join hP hD hk hB) (gD_join hD) hS1 hlv
/-- .. of an inherited method -/
theorem q_cU (F : mF X E own cc Ts) {τ : Type} {ef : τ → Nat → va_E} {post : Option Value → τ → Prop} {x y : MethodName} {bytes : ByteArray} {maxL n index b mc ms : Nat} {rt : Option FieldType} {wsY wsY' : List Cond} {rm : Room} {av st0 : List Value} {C owner : String}
    (hM : gM X.1.2.1 X.2.2.2.2 E ids y wsY rm (.ref b :: av) e ef post mc ms) (hrecv : ∀ (H : Heap) (locs : List Loc), va_S X.2.2.2.1 X.2.1.1.heap H locs → ∃ cell : Cell, H[b]? = some cell ∧ cell.vm.isStatics = false ∧ X.2.1.1.vm.findClass C = some cell.cls) (hg : GoodIn Ts (va_wsU own index C owner x y wsY)) (hw : wsY = Cond.code y bytes maxL rt :: wsY') (hrc : rm.cells = mc ∧ rm.slots = ms) (hyx : y = ⟨owner, x.name, x.desc⟩)
    (hy : owner ≠ "java/lang/invoke/MethodHandle" ∧ owner ≠ "java/lang/invoke/VarHandle" ∧ (parseMethodDescriptor x.desc).map (fun d => d.parameters.length) = some n) (hR : rm.frames + 1 ≤ X.1.2.2.2.frames ∧ 8 + (maxL + 11) + rm.locals ≤ X.1.2.2.2.locals)
    (hn : av.length = n) (hst : st0 = av.reverse ++ .ref b :: st) (hcat : (st.map fun v => v.category).sum ≤ 8) (hd : decode cc pc = .ok (.invokevirtual index, 3)) (hcs : nc + mc ≤ X.1.2.2.2.cells ∧ ns + ms ≤ X.1.2.2.2.slots)
    (kk : ∀ (v : Option Value) (u : τ), post v u → cW X (nc + mc) (ns + ms) (pc + 3) lv (v.toList ++ st) (gw E.1 ids (ef u) ++ T)) : cW X nc ns pc lv st0 (gw E.1 ids e ++ T) := by
  intro H locs ls hP hD hS hlv
  have ho := k_own F.hA hD hS
  refine g_callq (va_runU (As := av) (rest := st) ⟨F.hx, F.hb, F.hml, F.ho, F.ht⟩ (hM H.size) (va_cwU n F.ht hg hw hrc.1 hrc.2 hyx hy hR) ⟨gP_blind, hrecv H locs hS, k_pre F hP hD hS _⟩ rfl hn hlv.1 hst (lv_room hcat) hd hcs) hS (fun z _ h => ho z h) ho (fun v u H1 locs1 hp hB hk hS1 => ?_)
  exact kk v u hp H1 locs1 ls (gP_join hP hD hk hB) (gD_join hD) hS1 hlv
end CVN
section CR
variable {X : xC} {E : cE} {own : String} {cc : ByteArray} {Ts : List Cond} {nc ns pc mc ms : Nat} {lv : List (Nat × Value)} {st : List Value} {T : va_W} {I : cI} {R : cR}
theorem q_Vi (F : mF X E own cc Ts) {Q : Int → cI → cR → Prop} {y : MethodName} {bytes : ByteArray} {maxL n index i ci N : Nat} {rt : Option FieldType} {wsY wsY' : List Cond} {rm : Room} {av st0 : List Value} {fs : List Value} {C : String} {TT : u_T} (hM : gM X.1.2.1 X.2.2.2.2 E cIds y wsY rm (.ref (E.1 i) :: av) (cef E (I, R)) (cef E) (pI Q) mc ms) (hi : i ∈ cIds) (he : (cef E (I, R)) i = .inr (ci, fs)) (hc : vwCl[ci]? = some (C, TT, N)) (hg : GoodIn Ts (wsV own index C y wsY)) (hw : wsY = Cond.code y bytes maxL rt :: wsY') (hrc : rm.cells = mc ∧ rm.slots = ms) (hy : y.cls = C ∧ y.cls ≠ "java/lang/invoke/MethodHandle" ∧ y.cls ≠ "java/lang/invoke/VarHandle" ∧ (parseMethodDescriptor y.desc).map (fun d => d.parameters.length) = some n) (hR : rm.frames + 1 ≤ X.1.2.2.2.frames ∧ 8 + (maxL + 11) + rm.locals ≤ X.1.2.2.2.locals) (hn : av.length = n) (hst : st0 = av.reverse ++ .ref (E.1 i) :: st) (hcat : (st.map fun v => v.category).sum ≤ 8) (hd : decode cc pc = .ok (.invokevirtual index, 3)) (hcs : nc + mc ≤ X.1.2.2.2.cells ∧ ns + ms ≤ X.1.2.2.2.slots) (kk : ∀ (r : Int) (I' : cI) (R' : cR), inR r → cM I' R' → Q r I' R' → cW X (nc + mc) (ns + ms) (pc + 3) lv (iV r :: st) (gw E.1 cIds (cef E (I', R')) ++ T)) : cW X nc ns pc lv st0 (gw E.1 cIds (cef E (I, R)) ++ T) :=
  q_cV F hM hi he hc hg hw hrc hy hR hn hst hcat hd hcs (fun v u hp => by obtain ⟨r, rfl, hr, hm, hq⟩ := hp; exact kk r u.1 u.2 hr hm hq)
theorem q_Si (F : mF X E own cc Ts) {Q : Int → cI → cR → Prop} {y : MethodName} {bytes : ByteArray} {maxL n index : Nat} {rt : Option FieldType} {wsY wsY' : List Cond} {rm : Room} {av st0 : List Value} (hM : gM X.1.2.1 X.2.2.2.2 E cIds y wsY rm av (cef E (I, R)) (cef E) (pI Q) mc ms) (hg : GoodIn Ts (va_wsS own index y wsY)) (hw : wsY = Cond.code y bytes maxL rt :: wsY') (hrc : rm.cells = mc ∧ rm.slots = ms) {C : String} (hy : y.cls = C ∧ y.cls ≠ "java/lang/invoke/MethodHandle" ∧ y.cls ≠ "java/lang/invoke/VarHandle" ∧ (parseMethodDescriptor y.desc).map (fun d => d.parameters.length) = some n) (hR : rm.frames + 1 ≤ X.1.2.2.2.frames ∧ 8 + (maxL + 11) + rm.locals ≤ X.1.2.2.2.locals) (hn : av.length = n) (hst : st0 = av.reverse ++ st) (hcat : (st.map fun v => v.category).sum ≤ 8) (hd : decode cc pc = .ok (.invokestatic index, 3)) (hcs : nc + mc ≤ X.1.2.2.2.cells ∧ ns + ms ≤ X.1.2.2.2.slots) (kk : ∀ (r : Int) (I' : cI) (R' : cR), inR r → cM I' R' → Q r I' R' → cW X (nc + mc) (ns + ms) (pc + 3) lv (iV r :: st) (gw E.1 cIds (cef E (I', R')) ++ T)) : cW X nc ns pc lv st0 (gw E.1 cIds (cef E (I, R)) ++ T) :=
  q_cS F hM hg hw hrc hy.2 hR hn hst hcat hd hcs (fun v u hp => by obtain ⟨r, rfl, hr, hm, hq⟩ := hp; exact kk r u.1 u.2 hr hm hq)
theorem q_Vv (F : mF X E own cc Ts) {Q : cI → cR → Prop} {y : MethodName} {bytes : ByteArray} {maxL n index i ci N : Nat} {rt : Option FieldType} {wsY wsY' : List Cond} {rm : Room} {av st0 : List Value} {fs : List Value} {C : String} {TT : u_T} (hM : gM X.1.2.1 X.2.2.2.2 E cIds y wsY rm (.ref (E.1 i) :: av) (cef E (I, R)) (cef E) (pV Q) mc ms) (hi : i ∈ cIds) (he : (cef E (I, R)) i = .inr (ci, fs)) (hc : vwCl[ci]? = some (C, TT, N)) (hg : GoodIn Ts (wsV own index C y wsY)) (hw : wsY = Cond.code y bytes maxL rt :: wsY') (hrc : rm.cells = mc ∧ rm.slots = ms) (hy : y.cls = C ∧ y.cls ≠ "java/lang/invoke/MethodHandle" ∧ y.cls ≠ "java/lang/invoke/VarHandle" ∧ (parseMethodDescriptor y.desc).map (fun d => d.parameters.length) = some n) (hR : rm.frames + 1 ≤ X.1.2.2.2.frames ∧ 8 + (maxL + 11) + rm.locals ≤ X.1.2.2.2.locals) (hn : av.length = n) (hst : st0 = av.reverse ++ .ref (E.1 i) :: st) (hcat : (st.map fun v => v.category).sum ≤ 8) (hd : decode cc pc = .ok (.invokevirtual index, 3)) (hcs : nc + mc ≤ X.1.2.2.2.cells ∧ ns + ms ≤ X.1.2.2.2.slots) (kk : ∀ (I' : cI) (R' : cR), cM I' R' → Q I' R' → cW X (nc + mc) (ns + ms) (pc + 3) lv st (gw E.1 cIds (cef E (I', R')) ++ T)) : cW X nc ns pc lv st0 (gw E.1 cIds (cef E (I, R)) ++ T) :=
  q_cV F hM hi he hc hg hw hrc hy hR hn hst hcat hd hcs (fun v u hp => by obtain ⟨rfl, hm, hq⟩ := hp; exact kk u.1 u.2 hm hq)
theorem q_Sv (F : mF X E own cc Ts) {Q : cI → cR → Prop} {y : MethodName} {bytes : ByteArray} {maxL n index : Nat} {rt : Option FieldType} {wsY wsY' : List Cond} {rm : Room} {av st0 : List Value} (hM : gM X.1.2.1 X.2.2.2.2 E cIds y wsY rm av (cef E (I, R)) (cef E) (pV Q) mc ms) (hg : GoodIn Ts (va_wsS own index y wsY)) (hw : wsY = Cond.code y bytes maxL rt :: wsY') (hrc : rm.cells = mc ∧ rm.slots = ms) {C : String} (hy : y.cls = C ∧ y.cls ≠ "java/lang/invoke/MethodHandle" ∧ y.cls ≠ "java/lang/invoke/VarHandle" ∧ (parseMethodDescriptor y.desc).map (fun d => d.parameters.length) = some n) (hR : rm.frames + 1 ≤ X.1.2.2.2.frames ∧ 8 + (maxL + 11) + rm.locals ≤ X.1.2.2.2.locals) (hn : av.length = n) (hst : st0 = av.reverse ++ st) (hcat : (st.map fun v => v.category).sum ≤ 8) (hd : decode cc pc = .ok (.invokestatic index, 3)) (hcs : nc + mc ≤ X.1.2.2.2.cells ∧ ns + ms ≤ X.1.2.2.2.slots) (kk : ∀ (I' : cI) (R' : cR), cM I' R' → Q I' R' → cW X (nc + mc) (ns + ms) (pc + 3) lv st (gw E.1 cIds (cef E (I', R')) ++ T)) : cW X nc ns pc lv st0 (gw E.1 cIds (cef E (I, R)) ++ T) :=
  q_cS F hM hg hw hrc hy.2 hR hn hst hcat hd hcs (fun v u hp => by obtain ⟨rfl, hm, hq⟩ := hp; exact kk u.1 u.2 hm hq)
theorem q_Vr (F : mF X E own cc Ts) {Q : Nat → cI → cR → Prop} {y : MethodName} {bytes : ByteArray} {maxL n index i ci N : Nat} {rt : Option FieldType} {wsY wsY' : List Cond} {rm : Room} {av st0 : List Value} {fs : List Value} {C : String} {TT : u_T} (hM : gM X.1.2.1 X.2.2.2.2 E cIds y wsY rm (.ref (E.1 i) :: av) (cef E (I, R)) (cef E) (pR E Q) mc ms) (hi : i ∈ cIds) (he : (cef E (I, R)) i = .inr (ci, fs)) (hc : vwCl[ci]? = some (C, TT, N)) (hg : GoodIn Ts (wsV own index C y wsY)) (hw : wsY = Cond.code y bytes maxL rt :: wsY') (hrc : rm.cells = mc ∧ rm.slots = ms) (hy : y.cls = C ∧ y.cls ≠ "java/lang/invoke/MethodHandle" ∧ y.cls ≠ "java/lang/invoke/VarHandle" ∧ (parseMethodDescriptor y.desc).map (fun d => d.parameters.length) = some n) (hR : rm.frames + 1 ≤ X.1.2.2.2.frames ∧ 8 + (maxL + 11) + rm.locals ≤ X.1.2.2.2.locals) (hn : av.length = n) (hst : st0 = av.reverse ++ .ref (E.1 i) :: st) (hcat : (st.map fun v => v.category).sum ≤ 8) (hd : decode cc pc = .ok (.invokevirtual index, 3)) (hcs : nc + mc ≤ X.1.2.2.2.cells ∧ ns + ms ≤ X.1.2.2.2.slots) (kk : ∀ (r : Nat) (I' : cI) (R' : cR), isR r → cM I' R' → Q r I' R' → cW X (nc + mc) (ns + ms) (pc + 3) lv (.ref (E.1 r) :: st) (gw E.1 cIds (cef E (I', R')) ++ T)) : cW X nc ns pc lv st0 (gw E.1 cIds (cef E (I, R)) ++ T) :=
  q_cV F hM hi he hc hg hw hrc hy hR hn hst hcat hd hcs (fun v u hp => by obtain ⟨r, rfl, hr, hm, hq⟩ := hp; exact kk r u.1 u.2 hr hm hq)
theorem q_Sr (F : mF X E own cc Ts) {Q : Nat → cI → cR → Prop} {y : MethodName} {bytes : ByteArray} {maxL n index : Nat} {rt : Option FieldType} {wsY wsY' : List Cond} {rm : Room} {av st0 : List Value} (hM : gM X.1.2.1 X.2.2.2.2 E cIds y wsY rm av (cef E (I, R)) (cef E) (pR E Q) mc ms) (hg : GoodIn Ts (va_wsS own index y wsY)) (hw : wsY = Cond.code y bytes maxL rt :: wsY') (hrc : rm.cells = mc ∧ rm.slots = ms) {C : String} (hy : y.cls = C ∧ y.cls ≠ "java/lang/invoke/MethodHandle" ∧ y.cls ≠ "java/lang/invoke/VarHandle" ∧ (parseMethodDescriptor y.desc).map (fun d => d.parameters.length) = some n) (hR : rm.frames + 1 ≤ X.1.2.2.2.frames ∧ 8 + (maxL + 11) + rm.locals ≤ X.1.2.2.2.locals) (hn : av.length = n) (hst : st0 = av.reverse ++ st) (hcat : (st.map fun v => v.category).sum ≤ 8) (hd : decode cc pc = .ok (.invokestatic index, 3)) (hcs : nc + mc ≤ X.1.2.2.2.cells ∧ ns + ms ≤ X.1.2.2.2.slots) (kk : ∀ (r : Nat) (I' : cI) (R' : cR), isR r → cM I' R' → Q r I' R' → cW X (nc + mc) (ns + ms) (pc + 3) lv (.ref (E.1 r) :: st) (gw E.1 cIds (cef E (I', R')) ++ T)) : cW X nc ns pc lv st0 (gw E.1 cIds (cef E (I, R)) ++ T) :=
  q_cS F hM hg hw hrc hy.2 hR hn hst hcat hd hcs (fun v u hp => by obtain ⟨r, rfl, hr, hm, hq⟩ := hp; exact kk r u.1 u.2 hr hm hq)
theorem q_Vj (F : mF X E own cc Ts) {Q : Int → cI → cR → Prop} {y : MethodName} {bytes : ByteArray} {maxL n index i ci N : Nat} {rt : Option FieldType} {wsY wsY' : List Cond} {rm : Room} {av st0 : List Value} {fs : List Value} {C : String} {TT : u_T} (hM : gM X.1.2.1 X.2.2.2.2 E cIds y wsY rm (.ref (E.1 i) :: av) (cef E (I, R)) (cef E) (pJ Q) mc ms) (hi : i ∈ cIds) (he : (cef E (I, R)) i = .inr (ci, fs)) (hc : vwCl[ci]? = some (C, TT, N)) (hg : GoodIn Ts (wsV own index C y wsY)) (hw : wsY = Cond.code y bytes maxL rt :: wsY') (hrc : rm.cells = mc ∧ rm.slots = ms) (hy : y.cls = C ∧ y.cls ≠ "java/lang/invoke/MethodHandle" ∧ y.cls ≠ "java/lang/invoke/VarHandle" ∧ (parseMethodDescriptor y.desc).map (fun d => d.parameters.length) = some n) (hR : rm.frames + 1 ≤ X.1.2.2.2.frames ∧ 8 + (maxL + 11) + rm.locals ≤ X.1.2.2.2.locals) (hn : av.length = n) (hst : st0 = av.reverse ++ .ref (E.1 i) :: st) (hcat : (st.map fun v => v.category).sum ≤ 8) (hd : decode cc pc = .ok (.invokevirtual index, 3)) (hcs : nc + mc ≤ X.1.2.2.2.cells ∧ ns + ms ≤ X.1.2.2.2.slots) (kk : ∀ (r : Int) (I' : cI) (R' : cR), cM I' R' → Q r I' R' → cW X (nc + mc) (ns + ms) (pc + 3) lv (jV r :: st) (gw E.1 cIds (cef E (I', R')) ++ T)) : cW X nc ns pc lv st0 (gw E.1 cIds (cef E (I, R)) ++ T) :=
  q_cV F hM hi he hc hg hw hrc hy hR hn hst hcat hd hcs (fun v u hp => by obtain ⟨r, rfl, hm, hq⟩ := hp; exact kk r u.1 u.2 hm hq)
theorem q_Sj (F : mF X E own cc Ts) {Q : Int → cI → cR → Prop} {y : MethodName} {bytes : ByteArray} {maxL n index : Nat} {rt : Option FieldType} {wsY wsY' : List Cond} {rm : Room} {av st0 : List Value} (hM : gM X.1.2.1 X.2.2.2.2 E cIds y wsY rm av (cef E (I, R)) (cef E) (pJ Q) mc ms) (hg : GoodIn Ts (va_wsS own index y wsY)) (hw : wsY = Cond.code y bytes maxL rt :: wsY') (hrc : rm.cells = mc ∧ rm.slots = ms) {C : String} (hy : y.cls = C ∧ y.cls ≠ "java/lang/invoke/MethodHandle" ∧ y.cls ≠ "java/lang/invoke/VarHandle" ∧ (parseMethodDescriptor y.desc).map (fun d => d.parameters.length) = some n) (hR : rm.frames + 1 ≤ X.1.2.2.2.frames ∧ 8 + (maxL + 11) + rm.locals ≤ X.1.2.2.2.locals) (hn : av.length = n) (hst : st0 = av.reverse ++ st) (hcat : (st.map fun v => v.category).sum ≤ 8) (hd : decode cc pc = .ok (.invokestatic index, 3)) (hcs : nc + mc ≤ X.1.2.2.2.cells ∧ ns + ms ≤ X.1.2.2.2.slots) (kk : ∀ (r : Int) (I' : cI) (R' : cR), cM I' R' → Q r I' R' → cW X (nc + mc) (ns + ms) (pc + 3) lv (jV r :: st) (gw E.1 cIds (cef E (I', R')) ++ T)) : cW X nc ns pc lv st0 (gw E.1 cIds (cef E (I, R)) ++ T) :=
  q_cS F hM hg hw hrc hy.2 hR hn hst hcat hd hcs (fun v u hp => by obtain ⟨r, rfl, hm, hq⟩ := hp; exact kk r u.1 u.2 hm hq)
theorem q_Vix (F : mF X E own cc Ts) {ret : Option FieldType} {post : Option Value → cI × cR → Prop} {Qx : Nat → cI → cR → Prop} (K : kXx X E cIds ret (cef E) post (pX Qx) mc ms) {Q : Int → cI → cR → Prop} {y : MethodName} {bytes : ByteArray} {maxL n index i ci N kc ks : Nat} {rt : Option FieldType} {wsY wsY' : List Cond} {rm : Room} {av st0 : List Value} {fs : List Value} {C : String} {TT : u_T} (h1 : nc + kc ≤ mc) (h2 : ns + ks ≤ ms) (hM : gMx X.1.2.1 X.2.2.2.2 E cIds y wsY rm (.ref (E.1 i) :: av) (cef E (I, R)) (cef E) (pI Q) (pX Qx) kc ks) (hi : i ∈ cIds) (he : cef E (I, R) i = .inr (ci, fs)) (hc : vwCl[ci]? = some (C, TT, N)) (hg : GoodIn Ts (wsV own index C y wsY)) (hw : wsY = Cond.code y bytes maxL rt :: wsY') (hrc : rm.cells = kc ∧ rm.slots = ks) (hy : y.cls = C ∧ y.cls ≠ "java/lang/invoke/MethodHandle" ∧ y.cls ≠ "java/lang/invoke/VarHandle" ∧ (parseMethodDescriptor y.desc).map (fun d => d.parameters.length) = some n) (hR : rm.frames + 1 ≤ X.1.2.2.2.frames ∧ 8 + (maxL + 11) + rm.locals ≤ X.1.2.2.2.locals) (hn : av.length = n) (hst : st0 = av.reverse ++ .ref (E.1 i) :: st) (hcat : (st.map fun v => v.category).sum ≤ 8) (hd : decode cc pc = .ok (.invokevirtual index, 3)) (hcs : nc + kc ≤ X.1.2.2.2.cells ∧ ns + ks ≤ X.1.2.2.2.slots) (kk : ∀ (r : Int) (I' : cI) (R' : cR), inR r → cM I' R' → Q r I' R' → cW X (nc + kc) (ns + ks) (pc + 3) lv (iV r :: st) (gw E.1 cIds (cef E (I', R')) ++ [])) : cW X nc ns pc lv st0 (gw E.1 cIds (cef E (I, R)) ++ []) :=
  q_cVx F K hM hi he hc hg hw hrc hy hR hn hst hcat hd hcs ⟨h1, h2⟩ (fun _ _ h => h) (fun v u hp => by obtain ⟨r, rfl, hr, hm, hq⟩ := hp; exact kk r u.1 u.2 hr hm hq)
theorem q_Vin (F : mF X E own cc Ts) {Q : Int → cI → cR → Prop} {y : MethodName} {bytes : ByteArray} {maxL n index i ci N kc ks : Nat} {rt : Option FieldType} {wsY wsY' : List Cond} {rm : Room} {av st0 : List Value} {fs : List Value} {C : String} {TT : u_T} (hM : gMx X.1.2.1 X.2.2.2.2 E cIds y wsY rm (.ref (E.1 i) :: av) (cef E (I, R)) (cef E) (pI Q) (pX (fun _ _ _ => False)) kc ks) (hi : i ∈ cIds) (he : cef E (I, R) i = .inr (ci, fs)) (hc : vwCl[ci]? = some (C, TT, N)) (hg : GoodIn Ts (wsV own index C y wsY)) (hw : wsY = Cond.code y bytes maxL rt :: wsY') (hrc : rm.cells = kc ∧ rm.slots = ks) (hy : y.cls = C ∧ y.cls ≠ "java/lang/invoke/MethodHandle" ∧ y.cls ≠ "java/lang/invoke/VarHandle" ∧ (parseMethodDescriptor y.desc).map (fun d => d.parameters.length) = some n) (hR : rm.frames + 1 ≤ X.1.2.2.2.frames ∧ 8 + (maxL + 11) + rm.locals ≤ X.1.2.2.2.locals) (hn : av.length = n) (hst : st0 = av.reverse ++ .ref (E.1 i) :: st) (hcat : (st.map fun v => v.category).sum ≤ 8) (hd : decode cc pc = .ok (.invokevirtual index, 3)) (hcs : nc + kc ≤ X.1.2.2.2.cells ∧ ns + ks ≤ X.1.2.2.2.slots) (kk : ∀ (r : Int) (I' : cI) (R' : cR), inR r → cM I' R' → Q r I' R' → cW X (nc + kc) (ns + ks) (pc + 3) lv (iV r :: st) (gw E.1 cIds (cef E (I', R')) ++ [])) : cW X nc ns pc lv st0 (gw E.1 cIds (cef E (I, R)) ++ []) :=
  q_cVn F hM hi he hc hg hw hrc hy hR hn hst hcat hd hcs (fun _ _ h => by obtain ⟨k, hk, hc, hm, hz⟩ := h; exact hz) (fun v u hp => by obtain ⟨r, rfl, hr, hm, hq⟩ := hp; exact kk r u.1 u.2 hr hm hq)
theorem q_Vvx (F : mF X E own cc Ts) {ret : Option FieldType} {post : Option Value → cI × cR → Prop} {Qx : Nat → cI → cR → Prop} (K : kXx X E cIds ret (cef E) post (pX Qx) mc ms) {Q : cI → cR → Prop} {y : MethodName} {bytes : ByteArray} {maxL n index i ci N kc ks : Nat} {rt : Option FieldType} {wsY wsY' : List Cond} {rm : Room} {av st0 : List Value} {fs : List Value} {C : String} {TT : u_T} (h1 : nc + kc ≤ mc) (h2 : ns + ks ≤ ms) (hM : gMx X.1.2.1 X.2.2.2.2 E cIds y wsY rm (.ref (E.1 i) :: av) (cef E (I, R)) (cef E) (pV Q) (pX Qx) kc ks) (hi : i ∈ cIds) (he : cef E (I, R) i = .inr (ci, fs)) (hc : vwCl[ci]? = some (C, TT, N)) (hg : GoodIn Ts (wsV own index C y wsY)) (hw : wsY = Cond.code y bytes maxL rt :: wsY') (hrc : rm.cells = kc ∧ rm.slots = ks) (hy : y.cls = C ∧ y.cls ≠ "java/lang/invoke/MethodHandle" ∧ y.cls ≠ "java/lang/invoke/VarHandle" ∧ (parseMethodDescriptor y.desc).map (fun d => d.parameters.length) = some n) (hR : rm.frames + 1 ≤ X.1.2.2.2.frames ∧ 8 + (maxL + 11) + rm.locals ≤ X.1.2.2.2.locals) (hn : av.length = n) (hst : st0 = av.reverse ++ .ref (E.1 i) :: st) (hcat : (st.map fun v => v.category).sum ≤ 8) (hd : decode cc pc = .ok (.invokevirtual index, 3)) (hcs : nc + kc ≤ X.1.2.2.2.cells ∧ ns + ks ≤ X.1.2.2.2.slots) (kk : ∀ (I' : cI) (R' : cR), cM I' R' → Q I' R' → cW X (nc + kc) (ns + ks) (pc + 3) lv st (gw E.1 cIds (cef E (I', R')) ++ [])) : cW X nc ns pc lv st0 (gw E.1 cIds (cef E (I, R)) ++ []) :=
  q_cVx F K hM hi he hc hg hw hrc hy hR hn hst hcat hd hcs ⟨h1, h2⟩ (fun _ _ h => h) (fun v u hp => by obtain ⟨rfl, hm, hq⟩ := hp; exact kk u.1 u.2 hm hq)
theorem q_Vvn (F : mF X E own cc Ts) {Q : cI → cR → Prop} {y : MethodName} {bytes : ByteArray} {maxL n index i ci N kc ks : Nat} {rt : Option FieldType} {wsY wsY' : List Cond} {rm : Room} {av st0 : List Value} {fs : List Value} {C : String} {TT : u_T} (hM : gMx X.1.2.1 X.2.2.2.2 E cIds y wsY rm (.ref (E.1 i) :: av) (cef E (I, R)) (cef E) (pV Q) (pX (fun _ _ _ => False)) kc ks) (hi : i ∈ cIds) (he : cef E (I, R) i = .inr (ci, fs)) (hc : vwCl[ci]? = some (C, TT, N)) (hg : GoodIn Ts (wsV own index C y wsY)) (hw : wsY = Cond.code y bytes maxL rt :: wsY') (hrc : rm.cells = kc ∧ rm.slots = ks) (hy : y.cls = C ∧ y.cls ≠ "java/lang/invoke/MethodHandle" ∧ y.cls ≠ "java/lang/invoke/VarHandle" ∧ (parseMethodDescriptor y.desc).map (fun d => d.parameters.length) = some n) (hR : rm.frames + 1 ≤ X.1.2.2.2.frames ∧ 8 + (maxL + 11) + rm.locals ≤ X.1.2.2.2.locals) (hn : av.length = n) (hst : st0 = av.reverse ++ .ref (E.1 i) :: st) (hcat : (st.map fun v => v.category).sum ≤ 8) (hd : decode cc pc = .ok (.invokevirtual index, 3)) (hcs : nc + kc ≤ X.1.2.2.2.cells ∧ ns + ks ≤ X.1.2.2.2.slots) (kk : ∀ (I' : cI) (R' : cR), cM I' R' → Q I' R' → cW X (nc + kc) (ns + ks) (pc + 3) lv st (gw E.1 cIds (cef E (I', R')) ++ [])) : cW X nc ns pc lv st0 (gw E.1 cIds (cef E (I, R)) ++ []) :=
  q_cVn F hM hi he hc hg hw hrc hy hR hn hst hcat hd hcs (fun _ _ h => by obtain ⟨k, hk, hc, hm, hz⟩ := h; exact hz) (fun v u hp => by obtain ⟨rfl, hm, hq⟩ := hp; exact kk u.1 u.2 hm hq)
end CR
