/-! ===== the machine seen by numbers: integers for ints, a world as a list of things that have a number each ===== -/
abbrev iV (x : Int) : Value := .int (Int32.ofInt x)
abbrev jV (x : Int) : Value := .long (Int64.ofInt x)
def inR (x : Int) : Prop := -2147483648 ≤ x ∧ x < 2147483648
theorem ti_of {x : Int} (h : inR x) : (Int32.ofInt x).toInt = x := Int32.toInt_ofInt_of_le (by unfold inR at h; omega) (by unfold inR at h; omega)
theorem ti_lt {x y : Int} (hx : inR x) (hy : inR y) : Int32.ofInt x < Int32.ofInt y ↔ x < y := by rw [Int32.lt_iff_toInt_lt, ti_of hx, ti_of hy]
theorem ti_le {x y : Int} (hx : inR x) (hy : inR y) : Int32.ofInt x ≤ Int32.ofInt y ↔ x ≤ y := by rw [Int32.le_iff_toInt_le, ti_of hx, ti_of hy]
theorem ti_eq {x y : Int} (hx : inR x) (hy : inR y) : Int32.ofInt x = Int32.ofInt y ↔ x = y := by rw [← Int32.toInt_inj, ti_of hx, ti_of hy]
theorem ti_0 : inR 0 := by unfold inR; omega
theorem ti_rng (x : Int32) : inR x.toInt := by
  have h1 := x.toInt_lt
  have h2 := x.le_toInt
  unfold inR
  omega
theorem ti_cl {x : Int} (h : inR x) : (Int32.ofInt x).toNatClampNeg = x.toNat := by
  show (Int32.ofInt x).toInt.toNat = x.toNat
  rw [ti_of h]
theorem ti_in {x : Int} {n : Nat} (h0 : 0 ≤ x) (h1 : x < n) (hn : n < 2147483648) : vp_in (Int32.ofInt x) n := by
  have hr : inR x := by unfold inR; omega
  rw [vp_in_iff, ti_of hr]
  exact ⟨h0, h1⟩
theorem ti_cln {x : Int} {n : Nat} (h0 : 0 ≤ x) (h1 : x < n) (hn : n < 2147483648) : (Int32.ofInt x).toNatClampNeg = x.toNat := ti_cl (by unfold inR; omega)
theorem ti_div {x y : Int} (h0 : 0 ≤ x) (h1 : x < 2147483648) (h2 : 0 < y) (h3 : y < 2147483648) : Int32.ofInt x / Int32.ofInt y = Int32.ofInt (x / y) := by
  have e1 : (Int32.minValue.toInt : Int) = -2147483648 := by decide
  have e2 : (Int32.maxValue.toInt : Int) = 2147483647 := by decide
  have h := Int32.ofInt_tdiv (a := x) (b := y) (by omega) (by omega) (by omega) (by omega)
  rw [← h, Int.tdiv_eq_ediv_of_nonneg h0]
theorem ti_rem {x y : Int} (h0 : 0 ≤ x) (h1 : x < 2147483648) (h2 : 0 < y) (h3 : y < 2147483648) : Int32.ofInt x - Int32.ofInt x / Int32.ofInt y * Int32.ofInt y = Int32.ofInt (x % y) := by
  rw [ti_div h0 h1 h2 h3, ← Int32.ofInt_mul, ← Int32.ofInt_sub, Int.emod_def]
  congr 1
  rw [Int.mul_comm]
theorem ti_ne0 {y : Int} (h2 : 0 < y) (h3 : y < 2147483648) : ¬ Int32.ofInt y = 0 := by
  intro h
  have h' : Int32.ofInt y = Int32.ofInt 0 := h
  rw [ti_eq (by unfold inR; omega) ti_0] at h'
  omega
/-- what is done to bits, on integers -/
def iAnd (x y : Int) : Int := (Int32.ofInt x &&& Int32.ofInt y).toInt
def iOr (x y : Int) : Int := (Int32.ofInt x ||| Int32.ofInt y).toInt
def iXor (x y : Int) : Int := (Int32.ofInt x ^^^ Int32.ofInt y).toInt
def iShl (x y : Int) : Int := (Int32.ofInt x <<< (Int32.ofInt y &&& 31)).toInt
def iShr (x y : Int) : Int := (Int32.ofInt x >>> (Int32.ofInt y &&& 31)).toInt
abbrev xC : Type := (Program × Launch × Env × Room) × (State × MethodId × Array Value × List Frame) × (Method × Code × (State → Prop) × Nat) × ((Nat → Prop) × va_G)
/-- addresses: of the numbered things; of the constants (0 Kind's, 1 texts, 2 their bytes, 3 messages, 4 tables); the classes of int[], Rule[], int[][] -/
abbrev cE : Type := (Nat → Nat) × (Nat → Nat → Nat) × (ClassId × ClassId × ClassId × ClassId)
abbrev yI (E : cE) : ClassId := E.2.2.1
abbrev yR (E : cE) : ClassId := E.2.2.2.1
abbrev yA (E : cE) : ClassId := E.2.2.2.2.1
abbrev yB (E : cE) : ClassId := E.2.2.2.2.2
def cty (E : cE) : List (ClassId × FieldType) := [(yI E, .int), (yR E, .object "RiddleMill$Rule"), (yA E, .array .int), (yB E, .boolean)]
/-- the machine goes on from here: any heap that holds the world, any frame with these locals -/
def cW (X : xC) (nc ns pc : Nat) (lv : List (Nat × Value)) (st : List Value) (ws : va_W) : Prop :=
  ∀ (H : Heap) (locs : List Loc) (ls : Array Slot), va_P X.2.2.2.2 vwCl ws H → va_D X.2.2.2.1 ws → va_S X.2.2.2.1 X.2.1.1.heap H locs → lv_has ls X.2.2.1.2.2.2 lv →
    W X.1.1 X.1.2.1 X.1.2.2.1 X.1.2.2.2 X.2.1.1 X.2.1.2.1 X.2.1.2.2.1 X.2.1.2.2.2 X.2.2.1.1 X.2.2.1.2.1 H locs nc ns X.2.2.1.2.2.1 (F0 X.2.1.2.1 pc ls st)
/-! ===== what nobody writes: constants, tables, texts ===== -/
def kAh : List Int := [0, 1, 1, 0, 0, 1, 0, 0, 2, 0, 1, 0]
def kEx : List Int := [0, 0, 0, 2, 0, 0, 0, 0, 0, 1, 0, 0]
def swM : List Int := [1, 2, 3, 4, 5, 6, 7, 8, 9, 10, 11, 0]
def nuM : List Int := [0, 1, 1, 0, 0, 1, 0, 0, 2, 0, 1, 0, 0, 0]
def txB : List (List Int32) := [[100, 105, 102, 102, 101, 114], [115, 117, 109], [112, 114, 111, 100, 117, 99, 116], [108, 101, 115, 115], [117, 112], [115, 101, 101], [111, 100, 100], [101, 118, 101, 110], [99, 111, 117, 110, 116], [105, 115], [97, 112, 97, 114, 116], [115, 97, 109, 101], [114, 111, 119, 115], [99, 111, 108, 117, 109, 110, 115], [103, 114, 105, 100], [114, 111, 119, 115], [99, 111, 108, 117, 109, 110, 115], [100, 105, 102, 102, 101, 114, 32, 97, 49, 32, 98, 50], [115, 117, 109, 32, 53, 32, 97, 49, 32, 98, 49], [115, 117, 109, 32, 54, 32, 97, 50, 32, 98, 50, 32, 97, 49], [108, 101, 115, 115, 32, 97, 50, 32, 98, 49], [117, 112, 32, 97, 49, 32, 98, 49], [115, 101, 101, 32, 50, 32, 97, 49, 32, 98, 49, 32, 97, 50], [111, 100, 100, 32, 97, 49], [101, 118, 101, 110, 32, 98, 50], [99, 111, 117, 110, 116, 32, 50, 32, 49, 32, 97, 49, 32, 98, 50, 32, 98, 49], [97, 112, 97, 114, 116, 32, 49, 32, 97, 49, 32, 98, 49, 32, 98, 50], [115, 97, 109, 101, 32, 97, 49, 32, 98, 50], [112, 114, 111, 100, 117, 99, 116, 32, 54, 32, 97, 49, 32, 98, 49, 32, 97, 50], [105, 115, 32, 97, 50, 32, 50], [105, 115, 32, 98, 49, 32, 51], [103, 114, 105, 100, 32, 50, 32, 50, 32, 52, 59, 32], [59]]
def txL : List Nat := [6, 3, 7, 4, 2, 3, 3, 4, 5, 2, 5, 4, 4, 7, 4, 4, 7, 12, 11, 14, 10, 8, 14, 6, 7, 18, 16, 10, 18, 7, 7, 12, 1]
/-- the script: its length, its numbers -/
def scL (E : cE) : Nat := E.2.1 5 0
def scE (E : cE) (j : Nat) : Int := (Int32.ofNat (E.2.1 6 j)).toInt
def msG : List (Nat × String) := [(70, "the tape would be too long"), (81, "the tape is shorter"), (128, "there is no such count"), (168, "nothing such is told of a rule"), (180, "there is no such place on the paper"), (188, "there is no such value"), (193, "1 to 30 solutions can be looked for"), (199, "there is no such solution"), (219, "nothing such is told of a deduction"), (253, "nothing such is told of reasoning"), (256, "a seed is 0 to 65535"), (266, "there is no such change"), (293, "there is no puzzle"), (295, "there is no such rule"), (297, "there is no such cell")]
/-- texts that lie there, each by itself: two of them may be one -/
def wk_S (N : Nat) (len : List Nat) (byt : List (List Int32)) (adK adV : Nat → Nat) (A : Nat → Prop) (U : State) (H : Heap) : Prop :=
  ∀ i : Nat, i < N → vk_S 1 [len.getD i 0] [byt.getD i []] (fun _ => adK i) (fun _ => adV i) A U H
theorem wk_S.moved {N : Nat} {len : List Nat} {byt : List (List Int32)} {adK adV : Nat → Nat} {A : Nat → Prop} {u U : State} {H : Heap} (v : u.vm.Alike U.vm) (h : wk_S N len byt adK adV A u H) : wk_S N len byt adK adV A U H := fun i hi => vk_S.moved v (h i hi)
theorem wk_S.kept {N : Nat} {len : List Nat} {byt : List (List Int32)} {adK adV : Nat → Nat} {A : Nat → Prop} {U : State} {H H1 : Heap} (h : wk_S N len byt adK adV A U H) (q : ∀ a : Nat, a < H.size → ¬ A a → H1[a]? = H[a]?) : wk_S N len byt adK adV A U H1 := fun i hi => (h i hi).kept q
theorem wk_S.narrow {N : Nat} {len : List Nat} {byt : List (List Int32)} {adK adV : Nat → Nat} {A B : Nat → Prop} {U : State} {H : Heap} (h : wk_S N len byt adK adV A U H) (q : ∀ a, B a → A a) : wk_S N len byt adK adV B U H := fun i hi => (h i hi).narrow q
theorem wk_recv {N : Nat} {len : List Nat} {byt : List (List Int32)} {adK adV : Nat → Nat} {i : Nat} {A : Nat → Prop} {s : State} {H : Heap} {locs : List Loc} (hE : wk_S N len byt adK adV A s s.heap) (hi : i < N) (hS : va_S A s.heap H locs) : ∃ cell : Cell, H[adK i]? = some cell ∧ cell.vm.isStatics = false ∧ s.vm.findClass "java/lang/String" = some cell.cls := vk_recv (hE i hi) (i := 0) (by decide) hS
/-- what stands in the heap from the start -/
def sS1 (E : cE) (A : Nat → Prop) (U : State) (H : Heap) : Prop :=
  (∀ j : Nat, j < 12 → va_O RX1 (E.2.1 0 j) A U H) ∧
  va_Ef 12 "java/lang/Enum" "ordinal" "I" (fun j => iV (j : Int)) (E.2.1 0) A U H ∧
  va_Ef 12 RX1 "number" "I" (fun j => iV (j : Int)) (E.2.1 0) A U H ∧
  va_Ef 12 RX1 "word" "Ljava/lang/String;" (fun j => .ref (E.2.1 1 j)) (E.2.1 0) A U H ∧
  va_Ef 12 RX1 "numbersAhead" "I" (fun j => iV (kAh.getD j 0)) (E.2.1 0) A U H ∧
  va_Ef 12 RX1 "exactCells" "I" (fun j => iV (kEx.getD j 0)) (E.2.1 0) A U H ∧
  va_Z RX1 "DIFFER" "LRiddleMill$Kind;" (.ref (E.2.1 0 0)) A U H ∧
  va_Z RX1 "IS" "LRiddleMill$Kind;" (.ref (E.2.1 0 9)) A U H ∧
  va_Z RX1 "ALL" "[LRiddleMill$Kind;" (.ref (E.2.1 4 0)) A U H ∧
  va_T (.object RX1) (E.2.1 4 0) 12 (fun j => .ref (E.2.1 0 j)) A U H ∧
  va_Z RX0 "$SwitchMap$RiddleMill$Kind" "[I" (.ref (E.2.1 4 1)) A U H ∧
  va_T .int (E.2.1 4 1) 12 (fun j => iV (swM.getD j 0)) A U H ∧
  va_Z RL "RULES" "[Ljava/lang/String;" (.ref (E.2.1 4 2)) A U H ∧
  va_T (.object "java/lang/String") (E.2.1 4 2) 16 (fun j => .ref (E.2.1 1 (15 + j))) A U H ∧
  va_T .int (E.2.1 4 3) (scL E) (fun j => iV (scE E j)) A U H ∧
  va_Z "java/lang/String" "COMPACT_STRINGS" "Z" (.int 1) A U H ∧
  wk_S 33 txL txB (E.2.1 1) (E.2.1 2) A U H ∧
  vx_Zq Bundle.tN "UNASSIGNED_STACK" Bundle.steD A U H ∧
  vx_Zq Bundle.tN "SUPPRESSED_SENTINEL" Bundle.listD A U H ∧
  va_Zq "jdk/internal/util/Preconditions" "SIOOBE_FORMATTER" "Ljava/util/function/BiFunction;" A U H
/-- what the constant pools have resolved -/
def sS2 (E : cE) (U : State) : Prop :=
  (∀ j : Nat, j < 15 → vk_R RX11 (msG.getD j (0, "")).1 (msG.getD j (0, "")).2 (E.2.1 3 j) U) ∧
  vk_R RX10 76 "rows" (E.2.1 1 12) U ∧
  vk_R RX10 78 "columns" (E.2.1 1 13) U ∧
  vk_R RX10 80 "grid" (E.2.1 1 14) U ∧
  vk_R RX3 19 "grid" (E.2.1 1 14) U ∧
  vk_R RL 63 "grid 2 2 4; " (E.2.1 1 31) U ∧
  vk_R RL 76 ";" (E.2.1 1 32) U ∧
  va_Nw (.fieldLinkNest RX10 59 "RiddleMill$Kind" "ALL" "[LRiddleMill$Kind;" "RiddleMill") U ∧
  va_Nw (.fieldLinkNest RX5 67 "RiddleMill$Kind" "ALL" "[LRiddleMill$Kind;" "RiddleMill") U ∧
  va_Nw (.castable "java/lang/IllegalStateException" "java/lang/IllegalStateException") U ∧
  va_Nw (.castable "java/lang/IllegalArgumentException" "java/lang/IllegalArgumentException") U ∧
  va_Nw (.castable "java/lang/IndexOutOfBoundsException" "java/lang/IndexOutOfBoundsException") U ∧
  va_Nw (.declares ⟨"java/lang/RuntimeException", "<init>", "(Ljava/lang/String;)V"⟩) U ∧
  va_Nw (.declares ⟨"java/lang/Exception", "<init>", "(Ljava/lang/String;)V"⟩) U ∧
  va_Nw (.declares ⟨"java/lang/Throwable", "<init>", "(Ljava/lang/String;)V"⟩) U
def sS (E : cE) (A : Nat → Prop) (U : State) (H : Heap) : Prop := (∀ i j : Nat, i < 12 → j < 12 → E.2.1 0 i = E.2.1 0 j → i = j) ∧ sS1 E A U H ∧ sS2 E U
theorem sS1.moved {E : cE} {A : Nat → Prop} {u U : State} {H : Heap} (v : u.vm.Alike U.vm) (h : sS1 E A u H) : sS1 E A U H := by
  obtain ⟨h1, h2, h3, h4, h5, h6, h7, h8, h9, h10, h11, h12, h13, h14, h15, h16, h17, h18, h19, h20⟩ := h
  exact ⟨fun j hj => va_O.moved v (h1 j hj), va_Ef.moved v h2, va_Ef.moved v h3, va_Ef.moved v h4, va_Ef.moved v h5, va_Ef.moved v h6, va_Z.moved v h7, va_Z.moved v h8, va_Z.moved v h9, va_T.moved v h10, va_Z.moved v h11, va_T.moved v h12, va_Z.moved v h13, va_T.moved v h14, va_T.moved v h15, va_Z.moved v h16, wk_S.moved v h17, vx_Zq.moved v h18, vx_Zq.moved v h19, va_Zq.moved v h20⟩
theorem sS1.kept {E : cE} {A : Nat → Prop} {U : State} {H H1 : Heap} (h : sS1 E A U H) (q : ∀ a : Nat, a < H.size → ¬ A a → H1[a]? = H[a]?) : sS1 E A U H1 := by
  obtain ⟨h1, h2, h3, h4, h5, h6, h7, h8, h9, h10, h11, h12, h13, h14, h15, h16, h17, h18, h19, h20⟩ := h
  exact ⟨fun j hj => (h1 j hj).kept q, h2.kept q, h3.kept q, h4.kept q, h5.kept q, h6.kept q, h7.kept q, h8.kept q, h9.kept q, h10.kept q, h11.kept q, h12.kept q, h13.kept q, h14.kept q, h15.kept q, h16.kept q, h17.kept q, h18.kept q, h19.kept q, h20.kept q⟩
theorem sS1.narrow {E : cE} {A B : Nat → Prop} {U : State} {H : Heap} (h : sS1 E A U H) (q : ∀ a, B a → A a) : sS1 E B U H := by
  obtain ⟨h1, h2, h3, h4, h5, h6, h7, h8, h9, h10, h11, h12, h13, h14, h15, h16, h17, h18, h19, h20⟩ := h
  exact ⟨fun j hj => (h1 j hj).narrow q, h2.narrow q, h3.narrow q, h4.narrow q, h5.narrow q, h6.narrow q, h7.narrow q, h8.narrow q, h9.narrow q, h10.narrow q, h11.narrow q, h12.narrow q, h13.narrow q, h14.narrow q, h15.narrow q, h16.narrow q, h17.narrow q, h18.narrow q, h19.narrow q, h20.narrow q⟩
theorem sS2.warm {E : cE} {s U : State} (w : s.WarmedH U.vm) (h : sS2 E s) : sS2 E U := by
  obtain ⟨h1, h2, h3, h4, h5, h6, h7, h8, h9, h10, h11, h12, h13, h14, h15⟩ := h
  exact ⟨fun j hj => (h1 j hj).warm w, h2.warm w, h3.warm w, h4.warm w, h5.warm w, h6.warm w, h7.warm w, va_Nw.warmF w h8, va_Nw.warmF w h9, va_Nw.warmC w h10, va_Nw.warmC w h11, va_Nw.warmC w h12, va_Nw.warmD w h13, va_Nw.warmD w h14, va_Nw.warmD w h15⟩
theorem sS2.same {E : cE} {u U : State} (v : U.vm = u.vm) (h : sS2 E u) : sS2 E U := by
  obtain ⟨h1, h2, h3, h4, h5, h6, h7, h8, h9, h10, h11, h12, h13, h14, h15⟩ := h
  exact ⟨fun j hj => (h1 j hj).same v, h2.same v, h3.same v, h4.same v, h5.same v, h6.same v, h7.same v, va_Nw.same rfl v.symm h8, va_Nw.same rfl v.symm h9, va_Nw.same rfl v.symm h10, va_Nw.same rfl v.symm h11, va_Nw.same rfl v.symm h12, va_Nw.same rfl v.symm h13, va_Nw.same rfl v.symm h14, va_Nw.same rfl v.symm h15⟩
/-- seen by a callee: the heap has gone on, the machine is warmer, less is its own -/
theorem sS.go {E : cE} {A B : Nat → Prop} {s U : State} {H : Heap} (h : sS E A s s.heap) (q : ∀ a : Nat, a < s.heap.size → ¬ A a → H[a]? = s.heap[a]?) (n : ∀ a, B a → A a) (w : s.WarmedH U.vm) : sS E B U H := ⟨h.1, ((h.2.1.kept q).narrow n).moved w.alike, h.2.2.warm w⟩
/-- what a method knows of its start -/
def mF (X : xC) (E : cE) (own : String) (cc : ByteArray) (Ts : List Cond) : Prop :=
  X.1.1.tables.exec = Jvm.exec ∧ X.2.2.1.2.1.code = cc ∧ X.2.2.1.2.1.maxLocals = X.2.2.1.2.2.2 ∧ X.2.1.1.vm.findClass own = some X.2.1.2.1.cls ∧
  (∀ w ∈ Ts, w.before X.2.1.2.2.1 X.2.1.1 = true) ∧ va_K X.2.2.2.2 vwCl (cty E) X.2.1.1 ∧ (∀ q, X.2.1.1.heap.size ≤ q → X.2.2.2.1 q) ∧ X.2.2.1.1.locks = false ∧ sS E X.2.2.2.1 X.2.1.1 X.2.1.1.heap
section ROWS
variable {X : xC} {E : cE} {own : String} {cc : ByteArray} {Ts : List Cond} {nc ns pc : Nat} {lv lv' : List (Nat × Value)} {st : List Value} {ws : va_W}
theorem mF.hx (F : mF X E own cc Ts) : X.1.1.tables.exec = Jvm.exec := F.1
theorem mF.hb (F : mF X E own cc Ts) : X.2.2.1.2.1.code = cc := F.2.1
theorem mF.hml (F : mF X E own cc Ts) : X.2.2.1.2.1.maxLocals = X.2.2.1.2.2.2 := F.2.2.1
theorem mF.ho (F : mF X E own cc Ts) : X.2.1.1.vm.findClass own = some X.2.1.2.1.cls := F.2.2.2.1
theorem mF.ht (F : mF X E own cc Ts) : ∀ w ∈ Ts, w.before X.2.1.2.2.1 X.2.1.1 = true := F.2.2.2.2.1
theorem mF.hK (F : mF X E own cc Ts) : va_K X.2.2.2.2 vwCl (cty E) X.2.1.1 := F.2.2.2.2.2.1
theorem mF.hA (F : mF X E own cc Ts) : ∀ q, X.2.1.1.heap.size ≤ q → X.2.2.2.1 q := F.2.2.2.2.2.2.1
theorem mF.hl (F : mF X E own cc Ts) : X.2.2.1.1.locks = false := F.2.2.2.2.2.2.2.1
theorem mF.hS (F : mF X E own cc Ts) : sS E X.2.2.2.1 X.2.1.1 X.2.1.1.heap := F.2.2.2.2.2.2.2.2
/-- other names for the same locals, or fewer of them -/
theorem q_lv (ks : List Nat) (h : lv_pick lv ks = lv') (k : cW X nc ns pc lv' st ws) : cW X nc ns pc lv st ws := fun H locs ls hP hD hS hl => k H locs ls hP hD hS (lv_sub hl ks h)
theorem q_wide {nc' ns' : Nat} (h1 : nc ≤ nc') (h2 : ns ≤ ns') (k : cW X nc' ns' pc lv st ws) : cW X nc ns pc lv st ws := fun H locs ls hP hD hS hl => W.widen h1 h2 (k H locs ls hP hD hS hl)
theorem q_iconst (F : mF X E own cc Ts) {n : Int} (hd : decode cc pc = .ok (.iconst n, 1)) (k : cW X nc ns (pc + 1) lv (iV n :: st) ws) : cW X nc ns pc lv st ws := fun H locs ls hP hD hS hl => lv_iconst F.hx F.hb hd rfl (k H locs ls hP hD hS hl)
theorem q_bipush (F : mF X E own cc Ts) {n : Int} (hd : decode cc pc = .ok (.bipush n, 2)) (hv : (Int8.ofInt n).toInt32 = Int32.ofInt n) (k : cW X nc ns (pc + 2) lv (iV n :: st) ws) : cW X nc ns pc lv st ws := fun H locs ls hP hD hS hl => lv_bipush F.hx F.hb hd hv (k H locs ls hP hD hS hl)
theorem q_sipush (F : mF X E own cc Ts) {n : Int} (hd : decode cc pc = .ok (.sipush n, 3)) (hv : (Int16.ofInt n).toInt32 = Int32.ofInt n) (k : cW X nc ns (pc + 3) lv (iV n :: st) ws) : cW X nc ns pc lv st ws := fun H locs ls hP hD hS hl => lv_sipush F.hx F.hb hd hv (k H locs ls hP hD hS hl)
theorem q_ldc (F : mF X E own cc Ts) {index : Nat} {n : Int} (hc : Cond.constant own index (Int32.ofInt n) ∈ Ts) (hd : decode cc pc = .ok (.ldc index, 2)) (k : cW X nc ns (pc + 2) lv (iV n :: st) ws) : cW X nc ns pc lv st ws := fun H locs ls hP hD hS hl => lv_ldc F.hx F.hb F.ho (F.ht _ hc) hd (k H locs ls hP hD hS hl)
theorem q_ldc2 (F : mF X E own cc Ts) {index : Nat} {n : Int} (hc : Cond.constantLong own index (Int64.ofInt n) ∈ Ts) (hd : decode cc pc = .ok (.ldc2_w index, 3)) (k : cW X nc ns (pc + 3) lv (jV n :: st) ws) : cW X nc ns pc lv st ws := fun H locs ls hP hD hS hl => lv_ldc2 F.hx F.hb F.ho (F.ht _ hc) hd (k H locs ls hP hD hS hl)
theorem q_lconst (F : mF X E own cc Ts) {n : Fin 2} {z : Int} (hd : decode cc pc = .ok (.lconst n, 1)) (hv : Int64.ofNat (n : Nat) = Int64.ofInt z) (k : cW X nc ns (pc + 1) lv (jV z :: st) ws) : cW X nc ns pc lv st ws := fun H locs ls hP hD hS hl => lv_lconst F.hx F.hb hd hv (k H locs ls hP hD hS hl)
theorem q_iload_n (F : mF X E own cc Ts) (j : Nat) {a : Fin 4} {i : Nat} {x : Int} (hd : decode cc pc = .ok (.iload_n a, 1)) (hi : (a : Nat) = i) (hj : lv[j]? = some (i, iV x)) (k : cW X nc ns (pc + 1) lv (iV x :: st) ws) : cW X nc ns pc lv st ws := fun H locs ls hP hD hS hl => lv_iload_n F.hx F.hb hd hi (lv_at hl j hj) (k H locs ls hP hD hS hl)
theorem q_iload (F : mF X E own cc Ts) (j : Nat) {i : Nat} {x : Int} (hd : decode cc pc = .ok (.iload i, 2)) (hj : lv[j]? = some (i, iV x)) (k : cW X nc ns (pc + 2) lv (iV x :: st) ws) : cW X nc ns pc lv st ws := fun H locs ls hP hD hS hl => lv_iload F.hx F.hb hd (lv_at hl j hj) (k H locs ls hP hD hS hl)
theorem q_lload_n (F : mF X E own cc Ts) (j : Nat) {a : Fin 4} {i : Nat} {x : Int} (hd : decode cc pc = .ok (.lload_n a, 1)) (hi : (a : Nat) = i) (hj : lv[j]? = some (i, jV x)) (k : cW X nc ns (pc + 1) lv (jV x :: st) ws) : cW X nc ns pc lv st ws := fun H locs ls hP hD hS hl => lv_lload_n F.hx F.hb hd hi (lv_at hl j hj) (k H locs ls hP hD hS hl)
theorem q_aload_n (F : mF X E own cc Ts) (j : Nat) {a : Fin 4} {i x : Nat} (hd : decode cc pc = .ok (.aload_n a, 1)) (hi : (a : Nat) = i) (hj : lv[j]? = some (i, .ref x)) (k : cW X nc ns (pc + 1) lv (.ref x :: st) ws) : cW X nc ns pc lv st ws := fun H locs ls hP hD hS hl => lv_aload_n F.hx F.hb hd hi (lv_at hl j hj) (k H locs ls hP hD hS hl)
theorem q_aload (F : mF X E own cc Ts) (j : Nat) {i x : Nat} (hd : decode cc pc = .ok (.aload i, 2)) (hj : lv[j]? = some (i, .ref x)) (k : cW X nc ns (pc + 2) lv (.ref x :: st) ws) : cW X nc ns pc lv st ws := fun H locs ls hP hD hS hl => lv_aload F.hx F.hb hd (lv_at hl j hj) (k H locs ls hP hD hS hl)
theorem q_istore_n (F : mF X E own cc Ts) (ks : List Nat) {a : Fin 4} {i : Nat} {x : Int} (hd : decode cc pc = .ok (.istore_n a, 1)) (hi : (a : Nat) = i) (hn : i < X.2.2.1.2.2.2) (h : lv_pick ((i, iV x) :: lv.filter (fun q => !(q.1 == i) && !(q.1 + 1 == i && q.2.category == 2))) ks = lv') (k : cW X nc ns (pc + 1) lv' st ws) : cW X nc ns pc lv (iV x :: st) ws := fun H locs ls hP hD hS hl => lv_istore_n F.hx F.hb hd hi hl hn rfl fun ls' hl' => k H locs ls' hP hD hS (lv_sub hl' ks h)
theorem q_istore (F : mF X E own cc Ts) (ks : List Nat) {i : Nat} {x : Int} (hd : decode cc pc = .ok (.istore i, 2)) (hn : i < X.2.2.1.2.2.2) (h : lv_pick ((i, iV x) :: lv.filter (fun q => !(q.1 == i) && !(q.1 + 1 == i && q.2.category == 2))) ks = lv') (k : cW X nc ns (pc + 2) lv' st ws) : cW X nc ns pc lv (iV x :: st) ws := fun H locs ls hP hD hS hl => lv_istore F.hx F.hb hd hl hn rfl fun ls' hl' => k H locs ls' hP hD hS (lv_sub hl' ks h)
theorem q_lstore_n (F : mF X E own cc Ts) (ks : List Nat) {a : Fin 4} {i : Nat} {x : Int} (hd : decode cc pc = .ok (.lstore_n a, 1)) (hi : (a : Nat) = i) (hn : i + 1 < X.2.2.1.2.2.2) (h : lv_pick ((i, jV x) :: lv.filter (fun q => !(q.1 == i) && (!(q.1 == i + 1) && !(q.1 + 1 == i && q.2.category == 2)))) ks = lv') (k : cW X nc ns (pc + 1) lv' st ws) : cW X nc ns pc lv (jV x :: st) ws := fun H locs ls hP hD hS hl => lv_lstore_n F.hx F.hb hd hi hl hn rfl fun ls' hl' => k H locs ls' hP hD hS (lv_sub hl' ks h)
theorem q_astore_n (F : mF X E own cc Ts) (ks : List Nat) {a : Fin 4} {i x : Nat} (hd : decode cc pc = .ok (.astore_n a, 1)) (hi : (a : Nat) = i) (hn : i < X.2.2.1.2.2.2) (h : lv_pick ((i, .ref x) :: lv.filter (fun q => !(q.1 == i) && !(q.1 + 1 == i && q.2.category == 2))) ks = lv') (k : cW X nc ns (pc + 1) lv' st ws) : cW X nc ns pc lv (.ref x :: st) ws := fun H locs ls hP hD hS hl => lv_astore_n F.hx F.hb hd hi hl hn rfl fun ls' hl' => k H locs ls' hP hD hS (lv_sub hl' ks h)
theorem q_astore (F : mF X E own cc Ts) (ks : List Nat) {i x : Nat} (hd : decode cc pc = .ok (.astore i, 2)) (hn : i < X.2.2.1.2.2.2) (h : lv_pick ((i, .ref x) :: lv.filter (fun q => !(q.1 == i) && !(q.1 + 1 == i && q.2.category == 2))) ks = lv') (k : cW X nc ns (pc + 2) lv' st ws) : cW X nc ns pc lv (.ref x :: st) ws := fun H locs ls hP hD hS hl => lv_astore F.hx F.hb hd hl hn rfl fun ls' hl' => k H locs ls' hP hD hS (lv_sub hl' ks h)
theorem q_iinc (F : mF X E own cc Ts) (j : Nat) (ks : List Nat) {i : Nat} {n x y : Int} (hd : decode cc pc = .ok (.iinc i n, 3)) (hj : lv[j]? = some (i, iV x)) (hn : i < X.2.2.1.2.2.2) (hy : x + n = y) (h : lv_pick ((i, iV y) :: lv.filter (fun q => !(q.1 == i) && !(q.1 + 1 == i && q.2.category == 2))) ks = lv') (k : cW X nc ns (pc + 3) lv' st ws) : cW X nc ns pc lv st ws := fun H locs ls hP hD hS hl => lv_iinc F.hx F.hb hd hl (k := j) hj (by rw [← hy, Int32.ofInt_add]) hn rfl fun ls' hl' => k H locs ls' hP hD hS (lv_sub hl' ks h)
theorem q_iadd (F : mF X E own cc Ts) {x y : Int} (hd : decode cc pc = .ok (.iadd, 1)) (k : cW X nc ns (pc + 1) lv (iV (x + y) :: st) ws) : cW X nc ns pc lv (iV y :: iV x :: st) ws := fun H locs ls hP hD hS hl => lv_iadd F.hx F.hb hd (by rw [← Int32.ofInt_add]; exact k H locs ls hP hD hS hl)
theorem q_isub (F : mF X E own cc Ts) {x y : Int} (hd : decode cc pc = .ok (.isub, 1)) (k : cW X nc ns (pc + 1) lv (iV (x - y) :: st) ws) : cW X nc ns pc lv (iV y :: iV x :: st) ws := fun H locs ls hP hD hS hl => lv_isub F.hx F.hb hd (by rw [← Int32.ofInt_sub]; exact k H locs ls hP hD hS hl)
theorem q_imul (F : mF X E own cc Ts) {x y : Int} (hd : decode cc pc = .ok (.imul, 1)) (k : cW X nc ns (pc + 1) lv (iV (x * y) :: st) ws) : cW X nc ns pc lv (iV y :: iV x :: st) ws := fun H locs ls hP hD hS hl => lv_imul F.hx F.hb hd (by rw [← Int32.ofInt_mul]; exact k H locs ls hP hD hS hl)
theorem q_idiv (F : mF X E own cc Ts) {x y : Int} (h : (0 ≤ x ∧ x < 2147483648) ∧ 0 < y ∧ y < 2147483648) (hd : decode cc pc = .ok (.idiv, 1)) (k : cW X nc ns (pc + 1) lv (iV (x / y) :: st) ws) : cW X nc ns pc lv (iV y :: iV x :: st) ws := fun H locs ls hP hD hS hl => lv_idiv F.hx F.hb hd (ti_ne0 h.2.1 h.2.2) (by rw [ti_div h.1.1 h.1.2 h.2.1 h.2.2]; exact k H locs ls hP hD hS hl)
theorem q_irem (F : mF X E own cc Ts) {x y : Int} (h : (0 ≤ x ∧ x < 2147483648) ∧ 0 < y ∧ y < 2147483648) (hd : decode cc pc = .ok (.irem, 1)) (k : cW X nc ns (pc + 1) lv (iV (x % y) :: st) ws) : cW X nc ns pc lv (iV y :: iV x :: st) ws := fun H locs ls hP hD hS hl => lv_irem F.hx F.hb hd (ti_ne0 h.2.1 h.2.2) (by rw [ti_rem h.1.1 h.1.2 h.2.1 h.2.2]; exact k H locs ls hP hD hS hl)
theorem q_iand (F : mF X E own cc Ts) {x y : Int} (hd : decode cc pc = .ok (.iand, 1)) (k : cW X nc ns (pc + 1) lv (iV (iAnd x y) :: st) ws) : cW X nc ns pc lv (iV y :: iV x :: st) ws := fun H locs ls hP hD hS hl => lv_iand F.hx F.hb hd (by have h := k H locs ls hP hD hS hl; rw [iV, iAnd, Int32.ofInt_toInt] at h; exact h)
theorem q_ior (F : mF X E own cc Ts) {x y : Int} (hd : decode cc pc = .ok (.ior, 1)) (k : cW X nc ns (pc + 1) lv (iV (iOr x y) :: st) ws) : cW X nc ns pc lv (iV y :: iV x :: st) ws := fun H locs ls hP hD hS hl => lv_ior F.hx F.hb hd (by have h := k H locs ls hP hD hS hl; rw [iV, iOr, Int32.ofInt_toInt] at h; exact h)
theorem q_ixor (F : mF X E own cc Ts) {x y : Int} (hd : decode cc pc = .ok (.ixor, 1)) (k : cW X nc ns (pc + 1) lv (iV (iXor x y) :: st) ws) : cW X nc ns pc lv (iV y :: iV x :: st) ws := fun H locs ls hP hD hS hl => lv_ixor F.hx F.hb hd (by have h := k H locs ls hP hD hS hl; rw [iV, iXor, Int32.ofInt_toInt] at h; exact h)
theorem q_ishl (F : mF X E own cc Ts) {x y : Int} (hd : decode cc pc = .ok (.ishl, 1)) (k : cW X nc ns (pc + 1) lv (iV (iShl x y) :: st) ws) : cW X nc ns pc lv (iV y :: iV x :: st) ws := fun H locs ls hP hD hS hl => lv_ishl F.hx F.hb hd (by have h := k H locs ls hP hD hS hl; rw [iV, iShl, Int32.ofInt_toInt] at h; exact h)
theorem q_ishr (F : mF X E own cc Ts) {x y : Int} (hd : decode cc pc = .ok (.ishr, 1)) (k : cW X nc ns (pc + 1) lv (iV (iShr x y) :: st) ws) : cW X nc ns pc lv (iV y :: iV x :: st) ws := fun H locs ls hP hD hS hl => lv_ishr F.hx F.hb hd (by have h := k H locs ls hP hD hS hl; rw [iV, iShr, Int32.ofInt_toInt] at h; exact h)
theorem q_ladd (F : mF X E own cc Ts) {x y : Int} (hd : decode cc pc = .ok (.ladd, 1)) (k : cW X nc ns (pc + 1) lv (jV (x + y) :: st) ws) : cW X nc ns pc lv (jV y :: jV x :: st) ws := fun H locs ls hP hD hS hl => lv_ladd F.hx F.hb hd (by rw [← Int64.ofInt_add]; exact k H locs ls hP hD hS hl)
theorem q_lmul (F : mF X E own cc Ts) {x y : Int} (hd : decode cc pc = .ok (.lmul, 1)) (k : cW X nc ns (pc + 1) lv (jV (x * y) :: st) ws) : cW X nc ns pc lv (jV y :: jV x :: st) ws := fun H locs ls hP hD hS hl => lv_lmul F.hx F.hb hd (by rw [← Int64.ofInt_mul]; exact k H locs ls hP hD hS hl)
theorem ti_l {x : Int} (h : inR x) : (Int32.ofInt x).toInt64 = Int64.ofInt x := by
  have e1 : (Int32.minValue.toInt : Int) = -2147483648 := by decide
  have e2 : (Int32.maxValue.toInt : Int) = 2147483647 := by decide
  unfold inR at h
  exact Int32.toInt64_ofInt (by omega) (by omega)
theorem q_i2l (F : mF X E own cc Ts) {x : Int} (h : inR x) (hd : decode cc pc = .ok (.i2l, 1)) (k : cW X nc ns (pc + 1) lv (jV x :: st) ws) : cW X nc ns pc lv (iV x :: st) ws := fun H locs ls hP hD hS hl => lv_i2l F.hx F.hb hd (ti_l h) (k H locs ls hP hD hS hl)
theorem q_dup (F : mF X E own cc Ts) {v : Value} (hd : decode cc pc = .ok (.dup, 1)) (hc : v.category = 1) (k : cW X nc ns (pc + 1) lv (v :: v :: st) ws) : cW X nc ns pc lv (v :: st) ws := fun H locs ls hP hD hS hl => lv_dup F.hx F.hb hd hc (k H locs ls hP hD hS hl)
theorem q_dup2 (F : mF X E own cc Ts) {v w : Value} (hd : decode cc pc = .ok (.dup2, 1)) (hc : v.category = 1) (hc2 : w.category = 1) (k : cW X nc ns (pc + 1) lv (v :: w :: v :: w :: st) ws) : cW X nc ns pc lv (v :: w :: st) ws := fun H locs ls hP hD hS hl => lv_dup2_11 F.hx F.hb hd hc hc2 (k H locs ls hP hD hS hl)
theorem q_pop (F : mF X E own cc Ts) {v : Value} (hd : decode cc pc = .ok (.pop, 1)) (hc : v.category = 1) (k : cW X nc ns (pc + 1) lv st ws) : cW X nc ns pc lv (v :: st) ws := fun H locs ls hP hD hS hl => lv_pop F.hx F.hb hd hc (k H locs ls hP hD hS hl)
theorem q_goto (F : mF X E own cc Ts) {off : Int} (tgt : Nat) (hd : decode cc pc = .ok (.goto off, 3)) (ht : (pc : Int) + off = (tgt : Int)) (k : cW X nc ns tgt lv st ws) : cW X nc ns pc lv st ws := fun H locs ls hP hD hS hl => lv_goto F.hx F.hb hd ht (k H locs ls hP hD hS hl)
theorem q_if_eq (F : mF X E own cc Ts) {x : Int} (hx : inR x) {off : Int} (tgt : Nat) (hd : decode cc pc = .ok (.ifCond .eq off, 3)) (ht : (pc : Int) + off = (tgt : Int)) (kt : x = 0 → cW X nc ns tgt lv st ws) (kf : ¬ x = 0 → cW X nc ns (pc + 3) lv st ws) : cW X nc ns pc lv (iV x :: st) ws := fun H locs ls hP hD hS hl => lv_if_eq F.hx F.hb hd ht (fun h => kt ((ti_eq hx ti_0).mp h) H locs ls hP hD hS hl) (fun h => kf (fun z => h ((ti_eq hx ti_0).mpr z)) H locs ls hP hD hS hl)
theorem q_if_ne (F : mF X E own cc Ts) {x : Int} (hx : inR x) {off : Int} (tgt : Nat) (hd : decode cc pc = .ok (.ifCond .ne off, 3)) (ht : (pc : Int) + off = (tgt : Int)) (kt : ¬ x = 0 → cW X nc ns tgt lv st ws) (kf : x = 0 → cW X nc ns (pc + 3) lv st ws) : cW X nc ns pc lv (iV x :: st) ws := fun H locs ls hP hD hS hl => lv_if_ne F.hx F.hb hd ht (fun h => kt (fun z => h ((ti_eq hx ti_0).mpr z)) H locs ls hP hD hS hl) (fun h => kf ((ti_eq hx ti_0).mp h) H locs ls hP hD hS hl)
theorem q_if_lt (F : mF X E own cc Ts) {x : Int} (hx : inR x) {off : Int} (tgt : Nat) (hd : decode cc pc = .ok (.ifCond .lt off, 3)) (ht : (pc : Int) + off = (tgt : Int)) (kt : x < 0 → cW X nc ns tgt lv st ws) (kf : ¬ x < 0 → cW X nc ns (pc + 3) lv st ws) : cW X nc ns pc lv (iV x :: st) ws := fun H locs ls hP hD hS hl => lv_if_lt F.hx F.hb hd ht (fun h => kt ((ti_lt hx ti_0).mp h) H locs ls hP hD hS hl) (fun h => kf (fun z => h ((ti_lt hx ti_0).mpr z)) H locs ls hP hD hS hl)
theorem q_if_ge (F : mF X E own cc Ts) {x : Int} (hx : inR x) {off : Int} (tgt : Nat) (hd : decode cc pc = .ok (.ifCond .ge off, 3)) (ht : (pc : Int) + off = (tgt : Int)) (kt : 0 ≤ x → cW X nc ns tgt lv st ws) (kf : ¬ 0 ≤ x → cW X nc ns (pc + 3) lv st ws) : cW X nc ns pc lv (iV x :: st) ws := fun H locs ls hP hD hS hl => lv_if_ge F.hx F.hb hd ht (fun h => kt ((ti_le ti_0 hx).mp h) H locs ls hP hD hS hl) (fun h => kf (fun z => h ((ti_le ti_0 hx).mpr z)) H locs ls hP hD hS hl)
theorem q_if_gt (F : mF X E own cc Ts) {x : Int} (hx : inR x) {off : Int} (tgt : Nat) (hd : decode cc pc = .ok (.ifCond .gt off, 3)) (ht : (pc : Int) + off = (tgt : Int)) (kt : 0 < x → cW X nc ns tgt lv st ws) (kf : ¬ 0 < x → cW X nc ns (pc + 3) lv st ws) : cW X nc ns pc lv (iV x :: st) ws := fun H locs ls hP hD hS hl => lv_if_gt F.hx F.hb hd ht (fun h => kt ((ti_lt ti_0 hx).mp h) H locs ls hP hD hS hl) (fun h => kf (fun z => h ((ti_lt ti_0 hx).mpr z)) H locs ls hP hD hS hl)
theorem q_if_le (F : mF X E own cc Ts) {x : Int} (hx : inR x) {off : Int} (tgt : Nat) (hd : decode cc pc = .ok (.ifCond .le off, 3)) (ht : (pc : Int) + off = (tgt : Int)) (kt : x ≤ 0 → cW X nc ns tgt lv st ws) (kf : ¬ x ≤ 0 → cW X nc ns (pc + 3) lv st ws) : cW X nc ns pc lv (iV x :: st) ws := fun H locs ls hP hD hS hl => lv_if_le F.hx F.hb hd ht (fun h => kt ((ti_le hx ti_0).mp h) H locs ls hP hD hS hl) (fun h => kf (fun z => h ((ti_le hx ti_0).mpr z)) H locs ls hP hD hS hl)
theorem q_icmp_eq (F : mF X E own cc Ts) {x y : Int} (hx : inR x) (hy : inR y) {off : Int} (tgt : Nat) (hd : decode cc pc = .ok (.if_icmp .eq off, 3)) (ht : (pc : Int) + off = (tgt : Int)) (kt : x = y → cW X nc ns tgt lv st ws) (kf : ¬ x = y → cW X nc ns (pc + 3) lv st ws) : cW X nc ns pc lv (iV y :: iV x :: st) ws := fun H locs ls hP hD hS hl => lv_icmp_eq F.hx F.hb hd ht (fun h => kt ((ti_eq hx hy).mp h) H locs ls hP hD hS hl) (fun h => kf (fun z => h ((ti_eq hx hy).mpr z)) H locs ls hP hD hS hl)
theorem q_icmp_ne (F : mF X E own cc Ts) {x y : Int} (hx : inR x) (hy : inR y) {off : Int} (tgt : Nat) (hd : decode cc pc = .ok (.if_icmp .ne off, 3)) (ht : (pc : Int) + off = (tgt : Int)) (kt : ¬ x = y → cW X nc ns tgt lv st ws) (kf : x = y → cW X nc ns (pc + 3) lv st ws) : cW X nc ns pc lv (iV y :: iV x :: st) ws := fun H locs ls hP hD hS hl => lv_icmp_ne F.hx F.hb hd ht (fun h => kt (fun z => h ((ti_eq hx hy).mpr z)) H locs ls hP hD hS hl) (fun h => kf ((ti_eq hx hy).mp h) H locs ls hP hD hS hl)
theorem q_icmp_lt (F : mF X E own cc Ts) {x y : Int} (hx : inR x) (hy : inR y) {off : Int} (tgt : Nat) (hd : decode cc pc = .ok (.if_icmp .lt off, 3)) (ht : (pc : Int) + off = (tgt : Int)) (kt : x < y → cW X nc ns tgt lv st ws) (kf : ¬ x < y → cW X nc ns (pc + 3) lv st ws) : cW X nc ns pc lv (iV y :: iV x :: st) ws := fun H locs ls hP hD hS hl => lv_icmp_lt F.hx F.hb hd ht (fun h => kt ((ti_lt hx hy).mp h) H locs ls hP hD hS hl) (fun h => kf (fun z => h ((ti_lt hx hy).mpr z)) H locs ls hP hD hS hl)
theorem q_icmp_ge (F : mF X E own cc Ts) {x y : Int} (hx : inR x) (hy : inR y) {off : Int} (tgt : Nat) (hd : decode cc pc = .ok (.if_icmp .ge off, 3)) (ht : (pc : Int) + off = (tgt : Int)) (kt : y ≤ x → cW X nc ns tgt lv st ws) (kf : ¬ y ≤ x → cW X nc ns (pc + 3) lv st ws) : cW X nc ns pc lv (iV y :: iV x :: st) ws := fun H locs ls hP hD hS hl => lv_icmp_ge F.hx F.hb hd ht (fun h => kt ((ti_le hy hx).mp h) H locs ls hP hD hS hl) (fun h => kf (fun z => h ((ti_le hy hx).mpr z)) H locs ls hP hD hS hl)
theorem q_icmp_gt (F : mF X E own cc Ts) {x y : Int} (hx : inR x) (hy : inR y) {off : Int} (tgt : Nat) (hd : decode cc pc = .ok (.if_icmp .gt off, 3)) (ht : (pc : Int) + off = (tgt : Int)) (kt : y < x → cW X nc ns tgt lv st ws) (kf : ¬ y < x → cW X nc ns (pc + 3) lv st ws) : cW X nc ns pc lv (iV y :: iV x :: st) ws := fun H locs ls hP hD hS hl => lv_icmp_gt F.hx F.hb hd ht (fun h => kt ((ti_lt hy hx).mp h) H locs ls hP hD hS hl) (fun h => kf (fun z => h ((ti_lt hy hx).mpr z)) H locs ls hP hD hS hl)
theorem q_icmp_le (F : mF X E own cc Ts) {x y : Int} (hx : inR x) (hy : inR y) {off : Int} (tgt : Nat) (hd : decode cc pc = .ok (.if_icmp .le off, 3)) (ht : (pc : Int) + off = (tgt : Int)) (kt : x ≤ y → cW X nc ns tgt lv st ws) (kf : ¬ x ≤ y → cW X nc ns (pc + 3) lv st ws) : cW X nc ns pc lv (iV y :: iV x :: st) ws := fun H locs ls hP hD hS hl => lv_icmp_le F.hx F.hb hd ht (fun h => kt ((ti_le hx hy).mp h) H locs ls hP hD hS hl) (fun h => kf (fun z => h ((ti_le hx hy).mpr z)) H locs ls hP hD hS hl)
/-- a switch on one of its numbers, or on another one -/
theorem q_swIn (F : mF X E own cc Ts) {x : Int} (j : Nat) (hx : inR x) {dflt lo hi off : Int} {offs : Array Int} {len : Nat} (tgt : Nat) (hd : decode cc pc = .ok (.tableswitch dflt lo hi offs, len)) (hj : x = lo + j) (hh : ¬ hi < lo + j) (ho : offs[j]? = some off) (ht : (pc : Int) + off = (tgt : Int)) (k : cW X nc ns tgt lv st ws) : cW X nc ns pc lv (iV x :: st) ws := fun H locs ls hP hD hS hl => lv_tableIn F.hx F.hb hd (by rw [ti_of hx]; omega) (by rw [ti_of hx]; omega) (by rw [ti_of hx, hj, show (lo + (j : Int) - lo).toNat = j by omega]; exact ho) ht (k H locs ls hP hD hS hl)
theorem q_swOut (F : mF X E own cc Ts) {x : Int} (hx : inR x) {dflt lo hi : Int} {offs : Array Int} {len : Nat} (tgt : Nat) (hd : decode cc pc = .ok (.tableswitch dflt lo hi offs, len)) (h : x < lo ∨ hi < x) (ht : (pc : Int) + dflt = (tgt : Int)) (k : cW X nc ns tgt lv st ws) : cW X nc ns pc lv (iV x :: st) ws := fun H locs ls hP hD hS hl => lv_tableOut F.hx F.hb hd (by rw [ti_of hx]; exact h) ht (k H locs ls hP hD hS hl)
end ROWS
