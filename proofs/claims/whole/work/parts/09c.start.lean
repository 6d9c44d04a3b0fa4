/-! ===== from the entry to the end ===== -/
theorem start_sC {s : State} {args : Array Value} (hts : ∀ w ∈ lw_tbl, w.before args s = true) : sC s :=
  ⟨va_Nw.of rfl (hts _ wd37), va_Nw.of rfl (hts _ wd48), va_Nw.of rfl (hts _ wd54), va_Nw.of rfl (hts _ wd71), va_Nw.of rfl (hts _ wd81), va_Nw.of rfl (hts _ wd102), va_Nw.of rfl (hts _ wd123), va_Nw.of rfl (hts _ wd138), va_AO.of (hts _ wd136), hts _ wd86⟩
theorem start_Nc {s : State} {args : Array Value} (h : (Jvm.Cond.and given_1 narrow_1).before args s = true) : va_Nc "java/lang/IllegalArgumentException" "java/lang/IndexOutOfBoundsException" s ∧ va_Nc "java/lang/IllegalStateException" "java/lang/IllegalArgumentException" s := by
  have hs := flat_of_before _ h
  exact ⟨va_Nc.of (hs _ (by decide +kernel)), va_Nc.of (hs _ (by decide +kernel))⟩
theorem start_q : (Cond.eq (.static "java/lang/String" "COMPACT_STRINGS" "Z") (.int 1)) ∈ flatC (Jvm.Cond.and given_1 narrow_1) ∧ (Cond.isRef (.static Bundle.tN "UNASSIGNED_STACK" Bundle.steD)) ∈ flatC (Jvm.Cond.and given_1 narrow_1) ∧ (Cond.isRef (.static Bundle.tN "SUPPRESSED_SENTINEL" Bundle.listD)) ∈ flatC (Jvm.Cond.and given_1 narrow_1) ∧ (Cond.isRef (.static "jdk/internal/util/Preconditions" "SIOOBE_FORMATTER" "Ljava/util/function/BiFunction;")) ∈ flatC (Jvm.Cond.and given_1 narrow_1) := by decide +kernel
theorem start_E {s : State} {b : Nat} (hts : ∀ w ∈ lw_tbl, w.before #[Value.ref b] s = true) (h : (Jvm.Cond.and given_1 narrow_1).before #[Value.ref b] s = true) : ∃ (D : va_G) (E0 : cE), va_K D vwCl (cty E0) s ∧ sS E0 (fun q : Nat => s.heap.size ≤ q) s s.heap := by
  have hA : ∀ a : Nat, a < s.heap.size → ¬ (fun q : Nat => s.heap.size ≤ q) a := fun a h => Nat.not_le.mpr h
  have hs := flat_of_before _ h
  have hb : ∀ w ∈ bG, w.before #[Value.ref b] s = true := fun w h => hts w (List.mem_filter.mp h).1
  obtain ⟨D, T, hK⟩ := start_K hts
  obtain ⟨adK, adV, hS, haK⟩ := start_S h hA
  obtain ⟨ad, had, hO, eo, en, ea, ex, hinj⟩ := start_N h hA
  obtain ⟨⟨z0, z9⟩, t0, t1, t2, t3, ⟨a0, b0⟩, ⟨a1, b1⟩, ⟨a2, b2⟩, ⟨a3, b3⟩⟩ := start_T hts h hA had haK
  obtain ⟨hw, ⟨r1, r2, r3, r4, r5⟩, am, hm⟩ := start_W hts h hA had haK
  have cs := va_Zof (hts _ wd259) (hb _ wd19) (va_eqt (hs _ start_q.1)) hA
  have q1 := vx_Zqof (hts _ wd554) (hb _ wd14) (hs _ start_q.2.1) hA
  have q2 := vx_Zqof (hts _ wd556) (hb _ wd14) (hs _ start_q.2.2.1) hA
  have q3 := va_Zqof (hts _ wd275) (hb _ wd21) (hs _ start_q.2.2.2) hA
  exact ⟨D, (fun _ => 0, fun g j => if g = 0 then ad j else if g = 1 then adK j else if g = 2 then adV j else if g = 3 then am j else [t0, t1, t2, t3].getD j 0, T), hK, hinj, ⟨hO, eo, en, hw, ea, ex, z0, z9, a0, b0, a1, b1, a2, b2, a3, b3, cs, hS, q1, q2, q3⟩, ⟨hm, r1, r2, r3, r4, r5, va_Nw.of rfl (hts _ wd245), va_Nw.of rfl (hts _ wd318), va_Nw.of rfl (hts _ wd615), va_Nw.of rfl (hts _ wd636), va_Nw.of rfl (hts _ wd540), va_Nw.of rfl (hts _ wd542), va_Nw.of rfl (hts _ wd544), va_Nw.of rfl (hts _ wd546)⟩⟩
set_option maxHeartbeats 4000000 in
theorem whole_start {p : Program} {e : Env} {s : State} {m : MethodId} {below : List Frame} {meth : Method} {c : Code} (l : Launch) (hflags : l.flags = flags0) {b L : Nat} {xs : Nat → Int32} (hL : L ≤ 3072) (C0 : lw_At p s m meth c b L xs) : W p l e room_1 s m #[Value.ref b] below meth c s.heap [] 0 0 (lw_Z below #[Value.ref b] s) (entryFrame m ([Value.ref b] : List Value).toArray 9) := by
  obtain ⟨hx, hb, hr, hml, hown, hts0, hX, hbl, hlocks, hgv⟩ := id C0
  have hd0 := Drawn.sameBut.refl s.drawn lw_cs
  have hfl : l.stackTraces = false := by unfold Launch.stackTraces; rw [hflags]; decide
  obtain ⟨D, E0, hK, hS⟩ := start_E hts0 hgv
  have hC := start_sC hts0
  have hN := start_Nc hgv
  refine W.base ?_
  have hl := lv_entry ([.ref b]) (n := 9) (Nat.le_of_ble_eq_true rfl)
  rw [lg_entry_eq]
  generalize (lg_sl ([.ref b]) ++ List.replicate (9 - (lg_sl ([.ref b])).length) Slot.unset).toArray = ls at hl ⊢
  have hl : lv_has ls 9 [(0, .ref b)] := hl
  have al : s.vm.Alike (s.setDrawn s.drawn).vm := Vm.Alike.refl _
  have F : mF ((p, l, e, room_1), (s.setDrawn s.drawn, m, #[Value.ref b], below), (meth, c, lw_Z below #[Value.ref b] s, 9), ((fun q : Nat => s.heap.size ≤ q), D)) E0 RL code bG :=
    ⟨hx, hb, hml, hown, fun w h => dr_words hts0 s.drawn w (List.mem_filter.mp h).1, va_K.moved al hK, fun q h => h, hlocks, hS.1, sS1.moved al hS.2.1, sS2.same rfl hS.2.2⟩
  exact l_begin (xs := xs) (L := L) F (hC.same rfl) (hN.1.moved al) (hN.2.moved al) ⟨va_X.moved al hX, hbl, Nat.not_le.mpr hbl, hL⟩ hfl rfl ⟨(show (60 : Nat) ≤ room_1.frames by decide), (show (6000 : Nat) ≤ room_1.locals by decide)⟩ ⟨Nat.le_refl _, Nat.le_refl _⟩ (fun E i w H locs ls hP hD hS hl => lv_iconst (v := 1) hx hb dL_law_1326 (by decide) (va_forget (fun q hq => hS.2.2 q hq) (lw_ret hd0 hx hb hr hlocks dL_law_1327))) s.heap [] ls (fun k q hq => nomatch hq) ⟨fun i j p q hp => (nomatch hp), fun k q hq => (nomatch hq)⟩ va_S.rf hl
