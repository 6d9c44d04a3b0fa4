/-! ===== from the entry to the end ===== -/
theorem start_sC {s : State} {args : Array Value} (hts : ∀ w ∈ lw_tbl, w.before args s = true) : sC s :=
  ⟨va_Nw.of rfl (hts _ wd36), va_Nw.of rfl (hts _ wd47), va_Nw.of rfl (hts _ wd53), va_Nw.of rfl (hts _ wd69), va_Nw.of rfl (hts _ wd79), va_Nw.of rfl (hts _ wd100), va_Nw.of rfl (hts _ wd121), va_Nw.of rfl (hts _ wd136), va_AO.of (hts _ wd134), hts _ wd84⟩
theorem start_q : (Cond.eq (.static "java/lang/String" "COMPACT_STRINGS" "Z") (.int 1)) ∈ flatC (Jvm.Cond.and given_1 narrow_1) ∧ (Cond.isRef (.static Bundle.tN "UNASSIGNED_STACK" Bundle.steD)) ∈ flatC (Jvm.Cond.and given_1 narrow_1) ∧ (Cond.isRef (.static Bundle.tN "SUPPRESSED_SENTINEL" Bundle.listD)) ∈ flatC (Jvm.Cond.and given_1 narrow_1) ∧ (Cond.isRef (.static "jdk/internal/util/Preconditions" "SIOOBE_FORMATTER" "Ljava/util/function/BiFunction;")) ∈ flatC (Jvm.Cond.and given_1 narrow_1) := by decide +kernel
theorem start_E {s : State} {b L : Nat} {xs : Nat → Int32} (hL : L ≤ 260) (hts : ∀ w ∈ lw_tbl, w.before #[Value.ref b] s = true) (h : (Jvm.Cond.and given_1 narrow_1).before #[Value.ref b] s = true) (hX : va_X b L xs s s.heap) (hbl : b < s.heap.size) : ∃ (D : va_G) (E0 : cE), E0.2.1 4 3 = b ∧ scL E0 = L ∧ va_K D vwCl (cty E0) s ∧ sS E0 (fun q : Nat => s.heap.size ≤ q) s s.heap := by
  have hA : ∀ a : Nat, a < s.heap.size → ¬ (fun q : Nat => s.heap.size ≤ q) a := fun a h => Nat.not_le.mpr h
  have hs := flat_of_before _ h
  have hb : ∀ w ∈ bG, w.before #[Value.ref b] s = true := fun w h => hts w (List.mem_filter.mp h).1
  obtain ⟨D, T, hK⟩ := start_K hts
  obtain ⟨adK, adV, hS, haK⟩ := start_S h hA
  obtain ⟨ad, had, hO, eo, en, ea, ex, hinj⟩ := start_N h hA
  obtain ⟨⟨z0, z9⟩, t0, t1, t2, ⟨a0, b0⟩, ⟨a1, b1⟩, ⟨a2, b2⟩⟩ := start_T hts h hA had haK
  obtain ⟨hw, ⟨r1, r2, r3, r4, r5, r6⟩, am, hm⟩ := start_W hts h hA had haK
  have cs := va_Zof (hts _ wd257) (hb _ wd13) (va_eqt (hs _ start_q.1)) hA
  have q1 := vx_Zqof (hts _ wd475) (hb _ wd18) (hs _ start_q.2.1) hA
  have q2 := vx_Zqof (hts _ wd477) (hb _ wd18) (hs _ start_q.2.2.1) hA
  have q3 := va_Zqof (hts _ wd273) (hb _ wd15) (hs _ start_q.2.2.2) hA
  have b3 : va_T .int b L (fun j => iV ((Int32.ofNat ((xs j).toBitVec.toNat)).toInt)) (fun q : Nat => s.heap.size ≤ q) s s.heap := by
    obtain ⟨scr, x1, x2, x3, x4, x5⟩ := hX
    refine ⟨scr, x1, x2, x3, by omega, by rw [x4], fun j hj => ?_, hA b hbl⟩
    rw [x5 j hj]
    have e : Int32.ofNat ((xs j).toBitVec.toNat) = xs j := by
      apply Int32.toBitVec_inj.mp
      rw [Int32.toBitVec_ofNat', BitVec.ofNat_toNat, BitVec.setWidth_eq]
    show some (Value.int (xs j)) = some (Value.int (Int32.ofInt (Int32.ofNat (xs j).toBitVec.toNat).toInt))
    rw [e]
    rw [Int32.ofInt_toInt]
  exact ⟨D, (fun _ => 0, fun g j => if g = 0 then ad j else if g = 1 then adK j else if g = 2 then adV j else if g = 3 then am j else if g = 4 then [t0, t1, t2, b].getD j 0 else if g = 5 then L else (xs j).toBitVec.toNat, T), rfl, rfl, hK, hinj, ⟨hO, eo, en, hw, ea, ex, z0, z9, a0, b0, a1, b1, a2, b2, b3, cs, hS, q1, q2, q3⟩, ⟨hm, r1, r2, r3, r4, r5, r6, va_Nw.of rfl (hts _ wd243), va_Nw.of rfl (hts _ wd316), va_Nw.of rfl (hts _ wd538), va_Nw.of rfl (hts _ wd584), va_Nw.of rfl (hts _ wd461), va_Nw.of rfl (hts _ wd463), va_Nw.of rfl (hts _ wd465), va_Nw.of rfl (hts _ wd467)⟩⟩
set_option maxHeartbeats 4000000 in
theorem whole_start {p : Program} {e : Env} {s : State} {m : MethodId} {below : List Frame} {meth : Method} {c : Code} (l : Launch) (hflags : l.flags = flags0) {b L : Nat} {xs : Nat → Int32} (hL : L ≤ 260) (C0 : lw_At p s m meth c b L xs) : W p l e room_1 s m #[Value.ref b] below meth c s.heap [] 0 0 (lw_Z below #[Value.ref b] s) (entryFrame m ([Value.ref b] : List Value).toArray 18) := by
  obtain ⟨hx, hb, hr, hml, hown, hts0, hX, hbl, hlocks, hgv⟩ := id C0
  have hd0 := Drawn.sameBut.refl s.drawn lw_cs
  have hfl : l.stackTraces = false := by unfold Launch.stackTraces; rw [hflags]; decide
  obtain ⟨D, E0, eb, eL, hK, hS⟩ := start_E hL hts0 hgv hX hbl
  have hC := start_sC hts0
  refine W.base ?_
  have hl := lv_entry ([.ref b]) (n := 18) (Nat.le_of_ble_eq_true rfl)
  rw [lg_entry_eq]
  generalize (lg_sl ([.ref b]) ++ List.replicate (18 - (lg_sl ([.ref b])).length) Slot.unset).toArray = ls at hl ⊢
  have hl : lv_has ls 18 [(0, .ref b)] := hl
  have al : s.vm.Alike (s.setDrawn s.drawn).vm := Vm.Alike.refl _
  obtain ⟨X, eX⟩ : ∃ X : xC, X = ((p, l, e, room_1), (s.setDrawn s.drawn, m, #[Value.ref b], below), (meth, c, lw_Z below #[Value.ref b] s, 18), ((fun q : Nat => s.heap.size ≤ q), D)) := ⟨_, rfl⟩
  have F : mF ((p, l, e, room_1), (s.setDrawn s.drawn, m, #[Value.ref b], below), (meth, c, lw_Z below #[Value.ref b] s, 18), ((fun q : Nat => s.heap.size ≤ q), D)) E0 RL cL_law bG :=
    ⟨hx, hb, hml, hown, fun w h => dr_words hts0 s.drawn w (List.mem_filter.mp h).1, va_K.moved al hK, fun q h => h, hlocks, hS.1, sS1.moved al hS.2.1, sS2.same rfl hS.2.2⟩
  have hC' : sC (s.setDrawn s.drawn) := hC.same rfl
  have fr : (60 : Nat) ≤ room_1.frames ∧ (6000 : Nat) ≤ room_1.locals := ⟨by decide, by decide⟩
  have start : cW ((p, l, e, room_1), (s.setDrawn s.drawn, m, #[Value.ref b], below), (meth, c, lw_Z below #[Value.ref b] s, 18), ((fun q : Nat => s.heap.size ≤ q), D)) 0 0 0 [(0, .ref b)] [] [] := by
    refine n_mill F hC' fr (w := []) (show 0 + 353 ≤ room_1.cells by decide) (show 0 + 11891 ≤ room_1.slots by decide) (Nat.zero_le _) dL_law_0 dL_law_3 dL_law_4 (fun ad => ?_)
    refine q_astore_n (lv' := [(0, .ref b), (1, .ref (ad 0))]) F [1, 0] dL_law_7 rfl (q_n rfl (show ((1 : Nat) : Nat) < 18 by decide)) rfl ?_
    have F' : mF ((p, l, e, room_1), (s.setDrawn s.drawn, m, #[Value.ref b], below), (meth, c, lw_Z below #[Value.ref b] s, 18), ((fun q : Nat => s.heap.size ≤ q), D)) ((ad, E0.2) : cE) RL cL_law bG := F
    have k := kL_law F' hC' (by show scL E0 ≤ 260; omega) (sc := scF E0) (fun _ => rfl) fr ⟨show 600086 ≤ room_1.cells by decide, show 7301442 ≤ room_1.slots by decide⟩ rfl hfl (fun pc lv w dc H locs ls hP hD hS hl => va_forget (fun q hq => hS.2.2 q hq) (lw_ret hd0 hx hb hr hlocks dc)) (law_all (scF E0))
    have k2 : cW ((p, l, e, room_1), (s.setDrawn s.drawn, m, #[Value.ref b], below), (meth, c, lw_Z below #[Value.ref b] s, 18), ((fun q : Nat => s.heap.size ≤ q), D)) 353 11891 8 [(0, .ref (E0.2.1 4 3)), (1, .ref (ad 0))] [] (gw ad cIds (cef (ad, E0.2) (I00, R00)) ++ []) := k
    rw [eb, List.append_nil] at k2
    exact k2
  exact start s.heap [] ls (fun k q hq => nomatch hq) ⟨fun i j p q hp => (nomatch hp), fun k q hq => (nomatch hq)⟩ va_S.rf hl
