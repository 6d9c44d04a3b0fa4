/-! ===== the start: classes, rows' classes ===== -/
theorem arrC {s : State} {args : Array Value} {t : FieldType} (h : (Cond.arrayClass t).before args s = true) : ∃ (c : ClassId) (k : Class) (comp : ClassId), s.vm.findClass ("[" ++ t.toString) = some c ∧ s.vm.classes[c]? = some k ∧ k.kind = .array comp t := by
  simp only [Cond.before, Cond.holds, Cond.value, beq_iff_eq] at h
  cases hc : s.vm.findClass ("[" ++ t.toString) with
  | none => simp [hc] at h
  | some c =>
    simp only [hc, Option.bind_some, Option.map_eq_some_iff] at h
    obtain ⟨k, hk, hb⟩ := h
    cases hkind : k.kind with
    | array comp ty =>
      rw [hkind] at hb
      simp at hb
      exact ⟨c, k, comp, rfl, hk, by rw [hb] at hkind; exact hkind⟩
    | _ => rw [hkind] at hb; simp at hb
theorem start_K {s : State} {b : Nat} (hts : ∀ w ∈ lw_tbl, w.before #[Value.ref b] s = true) : ∃ (D : va_G) (T : ClassId × ClassId × ClassId × ClassId), va_K D vwCl [(T.1, .int), (T.2.1, .object "RiddleMill$Rule"), (T.2.2.1, .array .int), (T.2.2.2, .boolean)] s := by
  have ht : ∀ w ∈ bG, w.before #[Value.ref b] s = true := fun w h => hts w (List.mem_filter.mp h).1
  obtain ⟨c0, i0, k0⟩ := u_known ht ib2 (ht _ wd120)
  obtain ⟨c1, i1, k1⟩ := u_known ht ib3 (ht _ wd68)
  obtain ⟨c2, i2, k2⟩ := u_known ht ib4 (ht _ wd128)
  obtain ⟨c3, i3, k3⟩ := u_known ht ib5 (ht _ wd46)
  obtain ⟨c4, i4, k4⟩ := u_known ht ib6 (ht _ wd99)
  obtain ⟨c5, i5, k5⟩ := u_known ht ib7 (ht _ wd135)
  obtain ⟨c6, i6, k6⟩ := u_known ht ib8 (ht _ wd78)
  obtain ⟨c7, i7, k7⟩ := u_known ht ib9 (ht _ wd35)
  obtain ⟨c8, i8, k8⟩ := u_known ht ib10 (ht _ wd52)
  obtain ⟨c9, i9, k9⟩ := u_known ht ib11 (ht _ wd27)
  obtain ⟨a, ka, ca, a1, a2, a3⟩ := arrC (ht _ wd44)
  obtain ⟨z, kz, cz, z1, z2, z3⟩ := arrC (ht _ wd820)
  obtain ⟨cb, r, kb, b1, b2, b3, b4, b5⟩ := Cond.arrayOver_spec (hts _ wd134)
  obtain ⟨cc, q, kc, d1, d2, d3, d4, d5⟩ := Jvm.Stand.arrayOver_specB (hts _ wd84)
  refine ⟨(fun j => [c0, c1, c2, c3, c4, c5, c6, c7, c8, c9].getD j 0, fun j => [i0, i1, i2, i3, i4, i5, i6, i7, i8, i9].getD j (fun _ => 0)), (a, r, q, z), fun c z hz => ?_, fun k z hz => ?_⟩
  · have hc : c < 10 := (List.getElem?_eq_some_iff.mp hz).1
    have : c = 0 ∨ c = 1 ∨ c = 2 ∨ c = 3 ∨ c = 4 ∨ c = 5 ∨ c = 6 ∨ c = 7 ∨ c = 8 ∨ c = 9 := by omega
    rcases this with rfl | rfl | rfl | rfl | rfl | rfl | rfl | rfl | rfl | rfl <;> cases hz <;> assumption
  · have hk : k < 4 := (List.getElem?_eq_some_iff.mp hz).1
    have : k = 0 ∨ k = 1 ∨ k = 2 ∨ k = 3 := by omega
    rcases this with rfl | rfl | rfl | rfl <;> cases hz
    · exact ⟨fun n z => ⟨(fun k h => by cases h), ka, a2, ca, a3⟩, a1⟩
    · exact ⟨fun n z => ⟨(fun k h => by cases h), kb, b3, cb, b4⟩, kb, cb, b3, b4, b1, b5⟩
    · exact ⟨fun n z => ⟨(fun k h => by cases h), kc, d3, cc, d4⟩, d5⟩
    · exact ⟨fun n z => ⟨(fun k h => by cases h), kz, z2, cz, z3⟩, z1⟩
