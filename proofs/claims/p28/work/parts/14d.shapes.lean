/-! ===== a rule that is not broken holds ===== -/
def u3 (a b c : Int) : Int → Int := fun t => if t = 0 then a else if t = 1 then b else c
def hS0 : hS11 := ((0, 1, 0, 0, 0), (1, 1), (1, 1, 1, 1))
def hol (κ N T : Int) (n : Nat) (a b c : Int) : Int := hrow (h59 (u3 a b c) N n 0 hS0) N T κ
def i4 (x : Int) : Prop := 1 ≤ x ∧ x ≤ 4
theorem fin3 {P : Int → Int → Int → Prop} (h : ∀ a b c : Fin 4, P ((a.val : Int) + 1) ((b.val : Int) + 1) ((c.val : Int) + 1)) {x y z : Int} (hx : i4 x) (hy : i4 y) (hz : i4 z) : P x y z := by
  unfold i4 at hx hy hz
  have := h ⟨(x - 1).toNat, by omega⟩ ⟨(y - 1).toNat, by omega⟩ ⟨(z - 1).toNat, by omega⟩
  rw [show (((x - 1).toNat : Nat) : Int) + 1 = x by omega, show (((y - 1).toNat : Nat) : Int) + 1 = y by omega, show (((z - 1).toNat : Nat) : Int) + 1 = z by omega] at this
  exact this
section SHP
variable {a b c : Int}
theorem u3_b (ha : i4 a) (hb : i4 b) (hc : i4 c) (t : Int) : i4 (u3 a b c t) := by
  unfold u3
  split
  · exact ha
  · split
    · exact hb
    · exact hc
theorem u3_z (ha : i4 a) (hb : i4 b) (hc : i4 c) {n : Int} : ¬ exF (fun i => u3 a b c i = 0) 0 n := fun ⟨i, _, _, h⟩ => by
  have := (u3_b ha hb hc i).1
  omega
theorem u3_c (ha : i4 a) (hb : i4 b) (hc : i4 c) {n : Int} : cF (fun i => u3 a b c i = 0) 0 n = 0 := (cF_0 0).mpr (u3_z ha hb hc)
theorem sF_2 {f : Int → Int} : sF f 0 2 = f 0 + f 1 := by
  rw [sF_s (by decide), sF_s (by decide), sF_e (by decide)]; show f 0 + (f 1 + 0) = _; omega
theorem sF_3 {f : Int → Int} : sF f 0 3 = f 0 + f 1 + f 2 := by
  rw [sF_s (by decide), sF_s (by decide), sF_s (by decide), sF_e (by decide)]; show f 0 + (f 1 + (f 2 + 0)) = _; omega
theorem pF_3 {f : Int → Int} : pF f 0 3 = f 0 * (f 1 * f 2) := by
  rw [pF_s (by decide), pF_s (by decide), pF_s (by decide), pF_e (by decide)]; show f 0 * (f 1 * (f 2 * 1)) = _; rw [Int.mul_one]
theorem sh0 (ha : i4 a) (hb : i4 b) (hc : i4 c) (h : ¬ brk 0 0 0 2 4 (u3 a b c)) : hol 0 0 0 2 a b c = 1 := by
  rcases fin3 (P := fun a b c => a = b ∨ hol 0 0 0 2 a b c = 1) (by decide +kernel) ha hb hc with q | q
  · refine absurd (Or.inl ⟨rfl, 0, 1, by decide, by decide, by decide, ?_, ?_, q⟩) h
    · show a ≠ 0; have := ha.1; omega
    · show b ≠ 0; have := hb.1; omega
  · exact q
theorem sh1a (ha : i4 a) (hb : i4 b) (hc : i4 c) (h : ¬ brk 1 5 0 2 4 (u3 a b c)) : hol 1 5 0 2 a b c = 1 := by
  rcases fin3 (P := fun a b c => a + b ≠ 5 ∨ hol 1 5 0 2 a b c = 1) (by decide +kernel) ha hb hc with q | q
  · refine absurd (Or.inr (Or.inl ⟨rfl, ?_⟩)) h
    rw [u3_c ha hb hc, sF_2]
    show 5 < a + b + 0 ∨ a + b + 4 * 0 < 5
    omega
  · exact q
theorem sh1b (ha : i4 a) (hb : i4 b) (hc : i4 c) (h : ¬ brk 1 6 0 3 4 (u3 a b c)) : hol 1 6 0 3 a b c = 1 := by
  rcases fin3 (P := fun a b c => a + b + c ≠ 6 ∨ hol 1 6 0 3 a b c = 1) (by decide +kernel) ha hb hc with q | q
  · refine absurd (Or.inr (Or.inl ⟨rfl, ?_⟩)) h
    rw [u3_c ha hb hc, sF_3]
    show 6 < a + b + c + 0 ∨ a + b + c + 4 * 0 < 6
    omega
  · exact q
theorem im1 {x : Int} (h : i4 x) : imax 1 x = x := by have := h.1; unfold imax; split <;> omega
theorem sh2 (ha : i4 a) (hb : i4 b) (hc : i4 c) (h : ¬ brk 2 6 0 3 4 (u3 a b c)) : hol 2 6 0 3 a b c = 1 := by
  rcases fin3 (P := fun a b c => a * (b * c) ≠ 6 ∨ hol 2 6 0 3 a b c = 1) (by decide +kernel) ha hb hc with q | q
  · refine absurd (Or.inr (Or.inr (Or.inl ⟨rfl, Or.inr ⟨u3_z ha hb hc, ?_⟩⟩))) h
    rw [pF_3]
    show imax 1 a * (imax 1 b * imax 1 c) ≠ 6
    rw [im1 ha, im1 hb, im1 hc]
    exact q
  · exact q
theorem sh3 {κ : Int} (hk : κ = 3 ∨ κ = 4) (ha : i4 a) (hb : i4 b) (hc : i4 c) (h : ¬ brk κ 0 0 2 4 (u3 a b c)) : hol κ 0 0 2 a b c = 1 := by
  have no : ¬ b - a < 1 := fun q => by
    refine absurd (Or.inr (Or.inr (Or.inr (Or.inl ⟨hk, 0, 1, by decide, by decide, by decide, ?_, ?_, q⟩)))) h
    · show a ≠ 0; have := ha.1; omega
    · show b ≠ 0; have := hb.1; omega
  rcases hk with rfl | rfl
  · rcases fin3 (P := fun a b c => b - a < 1 ∨ hol 3 0 0 2 a b c = 1) (by decide +kernel) ha hb hc with q | q
    · exact absurd q no
    · exact q
  · rcases fin3 (P := fun a b c => b - a < 1 ∨ hol 4 0 0 2 a b c = 1) (by decide +kernel) ha hb hc with q | q
    · exact absurd q no
    · exact q
theorem sh5 (ha : i4 a) (hb : i4 b) (hc : i4 c) (h : ¬ brk 5 2 0 3 4 (u3 a b c)) : hol 5 2 0 3 a b c = 1 := by
  rcases fin3 (P := fun a b c => (1 + (if a < b then 1 + (if b < c then 1 else 0) else (if a < c then 1 else 0)) : Int) ≠ 2 ∨ hol 5 2 0 3 a b c = 1) (by decide +kernel) ha hb hc with q | q
  · refine absurd (Or.inr (Or.inr (Or.inr (Or.inr (Or.inl ⟨rfl, u3_z ha hb hc, ?_⟩))))) h
    have e0 : u3 a b c 0 = a := rfl
    have e1 : u3 a b c 1 = b := rfl
    have e2 : u3 a b c 2 = c := rfl
    rw [vF_t (by decide) (by rw [e0]; have := ha.1; omega), e0]
    show (1 : Int) + vF (u3 a b c) 3 1 a ≠ 2
    by_cases q1 : a < b
    · rw [if_pos q1] at q
      rw [vF_t (by decide) (by rw [e1]; exact q1), e1]
      show (1 : Int) + (1 + vF (u3 a b c) 3 2 b) ≠ 2
      by_cases q2 : b < c
      · rw [vF_t (by decide) (by rw [e2]; exact q2), vF_e (by decide)]; decide
      · rw [if_neg q2] at q; omega
    · rw [if_neg q1] at q
      rw [vF_f (by decide) (by rw [e1]; exact q1)]
      show (1 : Int) + vF (u3 a b c) 3 2 a ≠ 2
      by_cases q2 : a < c
      · rw [if_pos q2] at q; omega
      · rw [vF_f (by decide) (by rw [e2]; exact q2), vF_e (by decide)]; decide
  · exact q
theorem sh6 (ha : i4 a) (hb : i4 b) (hc : i4 c) (h : ¬ brk 6 0 0 1 4 (u3 a b c)) : hol 6 0 0 1 a b c = 1 := by
  rcases fin3 (P := fun a b c => a % 2 = 0 ∨ hol 6 0 0 1 a b c = 1) (by decide +kernel) ha hb hc with q | q
  · refine absurd (Or.inr (Or.inr (Or.inr (Or.inr (Or.inr (Or.inl ⟨rfl, 0, by decide, by decide, ?_, q⟩)))))) h
    show a ≠ 0; have := ha.1; omega
  · exact q
theorem sh7 (ha : i4 a) (hb : i4 b) (hc : i4 c) (h : ¬ brk 7 0 0 1 4 (u3 a b c)) : hol 7 0 0 1 a b c = 1 := by
  rcases fin3 (P := fun a b c => a % 2 = 1 ∨ hol 7 0 0 1 a b c = 1) (by decide +kernel) ha hb hc with q | q
  · refine absurd (Or.inr (Or.inr (Or.inr (Or.inr (Or.inr (Or.inr (Or.inl ⟨rfl, 0, by decide, by decide, ?_, q⟩))))))) h
    show a ≠ 0; have := ha.1; omega
  · exact q
theorem b2_if {p : Prop} [Decidable p] : b2 p = if p then 1 else 0 := by
  by_cases h : p
  · rw [b2_t h, if_pos h]
  · rw [b2_f h, if_neg h]
theorem sh8 (ha : i4 a) (hb : i4 b) (hc : i4 c) (h : ¬ brk 8 2 1 3 4 (u3 a b c)) : hol 8 2 1 3 a b c = 1 := by
  rcases fin3 (P := fun a b c => ((if a = 2 then 1 else 0) + (if b = 2 then 1 else 0) + (if c = 2 then 1 else 0) : Int) ≠ 1 ∨ hol 8 2 1 3 a b c = 1) (by decide +kernel) ha hb hc with q | q
  · refine absurd (Or.inr (Or.inr (Or.inr (Or.inr (Or.inr (Or.inr (Or.inr (Or.inl ⟨rfl, ?_⟩)))))))) h
    have e : cF (fun i => u3 a b c i = 2) 0 3 = (if a = 2 then 1 else 0) + (if b = 2 then 1 else 0) + (if c = 2 then 1 else 0) := by
      unfold cF
      rw [sF_3, b2_if, b2_if, b2_if]
      rfl
    rw [u3_c ha hb hc, e]
    omega
  · exact q
theorem sh9 {N : Int} (hN : N = 2 ∨ N = 3) (ha : i4 a) (hb : i4 b) (hc : i4 c) (h : ¬ brk 9 N 0 1 4 (u3 a b c)) : hol 9 N 0 1 a b c = 1 := by
  have no : a = N := by
    by_cases q : a = N
    · exact q
    · refine absurd (Or.inr (Or.inr (Or.inr (Or.inr (Or.inr (Or.inr (Or.inr (Or.inr (Or.inl ⟨rfl, 0, by decide, by decide, ?_, q⟩))))))))) h
      show a ≠ 0; have := ha.1; omega
  rcases hN with rfl | rfl
  · rcases fin3 (P := fun a b c => a ≠ 2 ∨ hol 9 2 0 1 a b c = 1) (by decide +kernel) ha hb hc with q | q
    · exact absurd no q
    · exact q
  · rcases fin3 (P := fun a b c => a ≠ 3 ∨ hol 9 3 0 1 a b c = 1) (by decide +kernel) ha hb hc with q | q
    · exact absurd no q
    · exact q
theorem sh10 (ha : i4 a) (hb : i4 b) (hc : i4 c) (h : ¬ brk 10 1 0 3 4 (u3 a b c)) : hol 10 1 0 3 a b c = 1 := by
  have na : a ≠ 0 := by have := ha.1; omega
  have nb : b ≠ 0 := by have := hb.1; omega
  have nc : c ≠ 0 := by have := hc.1; omega
  rcases fin3 (P := fun a b c => (iabs (a - b) < 1 ∨ iabs (b - c) < 1) ∨ hol 10 1 0 3 a b c = 1) (by decide +kernel) ha hb hc with (q | q) | q
  · exact absurd (Or.inr (Or.inr (Or.inr (Or.inr (Or.inr (Or.inr (Or.inr (Or.inr (Or.inr (Or.inl ⟨rfl, 0, by decide, by decide, na, nb, q⟩)))))))))) h
  · exact absurd (Or.inr (Or.inr (Or.inr (Or.inr (Or.inr (Or.inr (Or.inr (Or.inr (Or.inr (Or.inl ⟨rfl, 1, by decide, by decide, nb, nc, q⟩)))))))))) h
  · exact q
theorem sh11 (ha : i4 a) (hb : i4 b) (hc : i4 c) (h : ¬ brk 11 0 0 2 4 (u3 a b c)) : hol 11 0 0 2 a b c = 1 := by
  rcases fin3 (P := fun a b c => a ≠ b ∨ hol 11 0 0 2 a b c = 1) (by decide +kernel) ha hb hc with q | q
  · refine absurd (Or.inr (Or.inr (Or.inr (Or.inr (Or.inr (Or.inr (Or.inr (Or.inr (Or.inr (Or.inr ⟨rfl, 0, 1, by decide, by decide, by decide, ?_, ?_, q⟩)))))))))) h
    · show a ≠ 0; have := ha.1; omega
    · show b ≠ 0; have := hb.1; omega
  · exact q
theorem sh_all (ha : i4 a) (hb : i4 b) (hc : i4 c) : ∀ r ∈ ST, ¬ brk r.1 r.2.1 r.2.2.1 r.2.2.2.length 4 (u3 a b c) → hol r.1 r.2.1 r.2.2.1 r.2.2.2.length a b c = 1 :=
  List.forall_mem_cons.mpr ⟨sh0 ha hb hc, List.forall_mem_cons.mpr ⟨sh0 ha hb hc, List.forall_mem_cons.mpr ⟨sh0 ha hb hc, List.forall_mem_cons.mpr ⟨sh0 ha hb hc, List.forall_mem_cons.mpr ⟨sh0 ha hb hc, List.forall_mem_cons.mpr ⟨sh1a ha hb hc, List.forall_mem_cons.mpr ⟨sh1b ha hb hc, List.forall_mem_cons.mpr ⟨sh3 (Or.inl rfl) ha hb hc, List.forall_mem_cons.mpr ⟨sh3 (Or.inr rfl) ha hb hc, List.forall_mem_cons.mpr ⟨sh5 ha hb hc, List.forall_mem_cons.mpr ⟨sh6 ha hb hc, List.forall_mem_cons.mpr ⟨sh7 ha hb hc, List.forall_mem_cons.mpr ⟨sh8 ha hb hc, List.forall_mem_cons.mpr ⟨sh10 ha hb hc, List.forall_mem_cons.mpr ⟨sh11 ha hb hc, List.forall_mem_cons.mpr ⟨sh2 ha hb hc, List.forall_mem_cons.mpr ⟨sh9 (Or.inl rfl) ha hb hc, List.forall_mem_cons.mpr ⟨sh9 (Or.inr rfl) ha hb hc, fun _ h => (List.not_mem_nil h).elim⟩⟩⟩⟩⟩⟩⟩⟩⟩⟩⟩⟩⟩⟩⟩⟩⟩⟩
end SHP
theorem ST_3 : ∀ r ∈ ST, 1 ≤ r.2.2.2.length ∧ r.2.2.2.length ≤ 3 := by decide +kernel
theorem ST_c : ∀ r ∈ ST, ∀ k : Fin 3, 0 ≤ r.2.2.2.getD k.val 0 ∧ r.2.2.2.getD k.val 0 < 4 := by decide +kernel
/-- the law's method holds answers yes at a rule that is not broken -/
theorem p_holds {I : cI} {R : cR} {J : cI} {Q : Int → cI → cR → (Int → Int) → Prop} {i : Int} {f : Int → Int} {r : rdT} (h : INV I R J) (i0 : 0 ≤ i) (i1 : i < J 1000 14) (hr : r ∈ ST) (he : e9 (mr J 1015 i) (sh r)) (hf : ∀ c, 0 ≤ c → c < 4 → i4 (f c)) (hb : ¬ br (sh r) 4 f) (hQ : Q 1 I R f) : wL_holds i f I R Q := by
  have l3 := ST_3 r hr
  have ok := ST_ok r hr
  have cb : ∀ t, 0 ≤ t → t < 3 → 0 ≤ sh r (4 + t) ∧ sh r (4 + t) < 4 := fun t t0 t1 => by
    have := ST_c r hr ⟨t.toNat, by omega⟩
    unfold sh
    rw [if_neg (by omega), if_neg (by omega), if_neg (by omega), if_neg (by omega), show (4 + t - 4).toNat = t.toNat by omega]
    exact this
  have r0 : sh r 0 = r.1 := rfl
  have r1 : sh r 1 = r.2.1 := rfl
  have r2 : sh r 2 = r.2.2.1 := rfl
  have r3 : sh r 3 = r.2.2.2.length := rfl
  have e0 := he 0 (by decide) (by decide) (Or.inl (by decide))
  have e1 := he 1 (by decide) (by decide) (Or.inl (by decide))
  have e2 := he 2 (by decide) (by decide) (Or.inl (by decide))
  have e3 := e9_3 he
  have rul : ∀ a (Q : Int → cI → cR → Prop), 0 ≤ a → a ≤ 9 → Q (rl J i a) I R → wX11_rule i a I R Q (fun _ _ _ => False) := fun a Q a0 a1 q => c_rule h (fun _ _ _ _ => q) (fun q2 => absurd ⟨⟨i0, i1⟩, a0, a1⟩ q2)
  have rl4 : ∀ a, a < 4 → rl J i a = mr J 1015 i a := fun a q => if_pos q
  obtain ⟨u, eu⟩ : ∃ u, u = u3 (f (sh r 4)) (f (sh r 5)) (f (sh r 6)) := ⟨_, rfl⟩
  have c0 := cb 0 (by decide) (by decide)
  have c1 := cb 1 (by decide) (by decide)
  have c2 := cb 2 (by decide) (by decide)
  have b0 := hf _ c0.1 c0.2
  have b1 := hf _ c1.1 c1.2
  have b2' := hf _ c2.1 c2.2
  have ut : ∀ t, 0 ≤ t → t < (r.2.2.2.length : Int) → u t = f (sh r (4 + t)) := fun t t0 t1 => by
    have : t = 0 ∨ t = 1 ∨ t = 2 := by omega
    rw [eu]
    rcases this with rfl | rfl | rfl <;> rfl
  unfold wL_holds
  refine rul 0 _ (by decide) (by decide) (rul 1 _ (by decide) (by decide) (rul 3 _ (by decide) (by decide) ⟨5, ?_⟩))
  rw [rl4 0 (by decide), rl4 1 (by decide), rl4 3 (by decide), e0, e1, e3, r0, r1, r3]
  refine p_59 (u := u) (n := (r.2.2.2.length : Int)) (N := r.2.1) (κ := r.1) (T := r.2.2.1) ⟨ok.1, ok.2.1⟩ (fun t Q t0 t1 q => rul (4 + t) Q (by omega) (by omega) (q _ ?_ ?_ ?_)) (fun Q q => rul 2 Q (by decide) (by decide) ?_) (fun t t0 t1 => ?_) (by omega) r.2.2.2.length 5 0 hS0 (by omega) (Int.le_refl 0) (by omega) ⟨by decide, by decide⟩ ⟨by decide, by decide⟩ ⟨by decide, by decide⟩ ⟨by decide, by decide⟩ (Or.inr rfl) (Or.inr rfl) (Or.inr rfl) (Or.inr rfl) (Or.inr rfl) (Or.inr rfl) ?_
  · have e := he (4 + t) (by omega) (by omega) (Or.inr (by rw [e3, r3]; omega))
    have er : rl J i (4 + t) = sh r (4 + t) := by
      unfold rl
      rw [if_neg (by omega), if_pos (by omega), if_pos (by rw [e3, r3]; omega), e]
    rw [er]
    exact (cb t t0 (by omega)).1
  · have e := he (4 + t) (by omega) (by omega) (Or.inr (by rw [e3, r3]; omega))
    have er : rl J i (4 + t) = sh r (4 + t) := by
      unfold rl
      rw [if_neg (by omega), if_pos (by omega), if_pos (by rw [e3, r3]; omega), e]
    rw [er]
    exact (cb t t0 (by omega)).2
  · have e := he (4 + t) (by omega) (by omega) (Or.inr (by rw [e3, r3]; omega))
    have er : rl J i (4 + t) = sh r (4 + t) := by
      unfold rl
      rw [if_neg (by omega), if_pos (by omega), if_pos (by rw [e3, r3]; omega), e]
    rw [er, ut t t0 t1]
  · rw [rl4 2 (by decide), e2, r2]; exact q
  · rw [eu]; exact u3_b b0 b1 b2' t
  · have eh : hrow (h59 u r.2.1 r.2.2.2.length 0 hS0) r.2.1 r.2.2.1 r.1 = 1 := by
      rw [eu]
      refine sh_all b0 b1 b2' r hr (fun q => hb ?_)
      unfold br
      rw [r0, r1, r2, r3]
      refine (brk_cg (fun t t0 t1 => ?_)).mp q
      have z := ut t t0 t1
      rw [eu] at z
      exact z
    rw [eh]
    exact hQ
