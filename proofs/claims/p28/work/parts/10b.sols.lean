/-! ===== the solutions that a search finds, in their order ===== -/
noncomputable def aL (bad : (Int → Int) → Prop) (val : Int → Int) (c : Int) (rec : (Int → Int) → List (Int → Int)) : Nat → Int → (Int → Int) → List (Int → Int)
  | 0, _, _ => []
  | k + 1, t, v => @ite _ (bad (upF v c (val t))) (Classical.propDecidable _) [] (rec (upF v c (val t))) ++ aL bad val c rec k (t + 1) v
noncomputable def aS (P : sP) : Nat → Int → (Int → Int) → List (Int → Int)
  | 0, _, v => [v]
  | d + 1, c, v => aL (P.2.2.2.2 c) (vls P c) c (aS P d (c + 1)) (chs P c).toNat 0 v
/-- solutions laid behind those that are there -/
def ldS : Int → List (Int → Int) → (Int → Int → Int) → (Int → Int → Int)
  | _, [], s => s
  | f, x :: L, s => ldS (f + 1) L (fun i => if i = f then x else s i)
theorem ldS_app : ∀ (L M : List (Int → Int)) (f : Int) (s : Int → Int → Int), ldS f (L ++ M) s = ldS (f + L.length) M (ldS f L s) := by
  intro L
  induction L with
  | nil => intro M f s; show ldS f M s = ldS (f + ((0 : Nat) : Int)) M s; rw [show f + ((0 : Nat) : Int) = f by omega]
  | cons x L ih =>
    intro M f s
    show ldS (f + 1) (L ++ M) _ = ldS (f + ((L.length + 1 : Nat) : Int)) M (ldS (f + 1) L _)
    rw [ih, show f + 1 + (L.length : Int) = f + ((L.length + 1 : Nat) : Int) by omega]
theorem ldS_at : ∀ (L : List (Int → Int)) (f : Int) (s : Int → Int → Int) (i : Int), ldS f L s i = if f ≤ i ∧ i < f + L.length then L.getD (i - f).toNat (fun _ => 0) else s i := by
  intro L
  induction L with
  | nil => intro f s i; rw [if_neg (fun h => by have := h.2; have e : (([] : List (Int → Int)).length : Int) = 0 := rfl; omega)]; rfl
  | cons x L ih =>
    intro f s i
    show ldS (f + 1) L _ i = _
    rw [ih]
    have e : (((x :: L).length : Nat) : Int) = (L.length : Int) + 1 := by simp
    by_cases h : i = f
    · subst h
      rw [if_neg (by omega), if_pos rfl, if_pos (by omega), show (i - i).toNat = 0 by omega]
      rfl
    · by_cases h1 : f + 1 ≤ i ∧ i < f + 1 + L.length
      · rw [if_pos h1, if_pos (by omega), show (i - f).toNat = (i - (f + 1)).toNat + 1 by omega]
        rfl
      · rw [if_neg h1, if_neg h, if_neg (by omega)]
/-- what a search leaves: P, how many tries more, the values that it began with, the solutions there are, its state before -/
def oD (P : sP) (B : Int) (v : Int → Int) (L : List (Int → Int)) (s : sT) (r : Int × sT) : Prop :=
  (s.2.2.1 + L.length < P.1 → r.1 = 0 ∧ r.2.1 = v ∧ r.2.2.1 ≤ s.2.1 + B ∧ r.2.2.2.1 = s.2.2.1 + L.length ∧ r.2.2.2.2 = ldS s.2.2.1 L s.2.2.2) ∧
  (P.1 ≤ s.2.2.1 + L.length → r.1 = 1 ∧ r.2.2.2.1 = P.1 ∧ r.2.2.2.2 = ldS s.2.2.1 (L.take (P.1 - s.2.2.1).toNat) s.2.2.2)
theorem upF_u {v : Int → Int} {c x y : Int} : upF (upF v c x) c y = upF v c y := by
  funext z
  unfold upF
  by_cases h : z = c
  · rw [if_pos h, if_pos h]
  · rw [if_neg h, if_neg h, if_neg h]
theorem upF_0 {v : Int → Int} {c : Int} (h : v c = 0) : upF v c 0 = v := by
  funext z
  unfold upF
  by_cases q : z = c
  · rw [if_pos q, q, h]
  · rw [if_neg q]
theorem aL_b {bad : (Int → Int) → Prop} {val : Int → Int} {c : Int} {rec : (Int → Int) → List (Int → Int)} {k : Nat} {t : Int} {v : Int → Int} (h : bad (upF v c (val t))) : aL bad val c rec (k + 1) t v = aL bad val c rec k (t + 1) v := by
  show @ite _ _ (Classical.propDecidable _) _ _ ++ _ = _
  rw [if_pos h, List.nil_append]
theorem aL_g {bad : (Int → Int) → Prop} {val : Int → Int} {c : Int} {rec : (Int → Int) → List (Int → Int)} {k : Nat} {t : Int} {v : Int → Int} (h : ¬ bad (upF v c (val t))) : aL bad val c rec (k + 1) t v = rec (upF v c (val t)) ++ aL bad val c rec k (t + 1) v := by
  show @ite _ _ (Classical.propDecidable _) _ _ ++ _ = _
  rw [if_neg h]
theorem dlp_sp {P : sP} {bad : (Int → Int) → Prop} {val : Int → Int} {c B : Int} {rec : sT → Int × sT} {rc : (Int → Int) → List (Int → Int)} (B0 : 0 ≤ B)
    (hr : ∀ (v : Int → Int) (s : sT), s.1 = v → (∀ y, c < y → v y = 0) → s.2.1 + B < 5000 → s.2.2.1 < P.1 → oD P B v (rc v) s (rec s)) :
    ∀ (k : Nat) (t : Int) (s : sT) (v : Int → Int) (x : Int), s.1 = upF v c x → v c = 0 → (∀ y, c < y → v y = 0) → s.2.1 + (k : Int) * (1 + B) < 5000 → s.2.2.1 < P.1 → oD P ((k : Int) * (1 + B)) v (aL bad val c rc k t v) s (dlp bad val c rec k t s) := by
  intro k
  induction k with
  | zero =>
    intro t s v x hs hv hz ht hf
    rw [dlp_0]
    have e : ((([] : List (Int → Int)).length : Nat) : Int) = 0 := rfl
    refine ⟨fun _ => ⟨rfl, by rw [hs, upF_u]; exact upF_0 hv, ?_, ?_, rfl⟩, fun q => ?_⟩
    · show s.2.1 ≤ s.2.1 + _
      rw [show (((0 : Nat) : Int)) = 0 from rfl, Int.zero_mul]
      omega
    · show s.2.2.1 = s.2.2.1 + ((([] : List (Int → Int)).length : Nat) : Int)
      rw [e]; omega
    · have q' : P.1 ≤ s.2.2.1 + ((([] : List (Int → Int)).length : Nat) : Int) := q
      rw [e] at q'
      omega
  | succ k ih =>
    intro t s v x hs hv hz ht hf
    have ek : ((k + 1 : Nat) : Int) * (1 + B) = (k : Int) * (1 + B) + (1 + B) := by rw [show ((k + 1 : Nat) : Int) = (k : Int) + 1 by omega, Int.add_mul, Int.one_mul]
    have k0 : 0 ≤ (k : Int) * (1 + B) := Int.mul_nonneg (by omega) (by omega)
    rw [ek] at ht ⊢
    have n5 : ¬ 5000 ≤ s.2.1 := by omega
    have e1 : upF s.1 c (val t) = upF v c (val t) := by rw [hs, upF_u]
    by_cases hb : bad (upF v c (val t))
    · rw [aL_b hb, dlp_b n5 (by rw [e1]; exact hb)]
      have h2 := ih (t + 1) (upF s.1 c (val t), s.2.1 + 1, s.2.2) v (val t) e1 hv hz (by show s.2.1 + 1 + _ < _; omega) hf
      refine ⟨fun q => ?_, h2.2⟩
      obtain ⟨a1, a2, a3, a4, a5⟩ := h2.1 q
      exact ⟨a1, a2, by have a3' : _ ≤ s.2.1 + 1 + _ := a3; omega, a4, a5⟩
    · rw [aL_g hb]
      have zz : ∀ y, c < y → upF v c (val t) y = 0 := fun y hy => by rw [uFn (by omega)]; exact hz y hy
      have h1 := hr (upF v c (val t)) (upF s.1 c (val t), s.2.1 + 1, s.2.2) e1 zz (by show s.2.1 + 1 + B < _; omega) hf
      have nb : ¬ bad (upF s.1 c (val t)) := by rw [e1]; exact hb
      generalize hL : rc (upF v c (val t)) = L1 at *
      generalize hM : aL bad val c rc k (t + 1) v = L2 at *
      have el : (((L1 ++ L2).length : Nat) : Int) = (L1.length : Int) + (L2.length : Int) := by rw [List.length_append]; omega
      by_cases hd : s.2.2.1 + L1.length < P.1
      · obtain ⟨a1, a2, a3, a4, a5⟩ := h1.1 hd
        have a3' : (rec (upF s.1 c (val t), s.2.1 + 1, s.2.2)).2.2.1 ≤ s.2.1 + 1 + B := a3
        have a4' : (rec (upF s.1 c (val t), s.2.1 + 1, s.2.2)).2.2.2.1 = s.2.2.1 + (L1.length : Int) := a4
        have a5' : (rec (upF s.1 c (val t), s.2.1 + 1, s.2.2)).2.2.2.2 = ldS s.2.2.1 L1 s.2.2.2 := a5
        rw [dlp_c n5 nb a1]
        have h2 := ih (t + 1) (rec (upF s.1 c (val t), s.2.1 + 1, s.2.2)).2 v (val t) a2 hv hz (by omega) (by omega)
        rw [hM] at h2
        refine ⟨fun q => ?_, fun q => ?_⟩
        · obtain ⟨b1, b2, b3, b4, b5⟩ := h2.1 (by omega)
          exact ⟨b1, b2, by omega, by omega, by rw [b5, a4', a5', ldS_app]⟩
        · obtain ⟨b1, b2, b3⟩ := h2.2 (by omega)
          refine ⟨b1, b2, ?_⟩
          have e9 : (P.1 - s.2.2.1).toNat - L1.length = (P.1 - (s.2.2.1 + (L1.length : Int))).toNat := by omega
          rw [b3, a4', a5', List.take_append, List.take_of_length_le (l := L1) (i := (P.1 - s.2.2.1).toNat) (by omega), ldS_app, e9]
      · obtain ⟨a1, a2, a3⟩ := h1.2 (by show P.1 ≤ s.2.2.1 + _; omega)
        rw [dlp_x n5 nb (by rw [a1]; decide)]
        refine ⟨fun q => by omega, fun _ => ⟨a1, a2, ?_⟩⟩
        rw [a3, List.take_append_of_le_length (by omega)]
def tB : Nat → Int
  | 0 => 0
  | d + 1 => 5 * (1 + tB d)
theorem tB_0 : ∀ d, 0 ≤ tB d := by
  intro d
  induction d with
  | zero => exact Int.le_refl 0
  | succ d ih => show 0 ≤ 5 * (1 + tB d); omega
theorem oD_w {P : sP} {B B' : Int} {v : Int → Int} {L : List (Int → Int)} {s : sT} {r : Int × sT} (h : B ≤ B') (o : oD P B v L s r) : oD P B' v L s r :=
  ⟨fun q => by obtain ⟨a1, a2, a3, a4, a5⟩ := o.1 q; exact ⟨a1, a2, by omega, a4, a5⟩, o.2⟩
theorem dfs_sp {P : sP} (hP : goP P) : ∀ (d : Nat) (c : Int) (v : Int → Int) (s : sT), s.1 = v → (∀ y, c ≤ y → v y = 0) → s.2.1 + tB d < 5000 → s.2.2.1 < P.1 → oD P (tB d) v (aS P d c v) s (dfs P d c s) := by
  intro d
  induction d with
  | zero =>
    intro c v s hs hz ht hf
    show oD P 0 v [v] s (kpt P s)
    have e : ((([v] : List (Int → Int)).length : Nat) : Int) = 1 := rfl
    unfold kpt oD
    rw [e]
    refine ⟨fun q => ⟨if_neg (by omega), hs, by show s.2.1 ≤ s.2.1 + 0; omega, rfl, ?_⟩, fun q => ⟨if_pos (by omega), by show s.2.2.1 + 1 = P.1; omega, ?_⟩⟩
    · show (fun i => if i = s.2.2.1 then s.1 else s.2.2.2 i) = ldS (s.2.2.1 + 1) [] _
      rw [hs]; rfl
    · rw [show (P.1 - s.2.2.1).toNat = 1 by omega]
      show (fun i => if i = s.2.2.1 then s.1 else s.2.2.2 i) = ldS (s.2.2.1 + 1) [] _
      rw [hs]; rfl
  | succ d ih =>
    intro c v s hs hz ht hf
    have hb := chs_b hP c
    have h0 := tB_0 d
    have ht' : s.2.1 + 5 * (1 + tB d) < 5000 := ht
    have e : ((chs P c).toNat : Int) = chs P c := Int.toNat_of_nonneg (by omega)
    have m : ((chs P c).toNat : Int) * (1 + tB d) ≤ 5 * (1 + tB d) := by rw [e]; exact Int.mul_le_mul_of_nonneg_right hb.2 (by omega)
    refine oD_w m (dlp_sp (rc := aS P d (c + 1)) h0 (fun v' s' e1 e2 e3 e4 => ih (c + 1) v' s' e1 (fun y hy => e2 y (by omega)) e3 e4) (chs P c).toNat 0 s v 0 ?_ (hz c (Int.le_refl c)) (fun y hy => hz y (by omega)) (by omega) hf)
    rw [hs]
    exact (upF_0 (hz c (Int.le_refl c))).symm
/-- what a search of four cells answers -/
theorem dfs4 {P : sP} (hP : goP P) {L : List (Int → Int)} (hL : aS P 4 0 (fun _ => 0) = L) {K : Int} (hK : K = if (L.length : Int) < P.1 then (L.length : Int) else P.1) : rsl (dfs P 4 0 st0) = K ∧ fnd (dfs P 4 0 st0) = K ∧ ∀ i, 0 ≤ i → i < K → (dfs P 4 0 st0).2.2.2.2 i = L.getD i.toNat (fun _ => 0) := by
  have o := dfs_sp hP 4 0 (fun _ => 0) st0 rfl (fun _ _ => rfl) (by show (0 : Int) + tB 4 < 5000; decide) (by show (0 : Int) < P.1; have := hP.1; omega)
  rw [hL] at o
  generalize dfs P 4 0 st0 = r at *
  have h1 := hP.1
  have e0 : st0.2.2.1 = 0 := rfl
  unfold oD at o
  rw [e0] at o
  unfold rsl fnd
  by_cases q : (L.length : Int) < P.1
  · rw [if_pos q] at hK
    obtain ⟨a1, -, -, a4, a5⟩ := o.1 (by omega)
    have n2 : ¬ r.1 = 2 := by omega
    rw [if_neg n2, if_neg n2]
    refine ⟨by omega, by omega, fun i i0 i1 => ?_⟩
    rw [a5, ldS_at, if_pos (by omega), show (i - 0).toNat = i.toNat by omega]
  · rw [if_neg q] at hK
    obtain ⟨a1, a4, a5⟩ := o.2 (by omega)
    have n2 : ¬ r.1 = 2 := by omega
    rw [if_neg n2, if_neg n2]
    refine ⟨by omega, by omega, fun i i0 i1 => ?_⟩
    have el : (((L.take (P.1 - 0).toNat).length : Nat) : Int) = P.1 := by rw [List.length_take]; omega
    rw [a5, ldS_at, if_pos (by omega), show (i - 0).toNat = i.toNat by omega, List.getD_eq_getElem?_getD, List.getD_eq_getElem?_getD, List.getElem?_take, if_pos (by omega)]
