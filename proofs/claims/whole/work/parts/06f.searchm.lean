/-! the reference -/
def SM (M : Int) (J : cI) (σ : sT) : Prop := (∀ c, 0 ≤ c → c < 25 → J 1021 c = σ.1 c) ∧ J 1000 24 = σ.2.1 ∧ J 1000 25 = σ.2.2.1 ∧ (∀ i c, 0 ≤ i → i < σ.2.2.1 → 0 ≤ c → c < M → J 1026 (25 * i + c) = σ.2.2.2 i c)
def fM (J0 J : cI) : Prop := ∀ a x, ¬ ((a = 1000 ∧ (x = 24 ∨ x = 25)) ∨ a = 1021 ∨ a = 1026) → J a x = J0 a x
theorem fM_r {J : cI} : fM J J := fun _ _ _ => rfl
theorem fM_t {I J K : cI} (h : fM I J) (g : fM J K) : fM I K := fun a x e => (g a x e).trans (h a x e)
theorem fM_u {J0 J : cI} {a : Nat} {x v : Int} (h : fM J0 J) (e : (a = 1000 ∧ (x = 24 ∨ x = 25)) ∨ a = 1021 ∨ a = 1026) : fM J0 (up2 J a x v) := fun b y q => (u2n (fun w => q (by rw [w.1, w.2]; exact e))).trans (h b y q)
/-- what of the search stands in the reference's rows -/
def mB (J0 : cI) (M n wo : Int) (P : sP) : Prop :=
  J0 1000 11 * J0 1000 12 = M ∧ J0 1000 13 = P.2.1 ∧ J0 1000 14 = n ∧ gp M n (mr J0 1015) ∧ 0 ≤ n ∧ n ≤ 65 ∧ 1 ≤ M ∧ M ≤ 25 ∧ (∀ c, 0 ≤ c → c < M → J0 1023 c = P.2.2.1 c) ∧ (∀ c, 0 ≤ c → c < M → J0 1022 c = P.2.2.2.1 c - 1) ∧ (∀ c v, P.2.2.2.2 c v ↔ am (mr J0 1015) n P.2.1 c v wo)
theorem mr_fr {J0 J : cI} {b : Nat} (h : ∀ a x, b ≤ a → a ≤ b + 4 → J a x = J0 a x) : mr J b = mr J0 b := by
  funext i t
  unfold mr
  rw [h b i (by omega) (by omega), h (b + 1) i (by omega) (by omega), h (b + 2) i (by omega) (by omega), h (b + 3) i (by omega) (by omega), h (b + 4) _ (by omega) (by omega)]
section ML
variable {J0 : cI} {M n wo : Int} {P : sP} {Q : Int → cI → Prop}
theorem m_169 (hB : mB J0 M n wo P) (hP : goP P) {c t : Int} {f : Int → Int} {J : cI} {σ : sT} (h0 : 0 ≤ c) (h1 : c < M) (t0 : 0 ≤ t) (hf : f c = chs P c - t) (ht : t < chs P c) (hs : gS P σ) (hm : fM J0 J) (hv : SM M J σ) (g : ¬ 5000 ≤ σ.2.1) {K : Int → Int → (Int → Int) → cI → Prop}
    (k1 : P.2.2.2.2 c (upF σ.1 c (vls P c t)) → K M c (upF f c (f c - 1)) (up2 (up2 J 1000 24 (σ.2.1 + 1)) 1021 c (vls P c t)))
    (k2 : ¬ P.2.2.2.2 c (upF σ.1 c (vls P c t)) → c + 1 < M → K M (c + 1) (upF (upF f c (f c - 1)) (c + 1) (chs P (c + 1))) (up2 (up2 J 1000 24 (σ.2.1 + 1)) 1021 c (vls P c t)))
    (k3 : ¬ P.2.2.2.2 c (upF σ.1 c (vls P c t)) → c + 1 = M → ∃ m, wX12_look_232 Q P.1 wo K m M c 0 (upF f c (f c - 1)) (up2 (up2 J 1000 24 (σ.2.1 + 1)) 1021 c (vls P c t))) :
    wX12_look_169 Q P.1 wo K M c c (vls P c t) f (up2 J 1000 24 (σ.2.1 + 1)) := by
  obtain ⟨b1, b2, b3, b4, b5, b6, b7, b8, b9, b10, b11⟩ := hB
  have hvl := vls_b hP h0 (by omega) t0 ht
  have hh := hP.2.2.2.1
  have hch := chs_b hP c
  unfold wX12_look_169
  refine ⟨by omega, fun J2 e2 => ⟨by omega, by unfold inR; omega, by omega, fun f8 e8 => ?_⟩⟩
  have hg1 := gS_up (c := c) hs (x := vls P c t) ⟨by omega, by omega⟩ g
  have hm2 : fM J0 J2 := by subst e2; exact fM_u (fM_u hm (Or.inl ⟨rfl, Or.inl rfl⟩)) (Or.inr (Or.inl rfl))
  have hv2 : ∀ y, 0 ≤ y → y < 25 → J2 1021 y = upF σ.1 c (vls P c t) y := by
    intro y y0 y1
    subst e2
    by_cases e : y = c
    · subst e; rw [u2e, uFe]
    · rw [u2x e, u2a (by decide), uFn e]; exact hv.1 y y0 y1
  rw [← e2, ← e8] at k1 k2 k3
  clear e2 e8
  have j13 : J2 1000 13 = P.2.1 := (hm2 1000 13 (by decide)).trans b2
  have j14 : J2 1000 14 = n := (hm2 1000 14 (by decide)).trans b3
  have jr : mr J2 1015 = mr J0 1015 := mr_fr (fun a x q1 q2 => hm2 a x (by omega))
  refine m_amiss (m := M) (by omega) (by rw [jr, j14]; exact b4) b8 (fun y y0 y1 => by rw [hv2 y y0 (by omega)]; exact hg1.1 y y0 (by omega)) (by omega) ?_
  rw [j13, j14, jr]
  have ea : am (mr J0 1015) n P.2.1 c (J2 1021) wo ↔ P.2.2.2.2 c (upF σ.1 c (vls P c t)) := (am_cg b4 (fun y y0 y1 => hv2 y y0 (by omega))).trans (b11 c _).symm
  rw [b2_c ea]
  by_cases b : P.2.2.2.2 c (upF σ.1 c (vls P c t))
  · rw [b2_t b]
    exact ⟨fun w => absurd w (by decide), fun _ => k1 b⟩
  · rw [b2_f b]
    refine ⟨fun _ => ⟨by unfold inR; omega, fun e => k3 b (by omega), fun e => ⟨by unfold inR; omega, fun z hz => ?_⟩⟩, fun w => absurd rfl w⟩
    subst hz
    have j23 : J2 1023 (c + 1) = P.2.2.1 (c + 1) := (hm2 1023 _ (by omega)).trans (b9 _ (by omega) (by omega))
    have hon := hP.2.2.2.2.1 (c + 1) (by omega) (by omega)
    rw [j23]
    have k2' := k2 b (by omega)
    refine ⟨by omega, fun e => ⟨by omega, fun f2 ef => ?_⟩, fun e => ⟨by omega, fun f2 ef => ?_⟩⟩
    · have : chs P (c + 1) = P.2.1 := by unfold chs; rw [if_pos (by omega)]
      rw [this] at k2'
      subst ef; exact k2'
    · have : chs P (c + 1) = 1 := by unfold chs; rw [if_neg (by omega)]
      rw [this] at k2'
      subst ef; exact k2'
theorem m_69 (hB : mB J0 M n wo P) (hP : goP P) {c t : Int} {f : Int → Int} {J : cI} {σ : sT} (h0 : 0 ≤ c) (h1 : c < M) (t0 : 0 ≤ t) (hf : f c = chs P c - t) (ht : t ≤ chs P c) (hs : gS P σ) (hm : fM J0 J) (hv : SM M J σ) {K : Int → Int → (Int → Int) → cI → Prop}
    (q0 : t = chs P c → K M (c - 1) f (up2 J 1021 c 0)) (q1 : t < chs P c → 5000 ≤ σ.2.1 → Q (-1) J)
    (q2 : t < chs P c → ¬ 5000 ≤ σ.2.1 → wX12_look_169 Q P.1 wo K M c c (vls P c t) f (up2 J 1000 24 (σ.2.1 + 1))) : wbX12_look_69 Q P.1 wo K M c f J := by
  obtain ⟨b1, b2, b3, b4, b5, b6, b7, b8, b9, b10, b11⟩ := hB
  have hh := hP.2.2.2.1
  have h1h := hP.2.2.1
  have hch := chs_b hP c
  have hs5 := hs.2.2.1
  have hs0 := hs.2.1
  unfold wbX12_look_69
  refine ⟨fun e => absurd e (by omega), fun _ => ⟨by omega, fun e => ⟨fun e5 => ?_, fun e5 => ?_⟩, fun e => ⟨by omega, fun J14 e14 => ⟨by unfold inR; omega, fun z hz => ?_⟩⟩⟩⟩
  · rw [hv.2.1] at e5 ⊢
    refine ⟨by unfold inR; omega, fun J3 e3 => ⟨by omega, ?_⟩⟩
    have q2' := q2 (by omega) (by omega)
    rw [← e3] at q2'
    have hm3 : fM J0 J3 := by subst e3; exact fM_u hm (Or.inl ⟨rfl, Or.inl rfl⟩)
    have j13 : J3 1000 13 = P.2.1 := (hm3 1000 13 (by decide)).trans b2
    have j23 : J3 1023 c = P.2.2.1 c := (hm3 1023 _ (by omega)).trans (b9 _ h0 (by omega))
    have j22 : J3 1022 c = P.2.2.2.1 c - 1 := (hm3 1022 _ (by omega)).trans (b10 _ h0 (by omega))
    have hon := hP.2.2.2.2.1 c h0 (by omega)
    have hfi := hP.2.2.2.2.2 c h0 (by omega)
    rw [j13, j23, j22]
    refine ⟨fun eo => ?_, fun eo => ⟨by omega, ?_⟩⟩
    · have eo' : P.2.2.1 c = 0 := by omega
      have ec : chs P c = P.2.1 := by unfold chs; rw [if_pos eo']
      have ev : vls P c t = (P.2.2.2.1 c - 1 + P.2.1 - f c) % P.2.1 + 1 := by
        unfold vls
        rw [if_pos eo', hf, ec]
        by_cases l : P.2.2.2.1 c + t ≤ P.2.1
        · rw [if_pos l, Int.emod_eq_of_lt (by omega) (by omega)]; omega
        · rw [if_neg l, show P.2.2.2.1 c - 1 + P.2.1 - (P.2.1 - t) = (P.2.2.2.1 c - 1 + t - P.2.1) + P.2.1 by omega, Int.add_emod_right, Int.emod_eq_of_lt (by omega) (by omega)]; omega
      have m0 := Int.emod_nonneg (P.2.2.2.1 c - 1 + P.2.1 - f c) (b := P.2.1) (by omega)
      have m1 := Int.emod_lt_of_pos (P.2.2.2.1 c - 1 + P.2.1 - f c) (b := P.2.1) (by omega)
      rw [ev] at q2'
      exact ⟨by omega, by omega, by unfold inR; omega, by omega, by unfold inR; omega, q2'⟩
    · have ev : vls P c t = P.2.2.1 c := by unfold vls; rw [if_neg (by omega)]
      rw [ev] at q2'
      exact q2'
  · rw [hv.2.1] at e5
    exact q1 (by omega) (by omega)
  · subst e14; subst hz
    exact q0 (by omega)
/-- a solution laid down -/
def kpJ (M : Int) (J : cI) (f x : Int) : cI := fun a y => if a = 1026 ∧ 25 * f ≤ y ∧ y < 25 * f + x then J 1021 (y - 25 * f) else J a y
theorem m_232 {c : Int} {g : Int → Int} {K : Int → Int → (Int → Int) → cI → Prop} {J : cI} {f : Int} (hf : J 1000 25 = f) (h0 : 0 ≤ f) (h1 : f < 30) (hM : 0 ≤ M ∧ M ≤ 25)
    (k1 : f + 1 = P.1 → Q P.1 (up2 (kpJ M J f M) 1000 25 (f + 1))) (k2 : ¬ f + 1 = P.1 → K M c g (up2 (kpJ M J f M) 1000 25 (f + 1))) : ∃ m, wX12_look_232 Q P.1 wo K m M c 0 g J := by
  have L : ∀ (m : Nat) (x : Int), 0 ≤ x → x ≤ M → M - x < m → wX12_look_232 Q P.1 wo K m M c x g (kpJ M J f x) := by
    intro m
    induction m with
    | zero => intro x h0 h1 h2; omega
    | succ m ih =>
      intro x x0 x1 x2
      show wbX12_look_232 Q P.1 wo K (wX12_look_232 Q P.1 wo K m) M c x g (kpJ M J f x)
      unfold wbX12_look_232
      have e25 : kpJ M J f x 1000 25 = f := by unfold kpJ; rw [if_neg (by omega)]; exact hf
      have e21 : kpJ M J f x 1021 x = J 1021 x := by unfold kpJ; rw [if_neg (by omega)]
      rw [e25, e21]
      refine ⟨fun e => ⟨by unfold inR; omega, fun J2 e2 => ?_⟩, fun e => ⟨by omega, by omega, fun J7 e7 => ⟨by unfold inR; omega, fun z hz => ?_⟩⟩⟩
      · have ex : x = M := by omega
        rw [ex] at e2
        rw [← e2] at k1 k2
        have j : J2 1000 25 = f + 1 := by rw [e2]; exact u2e
        rw [j]
        refine ⟨fun w => k2 w, fun w => ?_⟩
        rw [w]; exact k1 w
      · have : J7 = kpJ M J f (x + 1) := by
          rw [e7]
          funext a y
          unfold up2 kpJ
          by_cases q : a = 1026
          · by_cases q2 : y = 25 * f + x
            · rw [if_pos ⟨q, q2⟩, if_pos ⟨q, by omega, by omega⟩, q2, show 25 * f + x - 25 * f = x by omega]
            · rw [if_neg (by omega)]
              by_cases q3 : 25 * f ≤ y ∧ y < 25 * f + x
              · rw [if_pos ⟨q, q3⟩, if_pos ⟨q, by omega, by omega⟩]
              · rw [if_neg (by omega), if_neg (by omega)]
          · rw [if_neg (by omega), if_neg (by omega), if_neg (by omega)]
        rw [this]; subst hz
        exact ih (x + 1) (by omega) (by omega) (by omega)
  have e0 : kpJ M J f 0 = J := by
    funext a y
    unfold kpJ
    rw [if_neg (by omega)]
  have := L 26 0 (by omega) (by omega) (by omega)
  rw [e0] at this
  exact ⟨26, this⟩
/-- what follows in the reference -/
def mpo (J0 : cI) (M wo : Int) (P : sP) (Q : Int → cI → Prop) (c : Int) (f : Int → Int) (r : Int × sT) : Prop :=
  (r.1 = 0 → ∀ f' J, (∀ x, 0 ≤ x → x < c → f' x = f x) → fM J0 J → SM M J r.2 → ∃ m, wX12_look_69 Q P.1 wo m M (c - 1) f' J) ∧ (r.1 = 1 → ∀ J, fM J0 J → SM M J r.2 → Q P.1 J) ∧ (r.1 = 2 → ∀ J, fM J0 J → J 1000 24 = r.2.2.1 → Q (-1) J)
theorem m_dlp (hB : mB J0 M n wo P) (hP : goP P) {c : Int} (h0 : 0 ≤ c) (h1 : c < M) {rec : sT → Int × sT} (hok : ∀ σ, gS P σ → oR P (rec σ))
    (hrec : ∀ (σ : sT) (J : cI) (f : Int → Int), gS P σ → fM J0 J → SM M J σ → mpo J0 M wo P Q (c + 1) f (rec σ) →
      (c + 1 < M → ∃ m, wX12_look_69 Q P.1 wo m M (c + 1) (upF f (c + 1) (chs P (c + 1))) J) ∧ (c + 1 = M → (f' : Int → Int) → ((σ.2.2.1 + 1 = P.1 → Q P.1 (up2 (kpJ M J σ.2.2.1 M) 1000 25 (σ.2.2.1 + 1))) ∧ (¬ σ.2.2.1 + 1 = P.1 → (rec σ).1 = 0 ∧ fM J0 (up2 (kpJ M J σ.2.2.1 M) 1000 25 (σ.2.2.1 + 1)) ∧ SM M (up2 (kpJ M J σ.2.2.1 M) 1000 25 (σ.2.2.1 + 1)) (rec σ).2)))) :
    ∀ (k : Nat) (t : Int) (σ : sT) (J : cI) (f : Int → Int), gS P σ → 0 ≤ t → t + k = chs P c → f c = k → fM J0 J → SM M J σ → mpo J0 M wo P Q c f (dlp (P.2.2.2.2 c) (vls P c) c rec k t σ) → ∃ m, wX12_look_69 Q P.1 wo m M c f J := by
  have hM25 := hB.2.2.2.2.2.2.2.1
  intro k
  induction k with
  | zero =>
    intro t σ J f hg t0 t1 hfk hf hv hQ
    rw [dlp_0] at hQ
    obtain ⟨m, hm⟩ := hQ.1 rfl f (up2 J 1021 c 0) (fun _ _ _ => rfl) (fM_u hf (Or.inr (Or.inl rfl))) ⟨fun y y0 y1 => by
      show _ = upF σ.1 c 0 y
      by_cases e : y = c
      · subst e; rw [u2e, uFe]
      · rw [u2x e, uFn e]; exact hv.1 y y0 y1, by rw [u2a (by decide)]; exact hv.2.1, by rw [u2a (by decide)]; exact hv.2.2.1, fun i y i0 i1 y0 y1 => by rw [u2a (by decide)]; exact hv.2.2.2 i y i0 i1 y0 y1⟩
    exact ⟨m + 1, m_69 hB hP h0 h1 t0 (by omega) (by omega) hg hf hv (fun _ => hm) (fun e => by omega) (fun e => by omega)⟩
  | succ k ih =>
    intro t σ J f hg t0 t1 hfk hf hv hQ
    by_cases g : 5000 ≤ σ.2.1
    · rw [dlp_g g] at hQ
      exact ⟨1, m_69 hB hP h0 h1 t0 (by omega) (by omega) hg hf hv (fun e => by omega) (fun _ _ => hQ.2.2 rfl J hf hv.2.1) (fun _ e => absurd g e)⟩
    · have hvl := vls_b hP h0 (by omega) t0 (show t < chs P c by omega)
      have hg1 := gS_up (c := c) hg (x := vls P c t) ⟨by omega, by have := hP.2.2.2.1; omega⟩ g
      have hf1 : fM J0 (up2 (up2 J 1000 24 (σ.2.1 + 1)) 1021 c (vls P c t)) := fM_u (fM_u hf (Or.inl ⟨rfl, Or.inl rfl⟩)) (Or.inr (Or.inl rfl))
      have hv1 : SM M (up2 (up2 J 1000 24 (σ.2.1 + 1)) 1021 c (vls P c t)) (upF σ.1 c (vls P c t), σ.2.1 + 1, σ.2.2) := ⟨fun y y0 y1 => by
        show _ = upF σ.1 c (vls P c t) y
        by_cases e : y = c
        · subst e; rw [u2e, uFe]
        · rw [u2x e, u2a (by decide), uFn e]; exact hv.1 y y0 y1, by rw [u2a (by decide), u2e], by rw [u2a (by decide), u2x (by decide)]; exact hv.2.2.1, fun i y i0 i1 y0 y1 => by rw [u2a (by decide), u2a (by decide)]; exact hv.2.2.2 i y i0 i1 y0 y1⟩
      have hfc : upF f c (f c - 1) c = k := by rw [uFe]; omega
      have hfo : ∀ x, 0 ≤ x → x < c → upF f c (f c - 1) x = f x := fun x x0 x1 => uFn (by omega)
      by_cases b : P.2.2.2.2 c (upF σ.1 c (vls P c t))
      · rw [dlp_b g b] at hQ
        obtain ⟨m, hm⟩ := ih (t + 1) _ _ (upF f c (f c - 1)) hg1 (by omega) (by omega) hfc hf1 hv1 ⟨fun r f' J' e1 e2 e3 => hQ.1 r f' J' (fun x x0 x1 => (e1 x x0 x1).trans (hfo x x0 x1)) e2 e3, hQ.2⟩
        exact ⟨m + 1, m_69 hB hP h0 h1 t0 (by omega) (by omega) hg hf hv (fun e => by omega) (fun _ e => absurd e g) (fun _ _ => m_169 hB hP h0 h1 t0 (by omega) (by omega) hg hf hv g (fun _ => hm) (fun w => absurd b w) (fun w => absurd b w))⟩
      · have o := hok _ hg1
        have hmp : mpo J0 M wo P Q (c + 1) (upF f c (f c - 1)) (rec (upF σ.1 c (vls P c t), σ.2.1 + 1, σ.2.2)) := by
          refine ⟨fun r f' J' e1 e2 e3 => ?_, fun r => ?_, fun r => ?_⟩
          · rw [dlp_c g b r] at hQ
            rw [show c + 1 - 1 = c by omega]
            refine ih (t + 1) _ J' f' ?_ (by omega) (by omega) (by rw [e1 c h0 (by omega)]; exact hfc) e2 e3 ⟨fun r f'' J'' e4 e5 e6 => hQ.1 r f'' J'' (fun x x0 x1 => (e4 x x0 x1).trans ((e1 x x0 (by omega)).trans (hfo x x0 x1))) e5 e6, hQ.2⟩
            rcases o with o | o | o
            · exact o.2
            · omega
            · omega
          · rw [dlp_x g b (by omega)] at hQ; exact hQ.2.1 r
          · rw [dlp_x g b (by omega)] at hQ; exact hQ.2.2 r
        have hr := hrec _ _ _ hg1 hf1 hv1 hmp
        by_cases e : c + 1 < M
        · obtain ⟨m, hm⟩ := hr.1 e
          exact ⟨m + 1, m_69 hB hP h0 h1 t0 (by omega) (by omega) hg hf hv (fun e => by omega) (fun _ e => absurd e g) (fun _ _ => m_169 hB hP h0 h1 t0 (by omega) (by omega) hg hf hv g (fun w => absurd w b) (fun _ _ => hm) (fun _ w => by omega))⟩
        · have e' : c + 1 = M := by omega
          have hr2 := hr.2 e' f
          have f30 : σ.2.2.1 < 30 := by have := hg.2.2.2.2; have := hP.2.1; omega
          by_cases l : σ.2.2.1 + 1 = P.1
          · exact ⟨1, m_69 hB hP h0 h1 t0 (by omega) (by omega) hg hf hv (fun e => by omega) (fun _ e => absurd e g) (fun _ _ => m_169 hB hP h0 h1 t0 (by omega) (by omega) hg hf hv g (fun w => absurd w b) (fun _ w => by omega) (fun _ _ => m_232 hv1.2.2.1 hg.2.2.2.1 f30 (by omega) hr2.1 (fun w => absurd l w)))⟩
          · have h3 := hr2.2 l
            obtain ⟨m, hm⟩ := hmp.1 h3.1 (upF f c (f c - 1)) _ (fun _ _ _ => rfl) h3.2.1 h3.2.2
            rw [show c + 1 - 1 = c by omega] at hm
            exact ⟨m + 1, m_69 hB hP h0 h1 t0 (by omega) (by omega) hg hf hv (fun e => by omega) (fun _ e => absurd e g) (fun _ _ => m_169 hB hP h0 h1 t0 (by omega) (by omega) hg hf hv g (fun w => absurd w b) (fun _ w => by omega) (fun _ _ => m_232 hv1.2.2.1 hg.2.2.2.1 f30 (by omega) (fun w => absurd w l) (fun _ => hm)))⟩
theorem m_dfs (hB : mB J0 M n wo P) (hP : goP P) : ∀ (d : Nat) (c : Int) (σ : sT) (J : cI) (f : Int → Int), 0 ≤ c → c + d = M → gS P σ → fM J0 J → SM M J σ → mpo J0 M wo P Q c f (dfs P d c σ) →
    (c < M → ∃ m, wX12_look_69 Q P.1 wo m M c (upF f c (chs P c)) J) ∧ (c = M → (f' : Int → Int) → ((σ.2.2.1 + 1 = P.1 → Q P.1 (up2 (kpJ M J σ.2.2.1 M) 1000 25 (σ.2.2.1 + 1))) ∧ (¬ σ.2.2.1 + 1 = P.1 → (dfs P d c σ).1 = 0 ∧ fM J0 (up2 (kpJ M J σ.2.2.1 M) 1000 25 (σ.2.2.1 + 1)) ∧ SM M (up2 (kpJ M J σ.2.2.1 M) 1000 25 (σ.2.2.1 + 1)) (dfs P d c σ).2))) := by
  have hM25 := hB.2.2.2.2.2.2.2.1
  intro d
  induction d with
  | zero =>
    intro c σ J f h0 h1 hg hf hv hQ
    refine ⟨fun e => by omega, fun _ _ => ?_⟩
    have hf2 : fM J0 (up2 (kpJ M J σ.2.2.1 M) 1000 25 (σ.2.2.1 + 1)) := fM_u (fun a x q => by
      have : ¬ (a = 1026 ∧ 25 * σ.2.2.1 ≤ x ∧ x < 25 * σ.2.2.1 + M) := by omega
      show (if _ then _ else _) = _
      rw [if_neg this]; exact hf a x q) (Or.inl ⟨rfl, Or.inr rfl⟩)
    have hv2 : SM M (up2 (kpJ M J σ.2.2.1 M) 1000 25 (σ.2.2.1 + 1)) (σ.1, σ.2.1, σ.2.2.1 + 1, fun i => if i = σ.2.2.1 then σ.1 else σ.2.2.2 i) := by
      refine ⟨fun y y0 y1 => ?_, ?_, u2e, fun i y i0 i1 y0 y1 => ?_⟩
      · rw [u2a (by decide)]; unfold kpJ; rw [if_neg (by omega)]; exact hv.1 y y0 y1
      · rw [u2x (by decide)]; unfold kpJ; rw [if_neg (by omega)]; exact hv.2.1
      · rw [u2a (by decide)]
        have i1' : i < σ.2.2.1 + 1 := i1
        show (if _ then _ else _) = (if i = σ.2.2.1 then σ.1 else σ.2.2.2 i) y
        by_cases ei : i = σ.2.2.1
        · rw [if_pos ei, if_pos ⟨rfl, by omega, by omega⟩, ei, show 25 * σ.2.2.1 + y - 25 * σ.2.2.1 = y by omega]
          exact hv.1 y y0 (by omega)
        · rw [if_neg ei, if_neg (by omega)]
          exact hv.2.2.2 i y i0 (by omega) y0 y1
    have hQ' : mpo J0 M wo P Q c f (kpt P σ) := hQ
    have e0 : dfs P 0 c σ = kpt P σ := rfl
    rw [e0]
    unfold kpt at hQ' ⊢
    refine ⟨fun l => ?_, fun l => ?_⟩
    · rw [if_pos (by omega)] at hQ'
      exact hQ'.2.1 rfl _ hf2 hv2
    · have := hg.2.2.2.2
      rw [if_neg (by omega)]
      exact ⟨rfl, hf2, hv2⟩
  | succ d ih =>
    intro c σ J f h0 h1 hg hf hv hQ
    refine ⟨fun e => ?_, fun e => by omega⟩
    have hch := chs_b hP c
    refine m_dlp hB hP h0 e (rec := dfs P d (c + 1)) (fun σ hσ => dfs_ok hP d (c + 1) σ (by omega) (by omega) hσ) (fun σ J f hg hf hv hQ => ih (c + 1) σ J f (by omega) (by omega) hg hf hv hQ) (chs P c).toNat 0 σ J _ hg (by omega) (by omega) (by rw [uFe]; omega) hf hv ⟨fun r f' J' e1 e2 e3 => hQ.1 r f' J' (fun x x0 x1 => (e1 x x0 x1).trans (uFn (by omega))) e2 e3, hQ.2⟩
end ML
