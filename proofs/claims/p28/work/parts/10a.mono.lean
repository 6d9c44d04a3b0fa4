/-! ===== what is broken stays broken ===== -/
theorem sum_mono {n h : Int} {u w : Int → Int} (e : ∀ i, 0 ≤ i → i < n → u i ≠ 0 → w i = u i) (b : ∀ i, 0 ≤ i → i < n → 1 ≤ w i ∧ w i ≤ h) : ∀ x, 0 ≤ x → sF u x n + cF (fun i => u i = 0) x n ≤ sF w x n ∧ sF w x n ≤ sF u x n + h * cF (fun i => u i = 0) x n := by
  refine up_ind (n := n) (fun x c _ => ?_) (fun x c ih h0 => ?_)
  · rw [sF_e c, sF_e c, cF_e c, Int.mul_zero]
    omega
  · rw [sF_s c, sF_s c]
    have h1 := ih (by omega)
    have h2 := b x h0 c
    by_cases z : u x = 0
    · rw [cF_t (p := fun i => u i = 0) c z, z, Int.mul_add, Int.mul_one]
      omega
    · rw [cF_f (p := fun i => u i = 0) z, e x h0 c z]
      omega
theorem cnt_mono {n N : Int} {u w : Int → Int} (hN : 1 ≤ N) (e : ∀ i, 0 ≤ i → i < n → u i ≠ 0 → w i = u i) : ∀ x, 0 ≤ x → cF (fun i => u i = N) x n ≤ cF (fun i => w i = N) x n ∧ cF (fun i => w i = N) x n ≤ cF (fun i => u i = N) x n + cF (fun i => u i = 0) x n := by
  refine up_ind (n := n) (fun x c _ => ?_) (fun x c ih h0 => ?_)
  · rw [cF_e c, cF_e c, cF_e c]
    omega
  · have h1 := ih (by omega)
    by_cases z : u x = 0
    · rw [cF_f (p := fun i => u i = N) (by omega), cF_t (p := fun i => u i = 0) c z]
      by_cases y : w x = N
      · rw [cF_t (p := fun i => w i = N) c y]
        omega
      · rw [cF_f (p := fun i => w i = N) y]
        omega
    · have ex := e x h0 c z
      rw [cF_f (p := fun i => u i = 0) z]
      by_cases y : u x = N
      · rw [cF_t (p := fun i => u i = N) c y, cF_t (p := fun i => w i = N) c (ex.trans y)]
        omega
      · rw [cF_f (p := fun i => u i = N) y, cF_f (p := fun i => w i = N) (by rw [ex]; exact y)]
        omega
theorem prd_mono {n : Int} {u w : Int → Int} (e : ∀ i, 0 ≤ i → i < n → u i ≠ 0 → w i = u i) : ∀ x, 0 ≤ x → ∃ k, pF (fun i => imax 1 (w i)) x n = pF (fun i => imax 1 (u i)) x n * k := by
  refine up_ind (n := n) (fun x c _ => ⟨1, ?_⟩) (fun x c ih h0 => ?_)
  · rw [pF_e c, pF_e c]
    rfl
  · obtain ⟨k, hk⟩ := ih (by omega)
    rw [pF_s c, pF_s c, hk]
    by_cases z : u x = 0
    · refine ⟨imax 1 (w x) * k, ?_⟩
      show imax 1 (w x) * (pF (fun i => imax 1 (u i)) (x + 1) n * k) = imax 1 (u x) * pF (fun i => imax 1 (u i)) (x + 1) n * (imax 1 (w x) * k)
      rw [z, show imax 1 0 = 1 by decide, Int.one_mul, ← Int.mul_assoc, ← Int.mul_assoc, Int.mul_comm (imax 1 (w x))]
    · refine ⟨k, ?_⟩
      show imax 1 (w x) * (pF (fun i => imax 1 (u i)) (x + 1) n * k) = imax 1 (u x) * pF (fun i => imax 1 (u i)) (x + 1) n * k
      rw [e x h0 c z, Int.mul_assoc]
theorem brk_mono {κ N T n h : Int} {u w : Int → Int} (e : ∀ i, 0 ≤ i → i < n → u i ≠ 0 → w i = u i) (b : ∀ i, 0 ≤ i → i < n → 1 ≤ w i ∧ w i ≤ h) (h8 : κ = 8 → 1 ≤ N) (hb : brk κ N T n h u) : brk κ N T n h w := by
  have nz : ¬ exF (fun i => w i = 0) 0 n := fun ⟨i, i0, i1, q⟩ => by have := b i i0 i1; omega
  have c0 : cF (fun i => w i = 0) 0 n = 0 := (cF_0 0).mpr nz
  unfold brk at hb ⊢
  rcases hb with ⟨k, i, j, i0, ij, jn, a1, a2, a3⟩ | ⟨k, q⟩ | ⟨k, q⟩ | ⟨k, i, j, i0, ij, jn, a1, a2, a3⟩ | ⟨k, q1, q2⟩ | ⟨k, i, i0, i1, a1, a2⟩ | ⟨k, i, i0, i1, a1, a2⟩ | ⟨k, q⟩ | ⟨k, i, i0, i1, a1, a2⟩ | ⟨k, i, i0, i1, a1, a2, a3⟩ | ⟨k, i, j, i0, ij, jn, a1, a2, a3⟩
  · have ei := e i i0 (by omega) a1
    have ej := e j (by omega) jn a2
    exact Or.inl ⟨k, i, j, i0, ij, jn, by rw [ei]; exact a1, by rw [ej]; exact a2, by rw [ei, ej]; exact a3⟩
  · have m := sum_mono e b 0 (Int.le_refl 0)
    refine Or.inr (Or.inl ⟨k, ?_⟩)
    rw [c0, Int.mul_zero]
    omega
  · refine Or.inr (Or.inr (Or.inl ⟨k, ?_⟩))
    rcases q with q | ⟨q1, q2⟩
    · by_cases z : pF (fun i => imax 1 (w i)) 0 n = N
      · obtain ⟨k2, hk⟩ := prd_mono e 0 (Int.le_refl 0)
        rw [z] at hk
        exact absurd (by rw [hk]; exact Int.mul_emod_right _ _) q
      · exact Or.inr ⟨nz, z⟩
    · refine Or.inr ⟨nz, ?_⟩
      rw [pF_cg (f := fun i => imax 1 (w i)) (g := fun i => imax 1 (u i)) 0 (fun i i0 i1 => ?_)]
      · exact q2
      · show imax 1 (w i) = imax 1 (u i)
        rw [e i i0 i1 (fun z => q1 ⟨i, i0, i1, z⟩)]
  · have ei := e i i0 (by omega) a1
    have ej := e j (by omega) jn a2
    exact Or.inr (Or.inr (Or.inr (Or.inl ⟨k, i, j, i0, ij, jn, by rw [ei]; exact a1, by rw [ej]; exact a2, by rw [ei, ej]; exact a3⟩)))
  · refine Or.inr (Or.inr (Or.inr (Or.inr (Or.inl ⟨k, nz, ?_⟩))))
    rw [vF_cg (u := w) (v := u) 0 (fun i i0 i1 => e i i0 i1 (fun z => q1 ⟨i, i0, i1, z⟩)) 0]
    exact q2
  · have ei := e i i0 i1 a1
    exact Or.inr (Or.inr (Or.inr (Or.inr (Or.inr (Or.inl ⟨k, i, i0, i1, by rw [ei]; exact a1, by rw [ei]; exact a2⟩)))))
  · have ei := e i i0 i1 a1
    exact Or.inr (Or.inr (Or.inr (Or.inr (Or.inr (Or.inr (Or.inl ⟨k, i, i0, i1, by rw [ei]; exact a1, by rw [ei]; exact a2⟩))))))
  · have m := cnt_mono (h8 k) e 0 (Int.le_refl 0)
    refine Or.inr (Or.inr (Or.inr (Or.inr (Or.inr (Or.inr (Or.inr (Or.inl ⟨k, ?_⟩)))))))
    rw [c0]
    omega
  · have ei := e i i0 i1 a1
    exact Or.inr (Or.inr (Or.inr (Or.inr (Or.inr (Or.inr (Or.inr (Or.inr (Or.inl ⟨k, i, i0, i1, by rw [ei]; exact a1, by rw [ei]; exact a2⟩))))))))
  · have ei := e i i0 (by omega) a1
    have ej := e (i + 1) (by omega) (by omega) a2
    exact Or.inr (Or.inr (Or.inr (Or.inr (Or.inr (Or.inr (Or.inr (Or.inr (Or.inr (Or.inl ⟨k, i, i0, i1, by rw [ei]; exact a1, by rw [ej]; exact a2, by rw [ei, ej]; exact a3⟩)))))))))
  · have ei := e i i0 (by omega) a1
    have ej := e j (by omega) jn a2
    exact Or.inr (Or.inr (Or.inr (Or.inr (Or.inr (Or.inr (Or.inr (Or.inr (Or.inr (Or.inr ⟨k, i, j, i0, ij, jn, by rw [ei]; exact a1, by rw [ej]; exact a2, by rw [ei, ej]; exact a3⟩)))))))))
theorem br_mono {σ : Int → Int} {m h : Int} {v w : Int → Int} (g : gr m σ) (e : ∀ c, 0 ≤ c → c < m → v c ≠ 0 → w c = v c) (b : ∀ c, 0 ≤ c → c < m → 1 ≤ w c ∧ w c ≤ h) (hb : br σ h v) : br σ h w :=
  brk_mono (fun i i0 i1 => by have := g.2.2.2.2.2.2.2.2.2.2.2.1 i i0 i1; exact e _ this.1 this.2) (fun i i0 i1 => by have := g.2.2.2.2.2.2.2.2.2.2.2.1 i i0 i1; exact b _ this.1 this.2) g.2.2.2.2.2.2.2.2.1 hb
