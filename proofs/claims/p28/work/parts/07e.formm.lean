/-! ===== the form of a text: the reference ===== -/
def smT (J J' : cI) : Prop := (∀ b x, b = 1001 ∨ (1004 ≤ b ∧ b ≤ 1006) → J' b x = J b x) ∧ J' 1000 2 = J 1000 2
theorem smT_t {J K L : cI} (h : smT J K) (g : smT K L) : smT J L := ⟨fun b x q => (g.1 b x q).trans (h.1 b x q), g.2.trans h.2⟩
/-- the place alone is changed -/
def jP (J0 J : cI) : Prop := ∀ b x, ¬ (b = 1000 ∧ x = 7) → J b x = J0 b x
theorem jP_t {J K L : cI} (h : jP J K) (g : jP K L) : jP J L := fun b x q => (g b x q).trans (h b x q)
theorem jP_s {J J' : cI} (h : jP J J') : smT J J' := ⟨fun b x q => h b x (by omega), h 1000 2 (by omega)⟩
theorem jP_u {J J' J2 : cI} {i : Int} (h : jP J J') (e : J2 = up2 J' 1000 7 i) : jP J J2 := fun b x q => by subst e; rw [u2n q]; exact h b x q
section FM3
variable {k : kT} {J : cI}
end FM3
