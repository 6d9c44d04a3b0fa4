/-! ===== the calls, one by one ===== -/
section ST2
variable {I : cI} {R : cR} {J : cI}
def xf (a b c : Int) (k : Nat) : Int := if k = 0 then a else if k = 1 then b else if k = 2 then c else 0
theorem vM_0 {v : Int} : vM (up2 J 1000 0 v) = vM J := by unfold vM; rw [u2x (by decide), u2x (by decide)]
end ST2
