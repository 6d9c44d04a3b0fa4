/-! ===== what is written, as bytes ===== -/
def apS (s : pT) (l : List Int) : pT := l.foldl (fun s b => ad b s) s
theorem apS_app {s : pT} {l m : List Int} : apS s (l ++ m) = apS (apS s l) m := List.foldl_append
theorem apS_l : ∀ (l : List Int) (s : pT), (apS s l).1 = s.1 + l.length := by
  intro l
  induction l with
  | nil => intro s; have e : ((([] : List Int).length : Nat) : Int) = 0 := rfl; rw [e, Int.add_zero]; rfl
  | cons b l ih => intro s; show (apS (ad b s) l).1 = _; rw [ih, ad_l, List.length_cons]; omega
theorem apS_at : ∀ (l : List Int) (s : pT) (j : Int), (apS s l).2 j = if s.1 ≤ j ∧ j < s.1 + l.length then l.getD (j - s.1).toNat 0 else s.2 j := by
  intro l
  induction l with
  | nil => intro s j; have e : ((([] : List Int).length : Nat) : Int) = 0 := rfl; rw [e, if_neg (by omega)]; rfl
  | cons b l ih =>
    intro s j
    show (apS (ad b s) l).2 j = _
    rw [ih, ad_l, List.length_cons]
    by_cases q : j = s.1
    · rw [if_neg (by omega), if_pos (by omega), show (j - s.1).toNat = 0 by omega]
      show upF s.2 s.1 b j = b
      rw [q, uFe]
    · by_cases q2 : s.1 + 1 ≤ j ∧ j < s.1 + 1 + l.length
      · rw [if_pos q2, if_pos (by omega), show (j - s.1).toNat = (j - (s.1 + 1)).toNat + 1 by omega]
        rfl
      · rw [if_neg q2, if_neg (by omega)]
        show upF s.2 s.1 b j = s.2 j
        rw [uFn q]
theorem itF_ap {f : Int → Int} : ∀ (n : Nat) (x : Int) (s : pT), itF (fun x s => ad (f x) s) n x s = apS s ((List.range n).map (fun (j : Nat) => f (x + j))) := by
  intro n
  induction n with
  | zero => intro x s; rfl
  | succ n ih =>
    intro x s
    show itF (fun x s => ad (f x) s) n (x + 1) (ad (f x) s) = _
    rw [ih, List.range_succ_eq_map, List.map_cons, List.map_map]
    show _ = apS (ad (f (x + ((0 : Nat) : Int))) s) _
    rw [show x + ((0 : Nat) : Int) = x by omega]
    congr 1
    refine List.map_congr_left (fun j _ => ?_)
    show f (x + 1 + j) = f (x + ((j + 1 : Nat) : Int))
    rw [show x + 1 + (j : Int) = x + ((j + 1 : Nat) : Int) by omega]
theorem adW_ap {i : Nat} {s : pT} : adW i s = apS s (bysX i) := by
  unfold adW
  rw [itF_ap (f := txC i)]
  unfold bysX
  rw [show (txN i).toNat = txL.getD i 0 by unfold txN; omega]
  congr 1
  refine List.map_congr_left (fun j _ => ?_)
  show txC i (0 + j) = _
  rw [Int.zero_add]
theorem adX_ap {v : Int} {s : pT} (h0 : 0 ≤ v) (h : v ≤ 9) : adX v s = apS s [32, 48 + v] := by
  unfold adX
  rw [adN_1 h, show v % 10 = v by omega]
  rfl
theorem adC_ap {a : Int} {s : pT} : adC a 2 s = apS s [32, 97 + a % 2, 49 + a / 2] := rfl
theorem cells_ap {ρ : Int → Int} : ∀ (cs : List Int) (x : Int) (s : pT), (∀ j : Nat, j < cs.length → ρ (4 + (x + j)) = cs.getD j 0) → itF (fun i s => adC (ρ (4 + i)) 2 s) cs.length x s = apS s (cs.flatMap (fun c => [32, 97 + c % 2, 49 + c / 2])) := by
  intro cs
  induction cs with
  | nil => intro x s _; rfl
  | cons c cs ih =>
    intro x s h
    have h0 := h 0 (by rw [List.length_cons]; omega)
    rw [show x + ((0 : Nat) : Int) = x by omega] at h0
    have h0' : ρ (4 + x) = c := h0
    show itF (fun i s => adC (ρ (4 + i)) 2 s) cs.length (x + 1) (adC (ρ (4 + x)) 2 s) = _
    rw [ih (x + 1) _ (fun j hj => by have := h (j + 1) (by rw [List.length_cons]; omega); rw [show x + ((j + 1 : Nat) : Int) = x + 1 + j by omega] at this; exact this), h0', adC_ap, List.flatMap_cons, apS_app]
theorem byS_blk : ∀ (S : List (Int × Int)) (x : Int × Int), byS (blk (x :: S)) = lxB x ++ S.flatMap (fun y => 32 :: lxB y) := by
  intro S
  induction S with
  | nil => intro x; show lxB x ++ [] ++ [] = lxB x ++ []; rw [List.append_nil]
  | cons y S ih =>
    intro x
    show (lxB x ++ [32]) ++ byS (blk (y :: S)) = _
    rw [ih y, List.flatMap_cons, List.append_assoc]
    rfl
theorem adR_ap {r : rdT} {ρ : Int → Int} {s : pT} (o : okR r) (e : e9 ρ (sh r)) : adR ρ 2 s = apS s (byS (blk (itL r))) := by
  have b : 0 ≤ r.1 ∧ r.1 < 14 := by have := o.1; have := o.2.1; omega
  have nu := nu_i b.1 b.2
  have k12 := nu.2.2.1 o.2.1
  have r0 : ρ 0 = r.1 := e 0 (by decide) (by decide) (Or.inl (by decide))
  have r1 : ρ 1 = r.2.1 := e 1 (by decide) (by decide) (Or.inl (by decide))
  have r2 : ρ 2 = r.2.2.1 := e 2 (by decide) (by decide) (Or.inl (by decide))
  have r3 : ρ 3 = (r.2.2.2.length : Int) := e 3 (by decide) (by decide) (Or.inl (by decide))
  have l3 := o.2.2.2.2.2.2.2.1
  have rc : ∀ j : Nat, j < r.2.2.2.length → ρ (4 + (0 + j)) = r.2.2.2.getD j 0 := fun j hj => by
    rw [Int.zero_add, e (4 + j) (by omega) (by omega) (Or.inr (by rw [r3]; omega))]
    unfold sh
    rw [if_neg (by omega), if_neg (by omega), if_neg (by omega), if_neg (by omega), show (4 + (j : Int) - 4).toNat = j by omega]
  have N0 := o.2.2.1
  have N9 := o.2.2.2.1
  have T0 := o.2.2.2.2.1
  have T5 := o.2.2.2.2.2.1
  have mid : adM ρ (adW (ρ 0).toNat s) = apS s (lxB (2, r.1) ++ (nsR r).flatMap (fun v => [32, 48 + v])) := by
    unfold adM
    rw [r0, k12, adW_ap, r1, r2, apS_app]
    have c : nuT r.1 = 0 ∨ nuT r.1 = 1 ∨ nuT r.1 = 2 := by omega
    have ew : bysX r.1.toNat = lxB (2, r.1) := rfl
    rw [ew]
    unfold nsR
    rcases c with c | c | c
    · rw [c, if_pos (by decide), if_pos (by decide)]; rfl
    · rw [c, if_pos (by decide), if_neg (by decide), adX_ap N0 N9]; rfl
    · rw [c, if_neg (by decide), if_neg (by decide), adX_ap N0 N9, adX_ap T0 (by omega)]; rfl
  have fin : byS (blk (itL r)) = (lxB (2, r.1) ++ (nsR r).flatMap (fun v => [32, 48 + v])) ++ r.2.2.2.flatMap (fun c => [32, 97 + c % 2, 49 + c / 2]) ++ (if r.1 = 9 then [32, 48 + r.2.1] else []) := by
    unfold itL
    rw [byS_blk, List.flatMap_append, List.flatMap_append, List.flatMap_map, List.flatMap_map, List.append_assoc, List.append_assoc]
    congr 3
    by_cases q : r.1 = 9
    · rw [if_pos q, if_pos q]; rfl
    · rw [if_neg q, if_neg q]; rfl
  unfold adR
  rw [mid, r3, show ((r.2.2.2.length : Int)).toNat = r.2.2.2.length by omega, cells_ap r.2.2.2 0 _ rc, r0, r1, fin]
  simp only [apS_app]
  by_cases q : r.1 = 9
  · rw [if_pos q, if_pos q, adX_ap N0 N9]
  · rw [if_neg q, if_neg q]; rfl
theorem adS_ap {ρ : Int → Int → Int} : ∀ (rds : List rdT) (x : Int) (s : pT), (∀ r ∈ rds, okR r) → (∀ j : Nat, j < rds.length → e9 (ρ (x + j)) (sh (rds.getD j rd0))) → adS ρ 2 rds.length x s = apS s (rds.flatMap (fun r => byS (itT r))) := by
  intro rds
  induction rds with
  | nil => intro x s _ _; rfl
  | cons r rds ih =>
    intro x s ok h
    have h0 := h 0 (by rw [List.length_cons]; omega)
    rw [show x + ((0 : Nat) : Int) = x by omega] at h0
    have h0' : e9 (ρ x) (sh r) := h0
    have e : byS (itT r) = byS (blk (itL r)) ++ [59] := by
      unfold itT byS
      rw [List.flatMap_append]
      rfl
    show adS ρ 2 rds.length (x + 1) (ad 59 (adR (ρ x) 2 s)) = _
    rw [ih (x + 1) _ (fun q hq => ok q (List.mem_cons_of_mem _ hq)) (fun j hj => by have := h (j + 1) (by rw [List.length_cons]; omega); rw [show x + ((j + 1 : Nat) : Int) = x + 1 + j by omega] at this; exact this), adR_ap (ok r List.mem_cons_self) h0', List.flatMap_cons, e, apS_app, apS_app]
    rfl
theorem adH_ap : adH 2 2 4 = apS (0, fun _ => 0) (byS (hdT false)) := by
  unfold adH
  rw [adX_ap (by decide) (by decide), adX_ap (by decide) (by decide), adX_ap (by decide) (by decide), adW_ap]
  have e : byS (hdT false) = bysX 14 ++ ([32, 48 + 2] ++ ([32, 48 + 2] ++ ([32, 48 + 4] ++ [59]))) := by decide +kernel
  rw [e, apS_app, apS_app, apS_app, apS_app]
  rfl
theorem byS_app {A B : List lxT} : byS (A ++ B) = byS A ++ byS B := List.flatMap_append
theorem byS_its : ∀ its : List rdT, byS (its.flatMap itT) = its.flatMap (fun r => byS (itT r)) := by
  intro its
  induction its with
  | nil => rfl
  | cons r its ih => rw [List.flatMap_cons, byS_app, ih, List.flatMap_cons]
/-- the paper behind write -/
theorem paper {ρ : Int → Int → Int} {rds : List rdT} (ok : ∀ r ∈ rds, okR r) (h : ∀ j : Nat, j < rds.length → e9 (ρ j) (sh (rds.getD j rd0))) : (adS ρ 2 rds.length 0 (adH 2 2 4)).1 = (byS (txt false rds)).length ∧ ∀ j : Nat, j < (byS (txt false rds)).length → (adS ρ 2 rds.length 0 (adH 2 2 4)).2 j = (byS (txt false rds)).getD j 0 := by
  have e : adS ρ 2 rds.length 0 (adH 2 2 4) = apS (0, fun _ => 0) (byS (txt false rds)) := by
    rw [adS_ap rds 0 _ ok (fun j hj => by rw [Int.zero_add]; exact h j hj), adH_ap]
    unfold txt
    rw [byS_app, byS_its, apS_app]
  rw [e]
  refine ⟨by rw [apS_l]; exact Int.zero_add _, fun j hj => ?_⟩
  rw [apS_at]
  dsimp only
  rw [if_pos (by omega), show ((j : Int) - 0).toNat = j by omega]
theorem flat_l : ∀ rds : List rdT, (∀ r ∈ rds, r ∈ ST) → rds.flatMap rlI = rds := by
  intro rds
  induction rds with
  | nil => intro _; rfl
  | cons r rds ih => intro h; rw [List.flatMap_cons, ST_r r (h r List.mem_cons_self), ih (fun q hq => h q (List.mem_cons_of_mem _ hq))]; rfl
theorem ST_t : ∀ r ∈ ST, (byS (itT r)).length ≤ 20 := by decide +kernel
theorem txt_l {rds : List rdT} {b : Bool} : (∀ r ∈ rds, r ∈ ST) → (byS (txt b rds)).length ≤ 12 + 20 * rds.length := by
  intro h
  unfold txt
  rw [byS_app, byS_its, List.length_append]
  have h1 : (byS (hdT b)).length ≤ 12 := by cases b <;> decide +kernel
  have h2 : ∀ l : List rdT, (∀ r ∈ l, r ∈ ST) → (l.flatMap (fun r => byS (itT r))).length ≤ 20 * l.length := by
    intro l
    induction l with
    | nil => intro _; exact Nat.zero_le _
    | cons r l ih =>
      intro hl
      have q1 := ST_t r (hl r List.mem_cons_self)
      have q2 := ih (fun q hq => hl q (List.mem_cons_of_mem _ hq))
      rw [List.flatMap_cons, List.length_append, List.length_cons]
      omega
  have := h2 rds h
  omega
