/-! ===== the mill is made ===== -/
def W9 (E : cE) (h0 : Nat) (q : Nat) : va_W := [(h0, .inr (7, [iV 0, .ref q])), (q, iA E 1600 (fun _ => 0))]
def W3 (E : cE) (h0 : Nat) (q : Nat) : va_W := [(h0, .inr (1, [.ref q, iV 0])), (q, iA E 1980 (fun _ => 0))]
def W2 (E : cE) (h0 : Nat) (q : Nat) : va_W := [(h0, .inr (0, [.ref q, iV 0])), (q, iA E 25 (fun _ => 0))]
def W6 (E : cE) (h0 : Nat) (q : Nat × Nat) : va_W := [(h0, .inr (4, [.ref q.1, iV 0, iV 0, iV 0, iV 0, iV 0, iV 0, .ref q.2])), (q.1, iA E 25 (fun _ => 0)), (q.2, iA E 25 (fun _ => 0))]
def W5 (E : cE) (h0 : Nat) (q : Nat × Nat × Nat × Nat) : va_W := [(h0, .inr (3, [iV 0, iV (-1), .ref q.1, iV 0])), (q.1, .inr (8, [iV 0, .ref q.2.1, .ref q.2.2.1, .ref q.2.2.2])), (q.2.1, iA E 1601 (fun _ => 0)), (q.2.2.1, iA E 1601 (fun _ => 0)), (q.2.2.2, iA E 1601 (fun _ => 0))]
abbrev uMill : Type := (Nat × (Nat)) × (Nat × (Nat × Nat × Nat × Nat)) × (Nat × (Nat)) × (Nat × (Nat × Nat × Nat × Nat × (Nat → Nat))) × (Nat × (Nat × Nat × Nat × Nat × (Nat → Nat))) × (Nat × (Nat × Nat)) × (Nat × (Nat)) × (Nat × (Nat × Nat × Nat × List (Nat × Nat))) × (Nat × (Nat × Nat × Nat × List (Nat × Nat)))
def wMill (E : cE) (h0 : Nat) (u : uMill) : va_W := (h0, .inr (9, [.ref u.1.1, .ref u.2.1.1, .ref u.2.2.1.1, .ref u.2.2.2.1.1, .ref u.2.2.2.2.1.1, .ref u.2.2.2.2.2.1.1, .ref u.2.2.2.2.2.2.1.1, .ref u.2.2.2.2.2.2.2.1.1, .ref u.2.2.2.2.2.2.2.2.1])) :: ((((((((([] ++ W9 E u.1.1 u.1.2) ++ W5 E u.2.1.1 u.2.1.2) ++ W3 E u.2.2.1.1 u.2.2.1.2) ++ wS8 E u.2.2.2.1.1 u.2.2.2.1.2) ++ wS8 E u.2.2.2.2.1.1 u.2.2.2.2.1.2) ++ W6 E u.2.2.2.2.2.1.1 u.2.2.2.2.2.1.2) ++ W2 E u.2.2.2.2.2.2.1.1 u.2.2.2.2.2.2.1.2) ++ wS4 E u.2.2.2.2.2.2.2.1.1 u.2.2.2.2.2.2.2.1.2) ++ wS4 E u.2.2.2.2.2.2.2.2.1 u.2.2.2.2.2.2.2.2.2)
def vX11_init : List Cond := Cond.code yX11_init cX11_init 1 none :: bG
set_option maxHeartbeats 4000000 in
set_option maxRecDepth 100000 in
theorem kn11 {l : Launch} {D : va_G} {E : cE} : nM l D E yX11_init vX11_init (rmK 3 352 11882) (.inr (9, [.null, .null, .null, .null, .null, .null, .null, .null, .null])) (wMill E) (fun u => u.2.2.2.2.2.2.2.1.2.2.2.2.length = 65 ∧ u.2.2.2.2.2.2.2.2.2.2.2.2.length = 65) 352 11882 := by
  refine n_ofW (own := RX11) (cc := cX11_init) (maxL := 1) (by decide) rfl rfl rfl (by decide) (fun X h0 hl hR hN hD F K => ?_)
  have hR1 : 1 ≤ X.1.2.2.2.frames ∧ 20 ≤ X.1.2.2.2.locals := by rw [hR]; exact ⟨by decide, by decide⟩
  refine q_aload_n F 0 dX11_init_0 rfl rfl ?_
  refine n_objI F hR1 wd31 dX11_init_1 ?_
  refine q_aload_n F 0 dX11_init_4 rfl rfl ?_
  refine n_newO F (ci := 7) rfl ib9 tyX9 tyX9_ok wd34 wd35 wd2 [iV 0, .null] (fun j hj => by rcases (show j = 0 ∨ j = 1 by omega) with rfl | rfl <;> rfl) (by rw [hR]; decide) (by rw [hR]; decide) dX11_init_5 (fun qtp => ?_)
  refine q_dup F dX11_init_8 rfl ?_
  refine n_callN (mc := 1) (ms := 1600) (wf := W9 E) F K.2.2.2.2 (by rw [hl, hD]; exact kn9 (E := E)) rfl K.2.2.2.2.1 wd37 wd2 wd38 ⟨rfl, rfl⟩ (niy _) (rmK_le hR (by decide) (by decide)) (Nat.le_of_ble_eq_true rfl) dX11_init_9 (by rw [hR]; exact ⟨by decide, by decide⟩) (fun utp _ => ?_)
  refine n_putF F K.2.2.2.1 0 rfl (ci := 9) rfl ib11 tyX11 tyX11_ok nmX11 0 (by decide) wd194 rfl rfl (ty := .object "RiddleMill$Tape") rfl rfl rfl (Nat.le_of_ble_eq_true rfl) dX11_init_12 (w' := (h0, .inr (9, [.ref qtp, .null, .null, .null, .null, .null, .null, .null, .null])) :: (([] : va_W) ++ W9 E qtp utp)) rfl ?_
  refine q_aload_n F 0 dX11_init_15 rfl rfl ?_
  refine n_newO F (ci := 3) rfl ib5 tyX5 tyX5_ok wd45 wd46 wd3 [iV 0, iV 0, .null, iV 0] (fun j hj => by rcases (show j = 0 ∨ j = 1 ∨ j = 2 ∨ j = 3 by omega) with rfl | rfl | rfl | rfl <;> rfl) (by rw [hR]; decide) (by rw [hR]; decide) dX11_init_16 (fun qrd => ?_)
  refine q_dup F dX11_init_19 rfl ?_
  refine n_callN (mc := 4) (ms := 4807) (wf := W5 E) F K.2.2.2.2 (by rw [hl, hD]; exact kn5 (E := E)) rfl K.2.2.2.2.2.1 wd48 wd3 wd49 ⟨rfl, rfl⟩ (niy _) (rmK_le hR (by decide) (by decide)) (Nat.le_of_ble_eq_true rfl) dX11_init_20 (by rw [hR]; exact ⟨by decide, by decide⟩) (fun urd _ => ?_)
  refine n_putF F K.2.2.2.1 0 rfl (ci := 9) rfl ib11 tyX11 tyX11_ok nmX11 1 (by decide) wd195 rfl rfl (ty := .object "RiddleMill$PuzzleReader") rfl rfl rfl (Nat.le_of_ble_eq_true rfl) dX11_init_23 (w' := (h0, .inr (9, [.ref qtp, .ref qrd, .null, .null, .null, .null, .null, .null, .null])) :: ((([] : va_W) ++ W9 E qtp utp) ++ W5 E qrd urd)) rfl ?_
  refine q_aload_n F 0 dX11_init_26 rfl rfl ?_
  refine n_newO F (ci := 1) rfl ib3 tyX3 tyX3_ok wd67 wd68 wd5 [.null, iV 0] (fun j hj => by rcases (show j = 0 ∨ j = 1 by omega) with rfl | rfl <;> rfl) (by rw [hR]; decide) (by rw [hR]; decide) dX11_init_27 (fun qpa => ?_)
  refine q_dup F dX11_init_30 rfl ?_
  refine n_callN (mc := 1) (ms := 1980) (wf := W3 E) F K.2.2.2.2 (by rw [hl, hD]; exact kn3 (E := E)) rfl K.2.2.2.2.2.2.2.1 wd70 wd5 wd71 ⟨rfl, rfl⟩ (niy _) (rmK_le hR (by decide) (by decide)) (Nat.le_of_ble_eq_true rfl) dX11_init_31 (by rw [hR]; exact ⟨by decide, by decide⟩) (fun upa _ => ?_)
  refine n_putF F K.2.2.2.1 0 rfl (ci := 9) rfl ib11 tyX11 tyX11_ok nmX11 2 (by decide) wd196 rfl rfl (ty := .object "RiddleMill$Paper") rfl rfl rfl (Nat.le_of_ble_eq_true rfl) dX11_init_34 (w' := (h0, .inr (9, [.ref qtp, .ref qrd, .ref qpa, .null, .null, .null, .null, .null, .null])) :: (((([] : va_W) ++ W9 E qtp utp) ++ W5 E qrd urd) ++ W3 E qpa upa)) rfl ?_
  refine q_aload_n F 0 dX11_init_37 rfl rfl ?_
  refine n_newO F (ci := 6) rfl ib8 tyX8 tyX8_ok wd77 wd78 wd6 [.null, iV 0, iV 0, .null, .null, .null, iV 0, iV 0, iV 0] (fun j hj => by rcases (show j = 0 ∨ j = 1 ∨ j = 2 ∨ j = 3 ∨ j = 4 ∨ j = 5 ∨ j = 6 ∨ j = 7 ∨ j = 8 by omega) with rfl | rfl | rfl | rfl | rfl | rfl | rfl | rfl | rfl <;> rfl) (by rw [hR]; decide) (by rw [hR]; decide) dX11_init_38 (fun qke => ?_)
  refine q_dup F dX11_init_41 rfl ?_
  refine n_callN (mc := 34) (ms := 855) (wf := wS8 E) F K.2.2.2.2 (by rw [hl, hD]; exact kn8 (E := E)) rfl K.2.2.2.2.2.2.2.2.1 wd80 wd6 wd81 ⟨rfl, rfl⟩ (niy _) (rmK_le hR (by decide) (by decide)) (Nat.le_of_ble_eq_true rfl) dX11_init_42 (by rw [hR]; exact ⟨by decide, by decide⟩) (fun uke _ => ?_)
  refine n_putF F K.2.2.2.1 0 rfl (ci := 9) rfl ib11 tyX11 tyX11_ok nmX11 3 (by decide) wd197 rfl rfl (ty := .object "RiddleMill$Search") rfl rfl rfl (Nat.le_of_ble_eq_true rfl) dX11_init_45 (w' := (h0, .inr (9, [.ref qtp, .ref qrd, .ref qpa, .ref qke, .null, .null, .null, .null, .null])) :: ((((([] : va_W) ++ W9 E qtp utp) ++ W5 E qrd urd) ++ W3 E qpa upa) ++ wS8 E qke uke)) rfl ?_
  refine q_aload_n F 0 dX11_init_48 rfl rfl ?_
  refine n_newO F (ci := 6) rfl ib8 tyX8 tyX8_ok wd77 wd78 wd6 [.null, iV 0, iV 0, .null, .null, .null, iV 0, iV 0, iV 0] (fun j hj => by rcases (show j = 0 ∨ j = 1 ∨ j = 2 ∨ j = 3 ∨ j = 4 ∨ j = 5 ∨ j = 6 ∨ j = 7 ∨ j = 8 by omega) with rfl | rfl | rfl | rfl | rfl | rfl | rfl | rfl | rfl <;> rfl) (by rw [hR]; decide) (by rw [hR]; decide) dX11_init_49 (fun qpr => ?_)
  refine q_dup F dX11_init_52 rfl ?_
  refine n_callN (mc := 34) (ms := 855) (wf := wS8 E) F K.2.2.2.2 (by rw [hl, hD]; exact kn8 (E := E)) rfl K.2.2.2.2.2.2.2.2.1 wd80 wd6 wd81 ⟨rfl, rfl⟩ (niy _) (rmK_le hR (by decide) (by decide)) (Nat.le_of_ble_eq_true rfl) dX11_init_53 (by rw [hR]; exact ⟨by decide, by decide⟩) (fun upr _ => ?_)
  refine n_putF F K.2.2.2.1 0 rfl (ci := 9) rfl ib11 tyX11 tyX11_ok nmX11 4 (by decide) wd198 rfl rfl (ty := .object "RiddleMill$Search") rfl rfl rfl (Nat.le_of_ble_eq_true rfl) dX11_init_56 (w' := (h0, .inr (9, [.ref qtp, .ref qrd, .ref qpa, .ref qke, .ref qpr, .null, .null, .null, .null])) :: (((((([] : va_W) ++ W9 E qtp utp) ++ W5 E qrd urd) ++ W3 E qpa upa) ++ wS8 E qke uke) ++ wS8 E qpr upr)) rfl ?_
  refine q_aload_n F 0 dX11_init_59 rfl rfl ?_
  refine n_newO F (ci := 4) rfl ib6 tyX6 tyX6_ok wd98 wd99 wd7 [.null, iV 0, iV 0, iV 0, iV 0, iV 0, iV 0, .null] (fun j hj => by rcases (show j = 0 ∨ j = 1 ∨ j = 2 ∨ j = 3 ∨ j = 4 ∨ j = 5 ∨ j = 6 ∨ j = 7 by omega) with rfl | rfl | rfl | rfl | rfl | rfl | rfl | rfl <;> rfl) (by rw [hR]; decide) (by rw [hR]; decide) dX11_init_60 (fun qre => ?_)
  refine q_dup F dX11_init_63 rfl ?_
  refine n_callN (mc := 2) (ms := 50) (wf := W6 E) F K.2.2.2.2 (by rw [hl, hD]; exact kn6 (E := E)) rfl K.2.2.2.2.2.2.2.2.2.1 wd101 wd7 wd102 ⟨rfl, rfl⟩ (niy _) (rmK_le hR (by decide) (by decide)) (Nat.le_of_ble_eq_true rfl) dX11_init_64 (by rw [hR]; exact ⟨by decide, by decide⟩) (fun ure _ => ?_)
  refine n_putF F K.2.2.2.1 0 rfl (ci := 9) rfl ib11 tyX11 tyX11_ok nmX11 5 (by decide) wd199 rfl rfl (ty := .object "RiddleMill$Reasoner") rfl rfl rfl (Nat.le_of_ble_eq_true rfl) dX11_init_67 (w' := (h0, .inr (9, [.ref qtp, .ref qrd, .ref qpa, .ref qke, .ref qpr, .ref qre, .null, .null, .null])) :: ((((((([] : va_W) ++ W9 E qtp utp) ++ W5 E qrd urd) ++ W3 E qpa upa) ++ wS8 E qke uke) ++ wS8 E qpr upr) ++ W6 E qre ure)) rfl ?_
  refine q_aload_n F 0 dX11_init_70 rfl rfl ?_
  refine n_newO F (ci := 0) rfl ib2 tyX2 tyX2_ok wd119 wd120 wd8 [.null, iV 0] (fun j hj => by rcases (show j = 0 ∨ j = 1 by omega) with rfl | rfl <;> rfl) (by rw [hR]; decide) (by rw [hR]; decide) dX11_init_71 (fun qma => ?_)
  refine q_dup F dX11_init_74 rfl ?_
  refine n_callN (mc := 1) (ms := 25) (wf := W2 E) F K.2.2.2.2 (by rw [hl, hD]; exact kn2 (E := E)) rfl K.2.2.2.2.2.2.2.2.2.2.1 wd122 wd8 wd123 ⟨rfl, rfl⟩ (niy _) (rmK_le hR (by decide) (by decide)) (Nat.le_of_ble_eq_true rfl) dX11_init_75 (by rw [hR]; exact ⟨by decide, by decide⟩) (fun uma _ => ?_)
  refine n_putF F K.2.2.2.1 0 rfl (ci := 9) rfl ib11 tyX11 tyX11_ok nmX11 6 (by decide) wd200 rfl rfl (ty := .object "RiddleMill$Maker") rfl rfl rfl (Nat.le_of_ble_eq_true rfl) dX11_init_78 (w' := (h0, .inr (9, [.ref qtp, .ref qrd, .ref qpa, .ref qke, .ref qpr, .ref qre, .ref qma, .null, .null])) :: (((((((([] : va_W) ++ W9 E qtp utp) ++ W5 E qrd urd) ++ W3 E qpa upa) ++ wS8 E qke uke) ++ wS8 E qpr upr) ++ W6 E qre ure) ++ W2 E qma uma)) rfl ?_
  refine q_aload_n F 0 dX11_init_81 rfl rfl ?_
  refine n_newO F (ci := 2) rfl ib4 tyX4 tyX4_ok wd127 wd128 wd9 [iV 0, iV 0, iV 0, .null, .null, iV 0, .null] (fun j hj => by rcases (show j = 0 ∨ j = 1 ∨ j = 2 ∨ j = 3 ∨ j = 4 ∨ j = 5 ∨ j = 6 by omega) with rfl | rfl | rfl | rfl | rfl | rfl | rfl <;> rfl) (by rw [hR]; decide) (by rw [hR]; decide) dX11_init_82 (fun qpu => ?_)
  refine q_dup F dX11_init_85 rfl ?_
  refine n_callI (mc := 133) (ms := 830) (wf := wS4 E) F K.2.2.2.2 (by rw [hl, hD]; exact kn4 (E := E)) rfl wd129 wd130 wd9 wd131 ⟨rfl, rfl⟩ (niy _) (rmK_le hR (by decide) (by decide)) (Nat.le_of_ble_eq_true rfl) dX11_init_86 (by rw [hR]; exact ⟨by decide, by decide⟩) (fun upu hupu => ?_)
  refine n_put F 0 rfl (ci := 9) rfl ib11 tyX11 tyX11_ok nmX11 7 (by decide) wd201 rfl rfl (ty := .object "RiddleMill$Puzzle") rfl rfl rfl (Nat.le_of_ble_eq_true rfl) dX11_init_89 (w' := (h0, .inr (9, [.ref qtp, .ref qrd, .ref qpa, .ref qke, .ref qpr, .ref qre, .ref qma, .ref qpu, .null])) :: ((((((((([] : va_W) ++ W9 E qtp utp) ++ W5 E qrd urd) ++ W3 E qpa upa) ++ wS8 E qke uke) ++ wS8 E qpr upr) ++ W6 E qre ure) ++ W2 E qma uma) ++ wS4 E qpu upu)) rfl ?_
  refine q_aload_n F 0 dX11_init_92 rfl rfl ?_
  refine n_newO F (ci := 2) rfl ib4 tyX4 tyX4_ok wd127 wd128 wd9 [iV 0, iV 0, iV 0, .null, .null, iV 0, .null] (fun j hj => by rcases (show j = 0 ∨ j = 1 ∨ j = 2 ∨ j = 3 ∨ j = 4 ∨ j = 5 ∨ j = 6 by omega) with rfl | rfl | rfl | rfl | rfl | rfl | rfl <;> rfl) (by rw [hR]; decide) (by rw [hR]; decide) dX11_init_93 (fun qdr => ?_)
  refine q_dup F dX11_init_96 rfl ?_
  refine n_callI (mc := 133) (ms := 830) (wf := wS4 E) F K.2.2.2.2 (by rw [hl, hD]; exact kn4 (E := E)) rfl wd129 wd130 wd9 wd131 ⟨rfl, rfl⟩ (niy _) (rmK_le hR (by decide) (by decide)) (Nat.le_of_ble_eq_true rfl) dX11_init_97 (by rw [hR]; exact ⟨by decide, by decide⟩) (fun udr hudr => ?_)
  refine n_put F 0 rfl (ci := 9) rfl ib11 tyX11 tyX11_ok nmX11 8 (by decide) wd202 rfl rfl (ty := .object "RiddleMill$Puzzle") rfl rfl rfl (Nat.le_of_ble_eq_true rfl) dX11_init_100 (w' := (h0, .inr (9, [.ref qtp, .ref qrd, .ref qpa, .ref qke, .ref qpr, .ref qre, .ref qma, .ref qpu, .ref qdr])) :: (((((((((([] : va_W) ++ W9 E qtp utp) ++ W5 E qrd urd) ++ W3 E qpa upa) ++ wS8 E qke uke) ++ wS8 E qpr upr) ++ W6 E qre ure) ++ W2 E qma uma) ++ wS4 E qpu upu) ++ wS4 E qdr udr)) rfl ?_
  exact n_ret (u := ((qtp, utp), (qrd, urd), (qpa, upa), (qke, uke), (qpr, upr), (qre, ure), (qma, uma), (qpu, upu), (qdr, udr))) F K dX11_init_103 ⟨hupu, hudr⟩
