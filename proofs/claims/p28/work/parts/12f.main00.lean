/-! ===== walks: the law ===== -/
set_option maxHeartbeats 4000000 in
set_option maxRecDepth 100000 in
theorem bL_law_935 {X : xC} {E : cE} (F : mF X E RL cL_law bG) (hC : sC X.2.1.1) (hsc : scL E ≤ 260) {sc : Int → Int} (hs : ∀ k, scF E k = sc k) (hfr : 60 ≤ X.1.2.2.2.frames ∧ 6000 ≤ X.1.2.2.2.locals) (hcs : 600086 ≤ X.1.2.2.2.cells ∧ 7301442 ≤ X.1.2.2.2.slots) (hN : X.2.2.1.2.2.2 = 18) (hfl : X.1.2.1.stackTraces = false) (fin : ∀ (pc : Nat) (lv : List (Nat × Value)) (w : va_W), decode cL_law pc = .ok (.ireturn, 1) → cW X 600086 7301442 pc lv [iV 1] w) {K898 : Int → Int → (Int → Int) → cI → cR → cI → cR → Prop} {K910 : Int → Int → Int → Int → (Int → Int) → cI → cR → cI → cR → Prop} (hK898 : ∀ (x13 : Int) (x15 : Int) (ad : Nat → Nat) (q0 : Nat) (f0 : Int → Int) (I : cI) (R : cR) (Io : cI) (Ro : cR), inR x13 → inR x15 → (∀ x, inR (f0 x)) → cM I R → cM Io Ro → K898 x13 x15 f0 I R Io Ro → cW X (1181) (31402) 898 [(0, .ref (E.2.1 4 3)), (1, .ref (E.1 0)), (12, .ref (ad 0)), (13, iV x13), (14, .ref q0), (15, iV x15)] [] (gw E.1 cIds (cef E (I, R)) ++ ([(q0, iA E 4 f0)] ++ gw ad cIds (cef (ad, E.2) (Io, Ro))))) (hK910 : ∀ (x13 : Int) (x15 : Int) (x16 : Int) (x17 : Int) (ad : Nat → Nat) (q0 : Nat) (f0 : Int → Int) (I : cI) (R : cR) (Io : cI) (Ro : cR), inR x13 → inR x15 → inR x16 → inR x17 → (∀ x, inR (f0 x)) → cM I R → cM Io Ro → K910 x13 x15 x16 x17 f0 I R Io Ro → cW X (1181) (31402) 910 [(0, .ref (E.2.1 4 3)), (1, .ref (E.1 0)), (12, .ref (ad 0)), (13, iV x13), (14, .ref q0), (15, iV x15), (16, iV x16), (17, iV x17)] [] (gw E.1 cIds (cef E (I, R)) ++ ([(q0, iA E 4 f0)] ++ gw ad cIds (cef (ad, E.2) (Io, Ro))))) : ∀ (x13 : Int) (x15 : Int) (x17 : Int) (y0 : Int) (y1 : Int) (ad : Nat → Nat) (q0 : Nat) (f0 : Int → Int) (I : cI) (R : cR) (Io : cI) (Ro : cR), inR x13 → inR x15 → inR x17 → inR y0 → inR y1 → (∀ x, inR (f0 x)) → cM I R → cM Io Ro → wL_law_935 sc K898 K910 x13 x15 x17 y0 y1 f0 I R Io Ro → cW X (1181) (31402) 935 [(0, .ref (E.2.1 4 3)), (1, .ref (E.1 0)), (12, .ref (ad 0)), (13, iV x13), (14, .ref q0), (15, iV x15), (17, iV x17)] [iV y1, iV y0] (gw E.1 cIds (cef E (I, R)) ++ ([(q0, iA E 4 f0)] ++ gw ad cIds (cef (ad, E.2) (Io, Ro)))) := by
  intro x13 x15 x17 y0 y1 ad q0 f0 I R Io Ro hx13 hx15 hx17 hy0 hy1 hf0 hm hmo hw
  unfold wL_law_935 at hw
  have hsi : ∀ k, inR (sc k) := fun k => by rw [← hs]; exact scF_in
  have F2 : mF X (ad, E.2) RL cL_law bG := F
  refine q_aload F 4 dL_law_935 rfl ?_
  refine q_iload F 6 dL_law_937 rfl ?_
  obtain ⟨k1, hw⟩ := hw
  refine g_tald F 0 rfl k1 (by decide) dL_law_939 ?_
  refine q_iload F 5 dL_law_940 rfl ?_
  refine q_icmp_ne F (hf0 _) hx15 949 dL_law_942 (by decide) (fun hc => ?_) (fun hc => ?_)
  · have hw := hw.1 hc
    refine q_iconst F dL_law_949 ?_
    refine q_isub F dL_law_950 ?_
    refine q_iadd F dL_law_951 ?_
    obtain ⟨k2, hw⟩ := hw
    obtain ⟨z3, e4⟩ := ex1 ((y0 + (y1 - 0)))
    have hw := hw z3 e4
    have hz3 : inR z3 := by rw [e4]; exact k2
    refine q_top e4 ?_
    refine q_istore (lv' := [(0, .ref (E.2.1 4 3)), (1, .ref (E.1 0)), (12, .ref (ad 0)), (13, iV x13), (14, .ref q0), (15, iV x15), (16, iV z3), (17, iV x17)]) F [1, 2, 3, 4, 5, 6, 0, 7] dL_law_952 (q_n hN (by decide)) rfl ?_
    obtain ⟨k7, hw⟩ := hw
    obtain ⟨z5, e6⟩ := ex1 (x17 + 1)
    have hw := hw z5 e6
    have hz5 : inR z5 := by rw [e6]; exact k7
    refine q_iinc (lv' := [(0, .ref (E.2.1 4 3)), (1, .ref (E.1 0)), (12, .ref (ad 0)), (13, iV x13), (14, .ref q0), (15, iV x15), (16, iV z3), (17, iV z5)]) F 7 [1, 2, 3, 4, 5, 6, 7, 0] dL_law_954 rfl (q_n hN (by decide)) e6.symm rfl ?_
    refine q_goto F 910 dL_law_957 (by decide) ?_
    exact hK910 x13 x15 z3 z5 ad q0 f0 I R Io Ro hx13 hx15 hz3 hz5 hf0 hm hmo hw
  · have hw := hw.2 hc
    refine q_iconst F dL_law_945 ?_
    refine q_goto F 950 dL_law_946 (by decide) ?_
    refine q_isub F dL_law_950 ?_
    refine q_iadd F dL_law_951 ?_
    obtain ⟨k8, hw⟩ := hw
    obtain ⟨z9, e10⟩ := ex1 ((y0 + (y1 - 1)))
    have hw := hw z9 e10
    have hz9 : inR z9 := by rw [e10]; exact k8
    refine q_top e10 ?_
    refine q_istore (lv' := [(0, .ref (E.2.1 4 3)), (1, .ref (E.1 0)), (12, .ref (ad 0)), (13, iV x13), (14, .ref q0), (15, iV x15), (16, iV z9), (17, iV x17)]) F [1, 2, 3, 4, 5, 6, 0, 7] dL_law_952 (q_n hN (by decide)) rfl ?_
    obtain ⟨k13, hw⟩ := hw
    obtain ⟨z11, e12⟩ := ex1 (x17 + 1)
    have hw := hw z11 e12
    have hz11 : inR z11 := by rw [e12]; exact k13
    refine q_iinc (lv' := [(0, .ref (E.2.1 4 3)), (1, .ref (E.1 0)), (12, .ref (ad 0)), (13, iV x13), (14, .ref q0), (15, iV x15), (16, iV z9), (17, iV z11)]) F 7 [1, 2, 3, 4, 5, 6, 7, 0] dL_law_954 rfl (q_n hN (by decide)) e12.symm rfl ?_
    refine q_goto F 910 dL_law_957 (by decide) ?_
    exact hK910 x13 x15 z9 z11 ad q0 f0 I R Io Ro hx13 hx15 hz9 hz11 hf0 hm hmo hw
set_option maxHeartbeats 4000000 in
set_option maxRecDepth 100000 in
theorem bL_law_910 {X : xC} {E : cE} (F : mF X E RL cL_law bG) (hC : sC X.2.1.1) (hsc : scL E ≤ 260) {sc : Int → Int} (hs : ∀ k, scF E k = sc k) (hfr : 60 ≤ X.1.2.2.2.frames ∧ 6000 ≤ X.1.2.2.2.locals) (hcs : 600086 ≤ X.1.2.2.2.cells ∧ 7301442 ≤ X.1.2.2.2.slots) (hN : X.2.2.1.2.2.2 = 18) (hfl : X.1.2.1.stackTraces = false) (fin : ∀ (pc : Nat) (lv : List (Nat × Value)) (w : va_W), decode cL_law pc = .ok (.ireturn, 1) → cW X 600086 7301442 pc lv [iV 1] w) {K898 : Int → Int → (Int → Int) → cI → cR → cI → cR → Prop} (hK898 : ∀ (x13 : Int) (x15 : Int) (ad : Nat → Nat) (q0 : Nat) (f0 : Int → Int) (I : cI) (R : cR) (Io : cI) (Ro : cR), inR x13 → inR x15 → (∀ x, inR (f0 x)) → cM I R → cM Io Ro → K898 x13 x15 f0 I R Io Ro → cW X (1181) (31402) 898 [(0, .ref (E.2.1 4 3)), (1, .ref (E.1 0)), (12, .ref (ad 0)), (13, iV x13), (14, .ref q0), (15, iV x15)] [] (gw E.1 cIds (cef E (I, R)) ++ ([(q0, iA E 4 f0)] ++ gw ad cIds (cef (ad, E.2) (Io, Ro))))) : ∀ n910 : Nat, ∀ (x13 : Int) (x15 : Int) (x16 : Int) (x17 : Int) (ad : Nat → Nat) (q0 : Nat) (f0 : Int → Int) (I : cI) (R : cR) (Io : cI) (Ro : cR), inR x13 → inR x15 → inR x16 → inR x17 → (∀ x, inR (f0 x)) → cM I R → cM Io Ro → wL_law_910 sc K898 n910 x13 x15 x16 x17 f0 I R Io Ro → cW X (1181) (31402) 910 [(0, .ref (E.2.1 4 3)), (1, .ref (E.1 0)), (12, .ref (ad 0)), (13, iV x13), (14, .ref q0), (15, iV x15), (16, iV x16), (17, iV x17)] [] (gw E.1 cIds (cef E (I, R)) ++ ([(q0, iA E 4 f0)] ++ gw ad cIds (cef (ad, E.2) (Io, Ro)))) := by
  intro n910
  induction n910 with
  | zero => intro x13 x15 x16 x17 ad q0 f0 I R Io Ro hx13 hx15 hx16 hx17 hf0 hm hmo hw; exact hw.elim
  | succ n910 ih =>
    intro x13 x15 x16 x17 ad q0 f0 I R Io Ro hx13 hx15 hx16 hx17 hf0 hm hmo hw
    change wbL_law_910 sc K898 (wL_law_910 sc K898 n910) x13 x15 x16 x17 f0 I R Io Ro at hw
    unfold wbL_law_910 at hw
    have hsi : ∀ k, inR (sc k) := fun k => by rw [← hs]; exact scF_in
    have F2 : mF X (ad, E.2) RL cL_law bG := F
    refine q_iload F 7 dL_law_910 rfl ?_
    refine q_iconst F dL_law_912 ?_
    refine q_icmp_ge F hx17 (⟨by decide, by decide⟩ : inR (4)) 960 dL_law_913 (by decide) (fun hc => ?_) (fun hc => ?_)
    · have hw := hw.1 hc
      refine q_iload F 6 dL_law_960 rfl ?_
      refine q_if_eq F hx16 967 dL_law_962 (by decide) (fun hc => ?_) (fun hc => ?_)
      · have hw := hw.1 hc
        obtain ⟨k3, hw⟩ := hw
        obtain ⟨z1, e2⟩ := ex1 (x15 + 1)
        have hw := hw z1 e2
        have hz1 : inR z1 := by rw [e2]; exact k3
        refine q_iinc (lv' := [(0, .ref (E.2.1 4 3)), (1, .ref (E.1 0)), (12, .ref (ad 0)), (13, iV x13), (14, .ref q0), (15, iV z1), (16, iV x16), (17, iV x17)]) F 5 [1, 2, 3, 4, 5, 0, 6, 7] dL_law_967 rfl (q_n hN (by decide)) e2.symm rfl ?_
        refine q_goto F 898 dL_law_970 (by decide) ?_
        refine q_lv [0, 1, 2, 3, 4, 5] rfl ?_
        exact hK898 x13 z1 ad q0 f0 I R Io Ro hx13 hz1 hf0 hm hmo hw
      · have hw := hw.2 hc
        refine q_iconst F dL_law_965 ?_
        exact hw.elim
    · have hw := hw.2 hc
      refine q_iload F 6 dL_law_916 rfl ?_
      refine q_aload_n F 1 dL_law_918 rfl rfl ?_
      refine q_iconst F dL_law_919 ?_
      refine q_iload F 7 dL_law_920 rfl ?_
      refine q_Vit F (kcX11_solution hfl 0 (Or.inr (fun _ _ _ h => h)) hm (⟨by decide, by decide⟩ : inR (0)) hx17 hw) (cIds_in (show ckd 0 = 9 ∧ 0 < 353 by decide).2) (ceMill (show ckd 0 = 9 ∧ 0 < 353 by decide).1) (ci := 9) rfl (bV wd625 wd626 wd627 wd1 wd628) rfl ⟨rfl, rfl⟩ ydX11_solution (rm_c hfr (by decide) (by decide)) (av := [iV 0, iV x17]) rfl rfl (Nat.le_of_ble_eq_true rfl) dL_law_922 ⟨by omega, by omega⟩ (fun r4 I5 R6 h7 m8 hw => ?_)
      refine q_iload F 5 dL_law_925 rfl ?_
      refine q_icmp_ne F h7 hx15 934 dL_law_927 (by decide) (fun hc => ?_) (fun hc => ?_)
      · have hw := hw.1 hc
        refine q_iconst F dL_law_934 ?_
        refine q_lv [0, 1, 2, 3, 4, 5, 7] rfl ?_
        exact bL_law_935 F hC hsc hs hfr hcs hN hfl fin hK898 ih x13 x15 x17 x16 0 ad q0 f0 I5 R6 Io Ro hx13 hx15 hx17 hx16 (⟨by decide, by decide⟩ : inR (0)) hf0 m8 hmo hw
      · have hw := hw.2 hc
        refine q_iconst F dL_law_930 ?_
        refine q_goto F 935 dL_law_931 (by decide) ?_
        refine q_lv [0, 1, 2, 3, 4, 5, 7] rfl ?_
        exact bL_law_935 F hC hsc hs hfr hcs hN hfl fin hK898 ih x13 x15 x17 x16 1 ad q0 f0 I5 R6 Io Ro hx13 hx15 hx17 hx16 (⟨by decide, by decide⟩ : inR (1)) hf0 m8 hmo hw
set_option maxHeartbeats 4000000 in
set_option maxRecDepth 100000 in
theorem bL_law_898 {X : xC} {E : cE} (F : mF X E RL cL_law bG) (hC : sC X.2.1.1) (hsc : scL E ≤ 260) {sc : Int → Int} (hs : ∀ k, scF E k = sc k) (hfr : 60 ≤ X.1.2.2.2.frames ∧ 6000 ≤ X.1.2.2.2.locals) (hcs : 600086 ≤ X.1.2.2.2.cells ∧ 7301442 ≤ X.1.2.2.2.slots) (hN : X.2.2.1.2.2.2 = 18) (hfl : X.1.2.1.stackTraces = false) (fin : ∀ (pc : Nat) (lv : List (Nat × Value)) (w : va_W), decode cL_law pc = .ok (.ireturn, 1) → cW X 600086 7301442 pc lv [iV 1] w) : ∀ n898 : Nat, ∀ (x13 : Int) (x15 : Int) (ad : Nat → Nat) (q0 : Nat) (f0 : Int → Int) (I : cI) (R : cR) (Io : cI) (Ro : cR), inR x13 → inR x15 → (∀ x, inR (f0 x)) → cM I R → cM Io Ro → wL_law_898 sc n898 x13 x15 f0 I R Io Ro → cW X (1181) (31402) 898 [(0, .ref (E.2.1 4 3)), (1, .ref (E.1 0)), (12, .ref (ad 0)), (13, iV x13), (14, .ref q0), (15, iV x15)] [] (gw E.1 cIds (cef E (I, R)) ++ ([(q0, iA E 4 f0)] ++ gw ad cIds (cef (ad, E.2) (Io, Ro)))) := by
  intro n898
  induction n898 with
  | zero => intro x13 x15 ad q0 f0 I R Io Ro hx13 hx15 hf0 hm hmo hw; exact hw.elim
  | succ n898 ih =>
    intro x13 x15 ad q0 f0 I R Io Ro hx13 hx15 hf0 hm hmo hw
    change wbL_law_898 sc (wL_law_898 sc n898) x13 x15 f0 I R Io Ro at hw
    unfold wbL_law_898 at hw
    have hsi : ∀ k, inR (sc k) := fun k => by rw [← hs]; exact scF_in
    have F2 : mF X (ad, E.2) RL cL_law bG := F
    refine q_iload F 5 dL_law_898 rfl ?_
    refine q_iconst F dL_law_900 ?_
    refine q_icmp_gt F hx15 (⟨by decide, by decide⟩ : inR (4)) 973 dL_law_901 (by decide) (fun hc => ?_) (fun hc => ?_)
    · have hw := hw.1 hc
      refine q_aload F 2 dL_law_973 rfl ?_
      refine q_aload_n F 0 dL_law_975 rfl rfl ?_
      refine q_bipush F dL_law_976 (by decide) ?_
      refine q_cS F (kL_cell (by decide) (by decide) hsc) (bS wd787 wd788 wd0 wd789) rfl ⟨rfl, rfl⟩ ydL_cell.2 (rm_c hfr (by decide) (by decide)) (av := [.ref (E.2.1 4 3), iV 12]) rfl rfl (Nat.le_of_ble_eq_true rfl) dL_law_978 ⟨by omega, by omega⟩ (fun v u hp => ?_)
      rw [hs] at hp
      subst hp
      refine q_ldc F (n := 65536) (show Cond.constant RL 140 (Int32.ofInt 65536) ∈ bG by rw [show Int32.ofInt 65536 = 65536 by decide]; exact wd829) dL_law_981 ?_
      refine q_cS F (kL_below (hsi _) (⟨by decide, by decide⟩ : inR (65536)) (by decide)) (bS wd783 wd784 wd0 wd785) rfl ⟨rfl, rfl⟩ ydL_below.2 (rm_c hfr (by decide) (by decide)) (av := [iV ((sc 12)), iV 65536]) rfl rfl (Nat.le_of_ble_eq_true rfl) dL_law_983 ⟨by omega, by omega⟩ (fun v u hp => ?_)
      subst hp
      refine q_ofO ?_
      refine q_Vit (E := (ad, E.2)) F2 (kcX11_make hfl 0 (Or.inr (fun _ _ _ h => h)) hmo (blw_in (by decide) (⟨by decide, by decide⟩ : inR (65536))) hw) (cIds_in (show ckd 0 = 9 ∧ 0 < 353 by decide).2) (ceMill (show ckd 0 = 9 ∧ 0 < 353 by decide).1) (ci := 9) rfl (bV wd708 wd709 wd710 wd1 wd711) rfl ⟨rfl, rfl⟩ ydX11_make (rm_c hfr (by decide) (by decide)) (av := [iV ((blw ((sc 12)) 65536))]) rfl rfl (Nat.le_of_ble_eq_true rfl) dL_law_986 ⟨by omega, by omega⟩ (fun r1 I2 R3 h4 m5 hw => ?_)
      refine q_toO ?_
      change cW X _ _ _ _ _ (gw E.1 cIds (cef E (I, R)) ++ ([(q0, iA E 4 f0)] ++ gw ad cIds (cef (ad, E.2) (I2, R3))))
      refine q_iload F 3 dL_law_989 rfl ?_
      refine q_icmp_ne F h4 hx13 998 dL_law_991 (by decide) (fun hc => ?_) (fun hc => ?_)
      · have hw := hw.1 hc
        refine q_iconst F dL_law_998 ?_
        exact hw.elim
      · have hw := hw.2 hc
        refine q_iconst F dL_law_994 ?_
        refine q_goto F 999 dL_law_995 (by decide) ?_
        refine q_wide (nc' := 600086) (ns' := 7301442) (by omega) (by omega) ?_
        exact fin _ _ _ dL_law_999
    · have hw := hw.2 hc
      refine q_iconst F dL_law_904 ?_
      refine q_istore (lv' := [(0, .ref (E.2.1 4 3)), (1, .ref (E.1 0)), (12, .ref (ad 0)), (13, iV x13), (14, .ref q0), (15, iV x15), (16, iV 0)]) F [1, 2, 3, 4, 5, 6, 0] dL_law_905 (q_n hN (by decide)) rfl ?_
      refine q_iconst F dL_law_907 ?_
      refine q_istore (lv' := [(0, .ref (E.2.1 4 3)), (1, .ref (E.1 0)), (12, .ref (ad 0)), (13, iV x13), (14, .ref q0), (15, iV x15), (16, iV 0), (17, iV 0)]) F [1, 2, 3, 4, 5, 6, 7, 0] dL_law_908 (q_n hN (by decide)) rfl ?_
      obtain ⟨n6, hw⟩ := hw
      exact bL_law_910 F hC hsc hs hfr hcs hN hfl fin ih n6 x13 x15 0 0 ad q0 f0 I R Io Ro hx13 hx15 (⟨by decide, by decide⟩ : inR (0)) (⟨by decide, by decide⟩ : inR (0)) hf0 hm hmo hw
set_option maxHeartbeats 4000000 in
set_option maxRecDepth 100000 in
theorem bL_law_842 {X : xC} {E : cE} (F : mF X E RL cL_law bG) (hC : sC X.2.1.1) (hsc : scL E ≤ 260) {sc : Int → Int} (hs : ∀ k, scF E k = sc k) (hfr : 60 ≤ X.1.2.2.2.frames ∧ 6000 ≤ X.1.2.2.2.locals) (hcs : 600086 ≤ X.1.2.2.2.cells ∧ 7301442 ≤ X.1.2.2.2.slots) (hN : X.2.2.1.2.2.2 = 18) (hfl : X.1.2.1.stackTraces = false) (fin : ∀ (pc : Nat) (lv : List (Nat × Value)) (w : va_W), decode cL_law pc = .ok (.ireturn, 1) → cW X 600086 7301442 pc lv [iV 1] w) : ∀ n842 : Nat, ∀ (x13 : Int) (x15 : Int) (ad : Nat → Nat) (q0 : Nat) (f0 : Int → Int) (I : cI) (R : cR) (Io : cI) (Ro : cR), inR x13 → inR x15 → (∀ x, inR (f0 x)) → cM I R → cM Io Ro → wL_law_842 sc n842 x13 x15 f0 I R Io Ro → cW X (1181) (31402) 842 [(0, .ref (E.2.1 4 3)), (1, .ref (E.1 0)), (12, .ref (ad 0)), (13, iV x13), (14, .ref q0), (15, iV x15)] [] (gw E.1 cIds (cef E (I, R)) ++ ([(q0, iA E 4 f0)] ++ gw ad cIds (cef (ad, E.2) (Io, Ro)))) := by
  intro n842
  induction n842 with
  | zero => intro x13 x15 ad q0 f0 I R Io Ro hx13 hx15 hf0 hm hmo hw; exact hw.elim
  | succ n842 ih =>
    intro x13 x15 ad q0 f0 I R Io Ro hx13 hx15 hf0 hm hmo hw
    change wbL_law_842 sc (wL_law_842 sc n842) x13 x15 f0 I R Io Ro at hw
    unfold wbL_law_842 at hw
    have hsi : ∀ k, inR (sc k) := fun k => by rw [← hs]; exact scF_in
    have F2 : mF X (ad, E.2) RL cL_law bG := F
    refine q_iload F 5 dL_law_842 rfl ?_
    refine q_iconst F dL_law_844 ?_
    refine q_icmp_ge F hx15 (⟨by decide, by decide⟩ : inR (4)) 866 dL_law_845 (by decide) (fun hc => ?_) (fun hc => ?_)
    · have hw := hw.1 hc
      refine q_aload_n F 1 dL_law_866 rfl rfl ?_
      refine q_aload_n F 0 dL_law_867 rfl rfl ?_
      refine q_bipush F dL_law_868 (by decide) ?_
      refine q_cS F (kL_cell (by decide) (by decide) hsc) (bS wd787 wd788 wd0 wd789) rfl ⟨rfl, rfl⟩ ydL_cell.2 (rm_c hfr (by decide) (by decide)) (av := [.ref (E.2.1 4 3), iV 13]) rfl rfl (Nat.le_of_ble_eq_true rfl) dL_law_870 ⟨by omega, by omega⟩ (fun v u hp => ?_)
      rw [hs] at hp
      subst hp
      refine q_iconst F dL_law_873 ?_
      refine q_cS F (kL_below (hsi _) (⟨by decide, by decide⟩ : inR (2)) (by decide)) (bS wd783 wd784 wd0 wd785) rfl ⟨rfl, rfl⟩ ydL_below.2 (rm_c hfr (by decide) (by decide)) (av := [iV ((sc 13)), iV 2]) rfl rfl (Nat.le_of_ble_eq_true rfl) dL_law_874 ⟨by omega, by omega⟩ (fun v u hp => ?_)
      subst hp
      refine q_Vit F (kcX11_change hfl 0 (Or.inr (fun _ _ _ h => h)) hm (blw_in (by decide) (⟨by decide, by decide⟩ : inR (2))) hw) (cIds_in (show ckd 0 = 9 ∧ 0 < 353 by decide).2) (ceMill (show ckd 0 = 9 ∧ 0 < 353 by decide).1) (ci := 9) rfl (bV wd757 wd758 wd759 wd1 wd760) rfl ⟨rfl, rfl⟩ ydX11_change (rm_c hfr (by decide) (by decide)) (av := [iV ((blw ((sc 13)) 2))]) rfl rfl (Nat.le_of_ble_eq_true rfl) dL_law_877 ⟨by omega, by omega⟩ (fun r1 I2 R3 h4 m5 hw => ?_)
      refine q_iconst F dL_law_880 ?_
      refine q_icmp_ne F h4 (⟨by decide, by decide⟩ : inR (4)) 893 dL_law_881 (by decide) (fun hc => ?_) (fun hc => ?_)
      · have hw := hw.1 hc
        refine q_iconst F dL_law_893 ?_
        exact hw.elim
      · have hw := hw.2 hc
        refine q_aload_n F 1 dL_law_884 rfl rfl ?_
        refine q_iconst F dL_law_885 ?_
        refine q_Vit F (kcX11_search hfl 0 (Or.inr (fun _ _ _ h => h)) m5 (⟨by decide, by decide⟩ : inR (2)) hw) (cIds_in (show ckd 0 = 9 ∧ 0 < 353 by decide).2) (ceMill (show ckd 0 = 9 ∧ 0 < 353 by decide).1) (ci := 9) rfl (bV wd595 wd596 wd597 wd1 wd598) rfl ⟨rfl, rfl⟩ ydX11_search (rm_c hfr (by decide) (by decide)) (av := [iV 2]) rfl rfl (Nat.le_of_ble_eq_true rfl) dL_law_886 ⟨by omega, by omega⟩ (fun r6 I7 R8 h9 m10 hw => ?_)
        refine q_iconst F dL_law_889 ?_
        refine q_icmp_eq F h9 (⟨by decide, by decide⟩ : inR (1)) 895 dL_law_890 (by decide) (fun hc => ?_) (fun hc => ?_)
        · have hw := hw.1 hc
          refine q_iconst F dL_law_895 ?_
          refine q_istore (lv' := [(0, .ref (E.2.1 4 3)), (1, .ref (E.1 0)), (12, .ref (ad 0)), (13, iV x13), (14, .ref q0), (15, iV 1)]) F [1, 2, 3, 4, 5, 0] dL_law_896 (q_n hN (by decide)) rfl ?_
          obtain ⟨n11, hw⟩ := hw
          exact bL_law_898 F hC hsc hs hfr hcs hN hfl fin n11 x13 1 ad q0 f0 I7 R8 Io Ro hx13 (⟨by decide, by decide⟩ : inR (1)) hf0 m10 hmo hw
        · have hw := hw.2 hc
          refine q_iconst F dL_law_893 ?_
          exact hw.elim
    · have hw := hw.2 hc
      refine q_aload F 4 dL_law_848 rfl ?_
      refine q_iload F 5 dL_law_850 rfl ?_
      refine q_aload_n F 1 dL_law_852 rfl rfl ?_
      refine q_iconst F dL_law_853 ?_
      refine q_iload F 5 dL_law_854 rfl ?_
      refine q_Vit F (kcX11_solution hfl 0 (Or.inr (fun _ _ _ h => h)) hm (⟨by decide, by decide⟩ : inR (0)) hx15 hw) (cIds_in (show ckd 0 = 9 ∧ 0 < 353 by decide).2) (ceMill (show ckd 0 = 9 ∧ 0 < 353 by decide).1) (ci := 9) rfl (bV wd625 wd626 wd627 wd1 wd628) rfl ⟨rfl, rfl⟩ ydX11_solution (rm_c hfr (by decide) (by decide)) (av := [iV 0, iV x15]) rfl rfl (Nat.le_of_ble_eq_true rfl) dL_law_856 ⟨by omega, by omega⟩ (fun r12 I13 R14 h15 m16 hw => ?_)
      obtain ⟨k17, hw⟩ := hw
      obtain ⟨f18, e19⟩ := ex1 (upF f0 x15 r12)
      have hw := hw f18 e19
      have gf18 : ∀ x, inR (f18 x) := upF_in hf0 e19 h15
      refine g_tast F 0 rfl k17 (by decide) (T' := ([(q0, iA E 4 f18)] ++ gw ad cIds (cef (ad, E.2) (Io, Ro)))) (by rw [e19]; rfl) dL_law_859 ?_
      obtain ⟨k22, hw⟩ := hw
      obtain ⟨z20, e21⟩ := ex1 (x15 + 1)
      have hw := hw z20 e21
      have hz20 : inR z20 := by rw [e21]; exact k22
      refine q_iinc (lv' := [(0, .ref (E.2.1 4 3)), (1, .ref (E.1 0)), (12, .ref (ad 0)), (13, iV x13), (14, .ref q0), (15, iV z20)]) F 5 [1, 2, 3, 4, 5, 0] dL_law_860 rfl (q_n hN (by decide)) e21.symm rfl ?_
      refine q_goto F 842 dL_law_863 (by decide) ?_
      exact ih x13 z20 ad q0 f18 I13 R14 Io Ro hx13 hz20 gf18 m16 hmo hw
set_option maxHeartbeats 4000000 in
set_option maxRecDepth 100000 in
theorem bL_law_724 {X : xC} {E : cE} (F : mF X E RL cL_law bG) (hC : sC X.2.1.1) (hsc : scL E ≤ 260) {sc : Int → Int} (hs : ∀ k, scF E k = sc k) (hfr : 60 ≤ X.1.2.2.2.frames ∧ 6000 ≤ X.1.2.2.2.locals) (hcs : 600086 ≤ X.1.2.2.2.cells ∧ 7301442 ≤ X.1.2.2.2.slots) (hN : X.2.2.1.2.2.2 = 18) (hfl : X.1.2.1.stackTraces = false) (fin : ∀ (pc : Nat) (lv : List (Nat × Value)) (w : va_W), decode cL_law pc = .ok (.ireturn, 1) → cW X 600086 7301442 pc lv [iV 1] w) {K711 : Int → cI → cR → cI → cR → Prop} (hK711 : ∀ (x13 : Int) (ad : Nat → Nat) (I : cI) (R : cR) (Io : cI) (Ro : cR), inR x13 → cM I R → cM Io Ro → K711 x13 I R Io Ro → cW X (1180) (31398) 711 [(0, .ref (E.2.1 4 3)), (1, .ref (E.1 0)), (12, .ref (ad 0)), (13, iV x13)] [] (gw E.1 cIds (cef E (I, R)) ++ ([] ++ gw ad cIds (cef (ad, E.2) (Io, Ro))))) : ∀ n724 : Nat, ∀ (x13 : Int) (x14 : Int) (ad : Nat → Nat) (I : cI) (R : cR) (Io : cI) (Ro : cR), inR x13 → inR x14 → cM I R → cM Io Ro → wL_law_724 sc K711 n724 x13 x14 I R Io Ro → cW X (1180) (31398) 724 [(0, .ref (E.2.1 4 3)), (1, .ref (E.1 0)), (12, .ref (ad 0)), (13, iV x13), (14, iV x14)] [] (gw E.1 cIds (cef E (I, R)) ++ ([] ++ gw ad cIds (cef (ad, E.2) (Io, Ro)))) := by
  intro n724
  induction n724 with
  | zero => intro x13 x14 ad I R Io Ro hx13 hx14 hm hmo hw; exact hw.elim
  | succ n724 ih =>
    intro x13 x14 ad I R Io Ro hx13 hx14 hm hmo hw
    change wbL_law_724 sc K711 (wL_law_724 sc K711 n724) x13 x14 I R Io Ro at hw
    unfold wbL_law_724 at hw
    have hsi : ∀ k, inR (sc k) := fun k => by rw [← hs]; exact scF_in
    have F2 : mF X (ad, E.2) RL cL_law bG := F
    refine q_iload F 4 dL_law_724 rfl ?_
    refine q_bipush F dL_law_726 (by decide) ?_
    refine q_icmp_ge F hx14 (⟨by decide, by decide⟩ : inR (9)) 759 dL_law_728 (by decide) (fun hc => ?_) (fun hc => ?_)
    · have hw := hw.1 hc
      obtain ⟨k3, hw⟩ := hw
      obtain ⟨z1, e2⟩ := ex1 (x13 + 1)
      have hw := hw z1 e2
      have hz1 : inR z1 := by rw [e2]; exact k3
      refine q_iinc (lv' := [(0, .ref (E.2.1 4 3)), (1, .ref (E.1 0)), (12, .ref (ad 0)), (13, iV z1), (14, iV x14)]) F 3 [1, 2, 3, 0, 4] dL_law_759 rfl (q_n hN (by decide)) e2.symm rfl ?_
      refine q_goto F 711 dL_law_762 (by decide) ?_
      refine q_lv [0, 1, 2, 3] rfl ?_
      exact hK711 z1 ad I R Io Ro hz1 hm hmo hw
    · have hw := hw.2 hc
      refine q_aload_n F 1 dL_law_731 rfl rfl ?_
      refine q_iload F 3 dL_law_732 rfl ?_
      refine q_iload F 4 dL_law_734 rfl ?_
      refine q_Vit F (kcX11_rule hfl 0 (Or.inr (fun _ _ _ h => h)) hm hx13 hx14 hw) (cIds_in (show ckd 0 = 9 ∧ 0 < 353 by decide).2) (ceMill (show ckd 0 = 9 ∧ 0 < 353 by decide).1) (ci := 9) rfl (bV wd503 wd504 wd505 wd1 wd506) rfl ⟨rfl, rfl⟩ ydX11_rule (rm_c hfr (by decide) (by decide)) (av := [iV x13, iV x14]) rfl rfl (Nat.le_of_ble_eq_true rfl) dL_law_736 ⟨by omega, by omega⟩ (fun r4 I5 R6 h7 m8 hw => ?_)
      refine q_aload F 2 dL_law_739 rfl ?_
      refine q_iload F 3 dL_law_741 rfl ?_
      refine q_iload F 4 dL_law_743 rfl ?_
      refine q_ofO ?_
      refine q_Vit (E := (ad, E.2)) F2 (kcX11_rule hfl 0 (Or.inr (fun _ _ _ h => h)) hmo hx13 hx14 hw) (cIds_in (show ckd 0 = 9 ∧ 0 < 353 by decide).2) (ceMill (show ckd 0 = 9 ∧ 0 < 353 by decide).1) (ci := 9) rfl (bV wd503 wd504 wd505 wd1 wd506) rfl ⟨rfl, rfl⟩ ydX11_rule (rm_c hfr (by decide) (by decide)) (av := [iV x13, iV x14]) rfl rfl (Nat.le_of_ble_eq_true rfl) dL_law_745 ⟨by omega, by omega⟩ (fun r9 I10 R11 h12 m13 hw => ?_)
      refine q_toO ?_
      change cW X _ _ _ _ _ (gw E.1 cIds (cef E (I5, R6)) ++ ([] ++ gw ad cIds (cef (ad, E.2) (I10, R11))))
      refine q_icmp_eq F h7 h12 753 dL_law_748 (by decide) (fun hc => ?_) (fun hc => ?_)
      · have hw := hw.1 hc
        obtain ⟨k16, hw⟩ := hw
        obtain ⟨z14, e15⟩ := ex1 (x14 + 1)
        have hw := hw z14 e15
        have hz14 : inR z14 := by rw [e15]; exact k16
        refine q_iinc (lv' := [(0, .ref (E.2.1 4 3)), (1, .ref (E.1 0)), (12, .ref (ad 0)), (13, iV x13), (14, iV z14)]) F 4 [1, 2, 3, 4, 0] dL_law_753 rfl (q_n hN (by decide)) e15.symm rfl ?_
        refine q_goto F 724 dL_law_756 (by decide) ?_
        exact ih x13 z14 ad I5 R6 I10 R11 hx13 hz14 m8 m13 hw
      · have hw := hw.2 hc
        refine q_iconst F dL_law_751 ?_
        exact hw.elim
set_option maxHeartbeats 4000000 in
set_option maxRecDepth 100000 in
theorem bL_law_711 {X : xC} {E : cE} (F : mF X E RL cL_law bG) (hC : sC X.2.1.1) (hsc : scL E ≤ 260) {sc : Int → Int} (hs : ∀ k, scF E k = sc k) (hfr : 60 ≤ X.1.2.2.2.frames ∧ 6000 ≤ X.1.2.2.2.locals) (hcs : 600086 ≤ X.1.2.2.2.cells ∧ 7301442 ≤ X.1.2.2.2.slots) (hN : X.2.2.1.2.2.2 = 18) (hfl : X.1.2.1.stackTraces = false) (fin : ∀ (pc : Nat) (lv : List (Nat × Value)) (w : va_W), decode cL_law pc = .ok (.ireturn, 1) → cW X 600086 7301442 pc lv [iV 1] w) : ∀ n711 : Nat, ∀ (x13 : Int) (ad : Nat → Nat) (I : cI) (R : cR) (Io : cI) (Ro : cR), inR x13 → cM I R → cM Io Ro → wL_law_711 sc n711 x13 I R Io Ro → cW X (1180) (31398) 711 [(0, .ref (E.2.1 4 3)), (1, .ref (E.1 0)), (12, .ref (ad 0)), (13, iV x13)] [] (gw E.1 cIds (cef E (I, R)) ++ ([] ++ gw ad cIds (cef (ad, E.2) (Io, Ro)))) := by
  intro n711
  induction n711 with
  | zero => intro x13 ad I R Io Ro hx13 hm hmo hw; exact hw.elim
  | succ n711 ih =>
    intro x13 ad I R Io Ro hx13 hm hmo hw
    change wbL_law_711 sc (wL_law_711 sc n711) x13 I R Io Ro at hw
    unfold wbL_law_711 at hw
    have hsi : ∀ k, inR (sc k) := fun k => by rw [← hs]; exact scF_in
    have F2 : mF X (ad, E.2) RL cL_law bG := F
    refine q_iload F 3 dL_law_711 rfl ?_
    refine q_aload_n F 1 dL_law_713 rfl rfl ?_
    refine q_iconst F dL_law_714 ?_
    refine q_Vit F (kcX11_count hfl 0 (Or.inr (fun _ _ _ h => h)) hm (⟨by decide, by decide⟩ : inR (3)) hw) (cIds_in (show ckd 0 = 9 ∧ 0 < 353 by decide).2) (ceMill (show ckd 0 = 9 ∧ 0 < 353 by decide).1) (ci := 9) rfl (bV wd408 wd409 wd410 wd1 wd411) rfl ⟨rfl, rfl⟩ ydX11_count (rm_c hfr (by decide) (by decide)) (av := [iV 3]) rfl rfl (Nat.le_of_ble_eq_true rfl) dL_law_715 ⟨by omega, by omega⟩ (fun r1 I2 R3 h4 m5 hw => ?_)
    refine q_icmp_ge F hx13 h4 765 dL_law_718 (by decide) (fun hc => ?_) (fun hc => ?_)
    · have hw := hw.1 hc
      refine q_aload_n F 1 dL_law_765 rfl rfl ?_
      refine q_aload_n F 0 dL_law_766 rfl rfl ?_
      refine q_bipush F dL_law_767 (by decide) ?_
      refine q_cS F (kL_cell (by decide) (by decide) hsc) (bS wd787 wd788 wd0 wd789) rfl ⟨rfl, rfl⟩ ydL_cell.2 (rm_c hfr (by decide) (by decide)) (av := [.ref (E.2.1 4 3), iV 12]) rfl rfl (Nat.le_of_ble_eq_true rfl) dL_law_769 ⟨by omega, by omega⟩ (fun v u hp => ?_)
      rw [hs] at hp
      subst hp
      refine q_ldc F (n := 65536) (show Cond.constant RL 140 (Int32.ofInt 65536) ∈ bG by rw [show Int32.ofInt 65536 = 65536 by decide]; exact wd829) dL_law_772 ?_
      refine q_cS F (kL_below (hsi _) (⟨by decide, by decide⟩ : inR (65536)) (by decide)) (bS wd783 wd784 wd0 wd785) rfl ⟨rfl, rfl⟩ ydL_below.2 (rm_c hfr (by decide) (by decide)) (av := [iV ((sc 12)), iV 65536]) rfl rfl (Nat.le_of_ble_eq_true rfl) dL_law_774 ⟨by omega, by omega⟩ (fun v u hp => ?_)
      subst hp
      refine q_Vit F (kcX11_make hfl 0 (Or.inr (fun _ _ _ h => h)) m5 (blw_in (by decide) (⟨by decide, by decide⟩ : inR (65536))) hw) (cIds_in (show ckd 0 = 9 ∧ 0 < 353 by decide).2) (ceMill (show ckd 0 = 9 ∧ 0 < 353 by decide).1) (ci := 9) rfl (bV wd708 wd709 wd710 wd1 wd711) rfl ⟨rfl, rfl⟩ ydX11_make (rm_c hfr (by decide) (by decide)) (av := [iV ((blw ((sc 12)) 65536))]) rfl rfl (Nat.le_of_ble_eq_true rfl) dL_law_777 ⟨by omega, by omega⟩ (fun r6 I7 R8 h9 m10 hw => ?_)
      refine q_istore (lv' := [(0, .ref (E.2.1 4 3)), (1, .ref (E.1 0)), (12, .ref (ad 0)), (13, iV r6)]) F [1, 2, 3, 0] dL_law_780 (q_n hN (by decide)) rfl ?_
      refine q_iload F 3 dL_law_782 rfl ?_
      refine q_if_ge F h9 807 dL_law_784 (by decide) (fun hc => ?_) (fun hc => ?_)
      · have hw := hw.1 hc
        refine q_aload_n F 1 dL_law_807 rfl rfl ?_
        refine q_iconst F dL_law_808 ?_
        refine q_Vit F (kcX11_search hfl 0 (Or.inr (fun _ _ _ h => h)) m10 (⟨by decide, by decide⟩ : inR (2)) hw) (cIds_in (show ckd 0 = 9 ∧ 0 < 353 by decide).2) (ceMill (show ckd 0 = 9 ∧ 0 < 353 by decide).1) (ci := 9) rfl (bV wd595 wd596 wd597 wd1 wd598) rfl ⟨rfl, rfl⟩ ydX11_search (rm_c hfr (by decide) (by decide)) (av := [iV 2]) rfl rfl (Nat.le_of_ble_eq_true rfl) dL_law_809 ⟨by omega, by omega⟩ (fun r11 I12 R13 h14 m15 hw => ?_)
        refine q_iconst F dL_law_812 ?_
        refine q_icmp_ne F h14 (⟨by decide, by decide⟩ : inR (1)) 832 dL_law_813 (by decide) (fun hc => ?_) (fun hc => ?_)
        · have hw := hw.1 hc
          refine q_iconst F dL_law_832 ?_
          exact hw.elim
        · have hw := hw.2 hc
          refine q_aload_n F 1 dL_law_816 rfl rfl ?_
          refine q_iconst F dL_law_817 ?_
          refine q_Vit F (kcX11_count hfl 0 (Or.inr (fun _ _ _ h => h)) m15 (⟨by decide, by decide⟩ : inR (4)) hw) (cIds_in (show ckd 0 = 9 ∧ 0 < 353 by decide).2) (ceMill (show ckd 0 = 9 ∧ 0 < 353 by decide).1) (ci := 9) rfl (bV wd408 wd409 wd410 wd1 wd411) rfl ⟨rfl, rfl⟩ ydX11_count (rm_c hfr (by decide) (by decide)) (av := [iV 4]) rfl rfl (Nat.le_of_ble_eq_true rfl) dL_law_818 ⟨by omega, by omega⟩ (fun r16 I17 R18 h19 m20 hw => ?_)
          refine q_iload F 3 dL_law_821 rfl ?_
          refine q_icmp_ne F h19 h9 832 dL_law_823 (by decide) (fun hc => ?_) (fun hc => ?_)
          · have hw := hw.1 hc
            refine q_iconst F dL_law_832 ?_
            exact hw.elim
          · have hw := hw.2 hc
            refine q_iload F 3 dL_law_826 rfl ?_
            refine q_iconst F dL_law_828 ?_
            refine q_icmp_le F h9 (⟨by decide, by decide⟩ : inR (4)) 834 dL_law_829 (by decide) (fun hc => ?_) (fun hc => ?_)
            · have hw := hw.1 hc
              refine q_iconst F dL_law_834 ?_
              obtain ⟨f22, e23⟩ := ex1 (fun _ : Int => (0 : Int))
              have hw := hw f22 e23
              have gf22 : ∀ x, inR (f22 x) := by rw [e23]; exact fun _ => ti_0
              refine q_tnewP F wd44 4 rfl (by decide) (by omega) (by omega) dL_law_835 (fun q21 => ?_)
              rw [← e23]
              refine q_astore (lv' := [(0, .ref (E.2.1 4 3)), (1, .ref (E.1 0)), (12, .ref (ad 0)), (13, iV r6), (14, .ref q21)]) F [1, 2, 3, 4, 0] dL_law_837 (q_n hN (by decide)) rfl ?_
              refine q_iconst F dL_law_839 ?_
              refine q_istore (lv' := [(0, .ref (E.2.1 4 3)), (1, .ref (E.1 0)), (12, .ref (ad 0)), (13, iV r6), (14, .ref q21), (15, iV 0)]) F [1, 2, 3, 4, 5, 0] dL_law_840 (q_n hN (by decide)) rfl ?_
              obtain ⟨n24, hw⟩ := hw
              exact bL_law_842 F hC hsc hs hfr hcs hN hfl fin n24 r6 0 ad q21 f22 I17 R18 Io Ro h9 (⟨by decide, by decide⟩ : inR (0)) gf22 m20 hmo hw
            · have hw := hw.2 hc
              refine q_iconst F dL_law_832 ?_
              exact hw.elim
      · have hw := hw.2 hc
        refine q_aload_n F 1 dL_law_787 rfl rfl ?_
        refine q_iconst F dL_law_788 ?_
        refine q_Vit F (kcX11_count hfl 0 (Or.inr (fun _ _ _ h => h)) m10 (⟨by decide, by decide⟩ : inR (3)) hw) (cIds_in (show ckd 0 = 9 ∧ 0 < 353 by decide).2) (ceMill (show ckd 0 = 9 ∧ 0 < 353 by decide).1) (ci := 9) rfl (bV wd408 wd409 wd410 wd1 wd411) rfl ⟨rfl, rfl⟩ ydX11_count (rm_c hfr (by decide) (by decide)) (av := [iV 3]) rfl rfl (Nat.le_of_ble_eq_true rfl) dL_law_789 ⟨by omega, by omega⟩ (fun r25 I26 R27 h28 m29 hw => ?_)
        refine q_aload F 2 dL_law_792 rfl ?_
        refine q_iconst F dL_law_794 ?_
        refine q_ofO ?_
        refine q_Vit (E := (ad, E.2)) F2 (kcX11_count hfl 0 (Or.inr (fun _ _ _ h => h)) hmo (⟨by decide, by decide⟩ : inR (3)) hw) (cIds_in (show ckd 0 = 9 ∧ 0 < 353 by decide).2) (ceMill (show ckd 0 = 9 ∧ 0 < 353 by decide).1) (ci := 9) rfl (bV wd408 wd409 wd410 wd1 wd411) rfl ⟨rfl, rfl⟩ ydX11_count (rm_c hfr (by decide) (by decide)) (av := [iV 3]) rfl rfl (Nat.le_of_ble_eq_true rfl) dL_law_795 ⟨by omega, by omega⟩ (fun r30 I31 R32 h33 m34 hw => ?_)
        refine q_toO ?_
        change cW X _ _ _ _ _ (gw E.1 cIds (cef E (I26, R27)) ++ ([] ++ gw ad cIds (cef (ad, E.2) (I31, R32))))
        refine q_icmp_ne F h28 h33 805 dL_law_798 (by decide) (fun hc => ?_) (fun hc => ?_)
        · have hw := hw.1 hc
          refine q_iconst F dL_law_805 ?_
          exact hw.elim
        · have hw := hw.2 hc
          refine q_iconst F dL_law_801 ?_
          refine q_goto F 806 dL_law_802 (by decide) ?_
          refine q_wide (nc' := 600086) (ns' := 7301442) (by omega) (by omega) ?_
          exact fin _ _ _ dL_law_806
    · have hw := hw.2 hc
      refine q_iconst F dL_law_721 ?_
      refine q_istore (lv' := [(0, .ref (E.2.1 4 3)), (1, .ref (E.1 0)), (12, .ref (ad 0)), (13, iV x13), (14, iV 0)]) F [1, 2, 3, 4, 0] dL_law_722 (q_n hN (by decide)) rfl ?_
      obtain ⟨n35, hw⟩ := hw
      exact bL_law_724 F hC hsc hs hfr hcs hN hfl fin ih n35 x13 0 ad I2 R3 Io Ro hx13 (⟨by decide, by decide⟩ : inR (0)) m5 hmo hw
set_option maxHeartbeats 4000000 in
set_option maxRecDepth 100000 in
theorem bL_law_629 {X : xC} {E : cE} (F : mF X E RL cL_law bG) (hC : sC X.2.1.1) (hsc : scL E ≤ 260) {sc : Int → Int} (hs : ∀ k, scF E k = sc k) (hfr : 60 ≤ X.1.2.2.2.frames ∧ 6000 ≤ X.1.2.2.2.locals) (hcs : 600086 ≤ X.1.2.2.2.cells ∧ 7301442 ≤ X.1.2.2.2.slots) (hN : X.2.2.1.2.2.2 = 18) (hfl : X.1.2.1.stackTraces = false) (fin : ∀ (pc : Nat) (lv : List (Nat × Value)) (w : va_W), decode cL_law pc = .ok (.ireturn, 1) → cW X 600086 7301442 pc lv [iV 1] w) : ∀ n629 : Nat, ∀ (x10 : Int) (x12 : Int) (q0 : Nat) (f0 : Int → Int) (I : cI) (R : cR), inR x10 → inR x12 → (∀ x, inR (f0 x)) → cM I R → wL_law_629 sc n629 x10 x12 f0 I R → cW X (777) (19257) 629 [(0, .ref (E.2.1 4 3)), (1, .ref (E.1 0)), (10, iV x10), (11, .ref q0), (12, iV x12)] [] (gw E.1 cIds (cef E (I, R)) ++ [(q0, iA E (Int.toNat ((x10 + 1))) f0)]) := by
  intro n629
  induction n629 with
  | zero => intro x10 x12 q0 f0 I R hx10 hx12 hf0 hm hw; exact hw.elim
  | succ n629 ih =>
    intro x10 x12 q0 f0 I R hx10 hx12 hf0 hm hw
    change wbL_law_629 sc (wL_law_629 sc n629) x10 x12 f0 I R at hw
    unfold wbL_law_629 at hw
    have hsi : ∀ k, inR (sc k) := fun k => by rw [← hs]; exact scF_in
    refine q_iload F 4 dL_law_629 rfl ?_
    refine q_iload F 2 dL_law_631 rfl ?_
    refine q_icmp_ge F hx12 hx10 655 dL_law_633 (by decide) (fun hc => ?_) (fun hc => ?_)
    · have hw := hw.1 hc
      refine n_mill F hC hfr (by omega) (by omega) (Nat.le_of_ble_eq_true rfl) dL_law_655 dL_law_658 dL_law_659 (fun ad => ?_)
      refine q_asc ?_
      have F2 : mF X (ad, E.2) RL cL_law bG := F
      refine q_astore (lv' := [(0, .ref (E.2.1 4 3)), (1, .ref (E.1 0)), (10, iV x10), (11, .ref q0), (12, .ref (ad 0))]) F [1, 2, 3, 4, 0] dL_law_662 (q_n hN (by decide)) rfl ?_
      refine q_aload F 4 dL_law_664 rfl ?_
      refine q_aload F 3 dL_law_666 rfl ?_
      obtain ⟨k7, hw⟩ := hw
      refine q_ofP ?_
      refine q_cAZ (E := (ad, E.2)) F2 cM_00 (kcL_lay hfl (by omega) cM_00 hf0 hw) (by rw [adP_1]; rfl) (bS wd796 wd797 wd0 wd798) rfl ⟨rfl, rfl⟩ ydL_lay (rm_c hfr (by decide) (by decide)) (av := [.ref (ad 0), .ref q0]) rfl rfl (Nat.le_of_ble_eq_true rfl) dL_law_668 ⟨by omega, by omega⟩ (fun r2 Io5 Ro6 f1 h3 m4 gf1 hw => ?_)
      refine q_toP ?_
      change cW X _ _ _ _ _ (gw E.1 cIds (cef E (I, R)) ++ ([(q0, iA E (Int.toNat ((x10 + 1))) f1)] ++ gw ad cIds (cef (ad, E.2) (Io5, Ro6))))
      refine q_if_eq F h3 706 dL_law_671 (by decide) (fun hc => ?_) (fun hc => ?_)
      · have hw := hw.1 hc
        refine q_iconst F dL_law_706 ?_
        exact hw.elim
      · have hw := hw.2 hc
        refine q_aload F 4 dL_law_674 rfl ?_
        refine q_ofO ?_
        refine q_Vi (E := (ad, E.2)) F2 (kcX11_compile m4 hw) (cIds_in (show ckd 0 = 9 ∧ 0 < 353 by decide).2) (ceMill (show ckd 0 = 9 ∧ 0 < 353 by decide).1) (ci := 9) rfl (bV wd203 wd204 wd205 wd1 wd206) rfl ⟨rfl, rfl⟩ ydX11_compile (rm_c hfr (by decide) (by decide)) (av := []) rfl rfl (Nat.le_of_ble_eq_true rfl) dL_law_676 ⟨by omega, by omega⟩ (fun r8 I9 R10 h11 m12 hw => ?_)
        refine q_toO ?_
        change cW X _ _ _ _ _ (gw E.1 cIds (cef E (I, R)) ++ ([(q0, iA E (Int.toNat ((x10 + 1))) f1)] ++ gw ad cIds (cef (ad, E.2) (I9, R10))))
        refine q_if_ne F h11 706 dL_law_679 (by decide) (fun hc => ?_) (fun hc => ?_)
        · have hw := hw.1 hc
          refine q_iconst F dL_law_706 ?_
          exact hw.elim
        · have hw := hw.2 hc
          refine q_aload F 4 dL_law_682 rfl ?_
          refine q_iconst F dL_law_684 ?_
          refine q_ofO ?_
          refine q_Vit (E := (ad, E.2)) F2 (kcX11_count hfl 0 (Or.inr (fun _ _ _ h => h)) m12 (⟨by decide, by decide⟩ : inR (3)) hw) (cIds_in (show ckd 0 = 9 ∧ 0 < 353 by decide).2) (ceMill (show ckd 0 = 9 ∧ 0 < 353 by decide).1) (ci := 9) rfl (bV wd408 wd409 wd410 wd1 wd411) rfl ⟨rfl, rfl⟩ ydX11_count (rm_c hfr (by decide) (by decide)) (av := [iV 3]) rfl rfl (Nat.le_of_ble_eq_true rfl) dL_law_685 ⟨by omega, by omega⟩ (fun r13 I14 R15 h16 m17 hw => ?_)
          refine q_toO ?_
          change cW X _ _ _ _ _ (gw E.1 cIds (cef E (I, R)) ++ ([(q0, iA E (Int.toNat ((x10 + 1))) f1)] ++ gw ad cIds (cef (ad, E.2) (I14, R15))))
          refine q_aload_n F 1 dL_law_688 rfl rfl ?_
          refine q_iconst F dL_law_689 ?_
          refine q_Vit F (kcX11_count hfl 0 (Or.inr (fun _ _ _ h => h)) hm (⟨by decide, by decide⟩ : inR (3)) hw) (cIds_in (show ckd 0 = 9 ∧ 0 < 353 by decide).2) (ceMill (show ckd 0 = 9 ∧ 0 < 353 by decide).1) (ci := 9) rfl (bV wd408 wd409 wd410 wd1 wd411) rfl ⟨rfl, rfl⟩ ydX11_count (rm_c hfr (by decide) (by decide)) (av := [iV 3]) rfl rfl (Nat.le_of_ble_eq_true rfl) dL_law_690 ⟨by omega, by omega⟩ (fun r18 I19 R20 h21 m22 hw => ?_)
          refine q_icmp_ne F h16 h21 706 dL_law_693 (by decide) (fun hc => ?_) (fun hc => ?_)
          · have hw := hw.1 hc
            refine q_iconst F dL_law_706 ?_
            exact hw.elim
          · have hw := hw.2 hc
            refine q_aload F 4 dL_law_696 rfl ?_
            refine q_ofO ?_
            refine q_Vit (E := (ad, E.2)) F2 (kcX11_write hfl 0 (Or.inr (fun _ _ _ h => h)) m17 hw) (cIds_in (show ckd 0 = 9 ∧ 0 < 353 by decide).2) (ceMill (show ckd 0 = 9 ∧ 0 < 353 by decide).1) (ci := 9) rfl (bV wd525 wd526 wd527 wd1 wd528) rfl ⟨rfl, rfl⟩ ydX11_write (rm_c hfr (by decide) (by decide)) (av := []) rfl rfl (Nat.le_of_ble_eq_true rfl) dL_law_698 ⟨by omega, by omega⟩ (fun r23 I24 R25 h26 m27 hw => ?_)
            refine q_toO ?_
            change cW X _ _ _ _ _ (gw E.1 cIds (cef E (I19, R20)) ++ ([(q0, iA E (Int.toNat ((x10 + 1))) f1)] ++ gw ad cIds (cef (ad, E.2) (I24, R25))))
            refine q_iload F 2 dL_law_701 rfl ?_
            refine q_icmp_eq F h26 hx10 708 dL_law_703 (by decide) (fun hc => ?_) (fun hc => ?_)
            · have hw := hw.1 hc
              refine q_iconst F dL_law_708 ?_
              refine q_istore (lv' := [(0, .ref (E.2.1 4 3)), (1, .ref (E.1 0)), (10, iV x10), (11, .ref q0), (12, .ref (ad 0)), (13, iV 0)]) F [1, 2, 3, 4, 5, 0] dL_law_709 (q_n hN (by decide)) rfl ?_
              refine q_less (w' := gw E.1 cIds (cef E (I19, R20)) ++ ([] ++ gw ad cIds (cef (ad, E.2) (I24, R25)))) (List.Sublist.append (List.Sublist.refl _) (List.Sublist.append (List.nil_sublist _) (List.Sublist.refl _))) ?_
              refine q_lv [0, 1, 4, 5] rfl ?_
              obtain ⟨n28, hw⟩ := hw
              exact bL_law_711 F hC hsc hs hfr hcs hN hfl fin n28 0 ad I19 R20 I24 R25 (⟨by decide, by decide⟩ : inR (0)) m22 m27 hw
            · have hw := hw.2 hc
              refine q_iconst F dL_law_706 ?_
              exact hw.elim
    · have hw := hw.2 hc
      refine q_aload F 3 dL_law_636 rfl ?_
      refine q_iconst F dL_law_638 ?_
      refine q_iload F 4 dL_law_639 rfl ?_
      refine q_iadd F dL_law_641 ?_
      refine q_aload_n F 1 dL_law_642 rfl rfl ?_
      refine q_iload F 4 dL_law_643 rfl ?_
      refine q_Vit F (kcX11_byteAt hfl 0 (Or.inr (fun _ _ _ h => h)) hm hx12 hw) (cIds_in (show ckd 0 = 9 ∧ 0 < 353 by decide).2) (ceMill (show ckd 0 = 9 ∧ 0 < 353 by decide).1) (ci := 9) rfl (bV wd568 wd569 wd570 wd1 wd571) rfl ⟨rfl, rfl⟩ ydX11_byteAt (rm_c hfr (by decide) (by decide)) (av := [iV x12]) rfl rfl (Nat.le_of_ble_eq_true rfl) dL_law_645 ⟨by omega, by omega⟩ (fun r29 I30 R31 h32 m33 hw => ?_)
      obtain ⟨⟨k34, k35⟩, hw⟩ := hw
      obtain ⟨f36, e37⟩ := ex1 (upF f0 ((1 + x12)) r29)
      have hw := hw f36 e37
      have gf36 : ∀ x, inR (f36 x) := upF_in hf0 e37 h32
      refine g_tast F 0 rfl k34 (by omega) (T' := [(q0, iA E (Int.toNat ((x10 + 1))) f36)]) (by rw [e37]; rfl) dL_law_648 ?_
      obtain ⟨k40, hw⟩ := hw
      obtain ⟨z38, e39⟩ := ex1 (x12 + 1)
      have hw := hw z38 e39
      have hz38 : inR z38 := by rw [e39]; exact k40
      refine q_iinc (lv' := [(0, .ref (E.2.1 4 3)), (1, .ref (E.1 0)), (10, iV x10), (11, .ref q0), (12, iV z38)]) F 4 [1, 2, 3, 4, 0] dL_law_649 rfl (q_n hN (by decide)) e39.symm rfl ?_
      refine q_goto F 629 dL_law_652 (by decide) ?_
      exact ih x10 z38 q0 f36 I30 R31 hx10 hz38 gf36 m33 hw
set_option maxHeartbeats 4000000 in
set_option maxRecDepth 100000 in
theorem bL_law_606 {X : xC} {E : cE} (F : mF X E RL cL_law bG) (hC : sC X.2.1.1) (hsc : scL E ≤ 260) {sc : Int → Int} (hs : ∀ k, scF E k = sc k) (hfr : 60 ≤ X.1.2.2.2.frames ∧ 6000 ≤ X.1.2.2.2.locals) (hcs : 600086 ≤ X.1.2.2.2.cells ∧ 7301442 ≤ X.1.2.2.2.slots) (hN : X.2.2.1.2.2.2 = 18) (hfl : X.1.2.1.stackTraces = false) (fin : ∀ (pc : Nat) (lv : List (Nat × Value)) (w : va_W), decode cL_law pc = .ok (.ireturn, 1) → cW X 600086 7301442 pc lv [iV 1] w) : ∀ (I : cI) (R : cR), cM I R → wL_law_606 sc I R → cW X (776) (17257) 606 [(0, .ref (E.2.1 4 3)), (1, .ref (E.1 0))] [] (gw E.1 cIds (cef E (I, R)) ++ []) := by
  intro I R hm hw
  unfold wL_law_606 at hw
  have hsi : ∀ k, inR (sc k) := fun k => by rw [← hs]; exact scF_in
  refine q_aload_n F 1 dL_law_606 rfl rfl ?_
  refine q_Vit F (kcX11_write hfl 0 (Or.inr (fun _ _ _ h => h)) hm hw) (cIds_in (show ckd 0 = 9 ∧ 0 < 353 by decide).2) (ceMill (show ckd 0 = 9 ∧ 0 < 353 by decide).1) (ci := 9) rfl (bV wd525 wd526 wd527 wd1 wd528) rfl ⟨rfl, rfl⟩ ydX11_write (rm_c hfr (by decide) (by decide)) (av := []) rfl rfl (Nat.le_of_ble_eq_true rfl) dL_law_607 ⟨by omega, by omega⟩ (fun r1 I2 R3 h4 m5 hw => ?_)
  refine q_istore (lv' := [(0, .ref (E.2.1 4 3)), (1, .ref (E.1 0)), (10, iV r1)]) F [1, 2, 0] dL_law_610 (q_n hN (by decide)) rfl ?_
  refine q_iload F 2 dL_law_612 rfl ?_
  refine q_iconst F dL_law_614 ?_
  refine q_iadd F dL_law_615 ?_
  obtain ⟨k9, hw⟩ := hw
  obtain ⟨f7, e8⟩ := ex1 (fun _ : Int => (0 : Int))
  have hw := hw f7 e8
  have gf7 : ∀ x, inR (f7 x) := by rw [e8]; exact fun _ => ti_0
  refine g_tnew F wd44 (Int.toNat ((r1 + 1))) (by omega) (by omega) (by omega) (by omega) dL_law_616 (T' := fun q6 => [(q6, iA E (Int.toNat ((r1 + 1))) f7)]) (fun q6 => by rw [e8]; rfl) (fun q6 => ?_)
  refine q_wide (nc' := 777) (ns' := 19257) (by omega) (by omega) ?_
  refine q_astore (lv' := [(0, .ref (E.2.1 4 3)), (1, .ref (E.1 0)), (10, iV r1), (11, .ref q6)]) F [1, 2, 3, 0] dL_law_618 (q_n hN (by decide)) rfl ?_
  refine q_aload F 3 dL_law_620 rfl ?_
  refine q_iconst F dL_law_622 ?_
  refine q_iload F 2 dL_law_623 rfl ?_
  obtain ⟨⟨k10, k11⟩, hw⟩ := hw
  obtain ⟨f12, e13⟩ := ex1 (upF f7 0 r1)
  have hw := hw f12 e13
  have gf12 : ∀ x, inR (f12 x) := upF_in gf7 e13 h4
  refine g_tast F 0 rfl k10 (by omega) (T' := [(q6, iA E (Int.toNat ((r1 + 1))) f12)]) (by rw [e13]; rfl) dL_law_625 ?_
  refine q_iconst F dL_law_626 ?_
  refine q_istore (lv' := [(0, .ref (E.2.1 4 3)), (1, .ref (E.1 0)), (10, iV r1), (11, .ref q6), (12, iV 0)]) F [1, 2, 3, 4, 0] dL_law_627 (q_n hN (by decide)) rfl ?_
  obtain ⟨n14, hw⟩ := hw
  exact bL_law_629 F hC hsc hs hfr hcs hN hfl fin n14 r1 0 q6 f12 I2 R3 h4 (⟨by decide, by decide⟩ : inR (0)) gf12 m5 hw
set_option maxHeartbeats 4000000 in
set_option maxRecDepth 100000 in
theorem bL_law_517 {X : xC} {E : cE} (F : mF X E RL cL_law bG) (hC : sC X.2.1.1) (hsc : scL E ≤ 260) {sc : Int → Int} (hs : ∀ k, scF E k = sc k) (hfr : 60 ≤ X.1.2.2.2.frames ∧ 6000 ≤ X.1.2.2.2.locals) (hcs : 600086 ≤ X.1.2.2.2.cells ∧ 7301442 ≤ X.1.2.2.2.slots) (hN : X.2.2.1.2.2.2 = 18) (hfl : X.1.2.1.stackTraces = false) (fin : ∀ (pc : Nat) (lv : List (Nat × Value)) (w : va_W), decode cL_law pc = .ok (.ireturn, 1) → cW X 600086 7301442 pc lv [iV 1] w) {K507 : Int → Int → cI → cR → Prop} (hK507 : ∀ (x4 : Int) (x10 : Int) (I : cI) (R : cR), inR x4 → inR x10 → cM I R → K507 x4 x10 I R → cW X (776) (17257) 507 [(0, .ref (E.2.1 4 3)), (1, .ref (E.1 0)), (4, iV x4), (10, iV x10)] [] (gw E.1 cIds (cef E (I, R)) ++ [])) : ∀ n517 : Nat, ∀ (x4 : Int) (x10 : Int) (x11 : Int) (I : cI) (R : cR), inR x4 → inR x10 → inR x11 → cM I R → wL_law_517 sc K507 n517 x4 x10 x11 I R → cW X (776) (17257) 517 [(0, .ref (E.2.1 4 3)), (1, .ref (E.1 0)), (4, iV x4), (10, iV x10), (11, iV x11)] [] (gw E.1 cIds (cef E (I, R)) ++ []) := by
  intro n517
  induction n517 with
  | zero => intro x4 x10 x11 I R hx4 hx10 hx11 hm hw; exact hw.elim
  | succ n517 ih =>
    intro x4 x10 x11 I R hx4 hx10 hx11 hm hw
    change wbL_law_517 sc K507 (wL_law_517 sc K507 n517) x4 x10 x11 I R at hw
    unfold wbL_law_517 at hw
    have hsi : ∀ k, inR (sc k) := fun k => by rw [← hs]; exact scF_in
    refine q_iload F 4 dL_law_517 rfl ?_
    refine q_iconst F dL_law_519 ?_
    refine q_icmp_ge F hx11 (⟨by decide, by decide⟩ : inR (4)) 553 dL_law_520 (by decide) (fun hc => ?_) (fun hc => ?_)
    · have hw := hw.1 hc
      obtain ⟨k3, hw⟩ := hw
      obtain ⟨z1, e2⟩ := ex1 (x10 + 1)
      have hw := hw z1 e2
      have hz1 : inR z1 := by rw [e2]; exact k3
      refine q_iinc (lv' := [(0, .ref (E.2.1 4 3)), (1, .ref (E.1 0)), (4, iV x4), (10, iV z1), (11, iV x11)]) F 3 [1, 2, 3, 0, 4] dL_law_553 rfl (q_n hN (by decide)) e2.symm rfl ?_
      refine q_goto F 507 dL_law_556 (by decide) ?_
      refine q_lv [0, 1, 2, 3] rfl ?_
      exact hK507 x4 z1 I R hx4 hz1 hm hw
    · have hw := hw.2 hc
      refine q_aload_n F 1 dL_law_523 rfl rfl ?_
      refine q_iload F 4 dL_law_524 rfl ?_
      refine q_Vit F (kcX11_possible hfl 0 (Or.inr (fun _ _ _ h => h)) hm hx11 hw) (cIds_in (show ckd 0 = 9 ∧ 0 < 353 by decide).2) (ceMill (show ckd 0 = 9 ∧ 0 < 353 by decide).1) (ci := 9) rfl (bV wd652 wd653 wd654 wd1 wd655) rfl ⟨rfl, rfl⟩ ydX11_possible (rm_c hfr (by decide) (by decide)) (av := [iV x11]) rfl rfl (Nat.le_of_ble_eq_true rfl) dL_law_526 ⟨by omega, by omega⟩ (fun r4 I5 R6 h7 m8 hw => ?_)
      refine q_aload_n F 1 dL_law_529 rfl rfl ?_
      refine q_iload F 3 dL_law_530 rfl ?_
      refine q_iload F 4 dL_law_532 rfl ?_
      refine q_Vit F (kcX11_solution hfl 0 (Or.inr (fun _ _ _ h => h)) m8 hx10 hx11 hw) (cIds_in (show ckd 0 = 9 ∧ 0 < 353 by decide).2) (ceMill (show ckd 0 = 9 ∧ 0 < 353 by decide).1) (ci := 9) rfl (bV wd625 wd626 wd627 wd1 wd628) rfl ⟨rfl, rfl⟩ ydX11_solution (rm_c hfr (by decide) (by decide)) (av := [iV x10, iV x11]) rfl rfl (Nat.le_of_ble_eq_true rfl) dL_law_534 ⟨by omega, by omega⟩ (fun r9 I10 R11 h12 m13 hw => ?_)
      refine q_iconst F dL_law_537 ?_
      refine q_isub F dL_law_538 ?_
      refine q_ishr F dL_law_539 ?_
      refine q_iconst F dL_law_540 ?_
      refine q_iand F dL_law_541 ?_
      refine q_if_ne F (ti_rng _) 547 dL_law_542 (by decide) (fun hc => ?_) (fun hc => ?_)
      · have hw := hw.1 hc
        obtain ⟨k16, hw⟩ := hw
        obtain ⟨z14, e15⟩ := ex1 (x11 + 1)
        have hw := hw z14 e15
        have hz14 : inR z14 := by rw [e15]; exact k16
        refine q_iinc (lv' := [(0, .ref (E.2.1 4 3)), (1, .ref (E.1 0)), (4, iV x4), (10, iV x10), (11, iV z14)]) F 4 [1, 2, 3, 4, 0] dL_law_547 rfl (q_n hN (by decide)) e15.symm rfl ?_
        refine q_goto F 517 dL_law_550 (by decide) ?_
        exact ih x4 x10 z14 I10 R11 hx4 hx10 hz14 m13 hw
      · have hw := hw.2 hc
        refine q_iconst F dL_law_545 ?_
        exact hw.elim
set_option maxHeartbeats 4000000 in
set_option maxRecDepth 100000 in
theorem bL_law_507 {X : xC} {E : cE} (F : mF X E RL cL_law bG) (hC : sC X.2.1.1) (hsc : scL E ≤ 260) {sc : Int → Int} (hs : ∀ k, scF E k = sc k) (hfr : 60 ≤ X.1.2.2.2.frames ∧ 6000 ≤ X.1.2.2.2.locals) (hcs : 600086 ≤ X.1.2.2.2.cells ∧ 7301442 ≤ X.1.2.2.2.slots) (hN : X.2.2.1.2.2.2 = 18) (hfl : X.1.2.1.stackTraces = false) (fin : ∀ (pc : Nat) (lv : List (Nat × Value)) (w : va_W), decode cL_law pc = .ok (.ireturn, 1) → cW X 600086 7301442 pc lv [iV 1] w) : ∀ n507 : Nat, ∀ (x4 : Int) (x10 : Int) (I : cI) (R : cR), inR x4 → inR x10 → cM I R → wL_law_507 sc n507 x4 x10 I R → cW X (776) (17257) 507 [(0, .ref (E.2.1 4 3)), (1, .ref (E.1 0)), (4, iV x4), (10, iV x10)] [] (gw E.1 cIds (cef E (I, R)) ++ []) := by
  intro n507
  induction n507 with
  | zero => intro x4 x10 I R hx4 hx10 hm hw; exact hw.elim
  | succ n507 ih =>
    intro x4 x10 I R hx4 hx10 hm hw
    change wbL_law_507 sc (wL_law_507 sc n507) x4 x10 I R at hw
    unfold wbL_law_507 at hw
    have hsi : ∀ k, inR (sc k) := fun k => by rw [← hs]; exact scF_in
    refine q_iload F 3 dL_law_507 rfl ?_
    refine q_iload F 2 dL_law_509 rfl ?_
    refine q_icmp_ge F hx10 hx4 559 dL_law_511 (by decide) (fun hc => ?_) (fun hc => ?_)
    · have hw := hw.1 hc
      refine q_aload_n F 1 dL_law_559 rfl rfl ?_
      refine q_iconst F dL_law_560 ?_
      refine q_Vit F (kcX11_count hfl 0 (Or.inr (fun _ _ _ h => h)) hm (⟨by decide, by decide⟩ : inR (3)) hw) (cIds_in (show ckd 0 = 9 ∧ 0 < 353 by decide).2) (ceMill (show ckd 0 = 9 ∧ 0 < 353 by decide).1) (ci := 9) rfl (bV wd408 wd409 wd410 wd1 wd411) rfl ⟨rfl, rfl⟩ ydX11_count (rm_c hfr (by decide) (by decide)) (av := [iV 3]) rfl rfl (Nat.le_of_ble_eq_true rfl) dL_law_561 ⟨by omega, by omega⟩ (fun r1 I2 R3 h4 m5 hw => ?_)
      refine q_if_le F h4 606 dL_law_564 (by decide) (fun hc => ?_) (fun hc => ?_)
      · have hw := hw.1 hc
        refine q_lv [0, 1] rfl ?_
        exact bL_law_606 F hC hsc hs hfr hcs hN hfl fin I2 R3 m5 hw
      · have hw := hw.2 hc
        refine q_iload F 2 dL_law_567 rfl ?_
        refine q_bipush F dL_law_569 (by decide) ?_
        refine q_icmp_ge F hx4 (⟨by decide, by decide⟩ : inR (30)) 606 dL_law_571 (by decide) (fun hc => ?_) (fun hc => ?_)
        · have hw := hw.1 hc
          refine q_lv [0, 1] rfl ?_
          exact bL_law_606 F hC hsc hs hfr hcs hN hfl fin I2 R3 m5 hw
        · have hw := hw.2 hc
          refine q_aload_n F 1 dL_law_574 rfl rfl ?_
          refine q_aload_n F 0 dL_law_575 rfl rfl ?_
          refine q_bipush F dL_law_576 (by decide) ?_
          refine q_cS F (kL_cell (by decide) (by decide) hsc) (bS wd787 wd788 wd0 wd789) rfl ⟨rfl, rfl⟩ ydL_cell.2 (rm_c hfr (by decide) (by decide)) (av := [.ref (E.2.1 4 3), iV 11]) rfl rfl (Nat.le_of_ble_eq_true rfl) dL_law_578 ⟨by omega, by omega⟩ (fun v u hp => ?_)
          rw [hs] at hp
          subst hp
          refine q_aload_n F 1 dL_law_581 rfl rfl ?_
          refine q_iconst F dL_law_582 ?_
          refine q_Vit F (kcX11_count hfl 0 (Or.inr (fun _ _ _ h => h)) m5 (⟨by decide, by decide⟩ : inR (3)) hw) (cIds_in (show ckd 0 = 9 ∧ 0 < 353 by decide).2) (ceMill (show ckd 0 = 9 ∧ 0 < 353 by decide).1) (ci := 9) rfl (bV wd408 wd409 wd410 wd1 wd411) rfl ⟨rfl, rfl⟩ ydX11_count (rm_c hfr (by decide) (by decide)) (av := [iV 3]) rfl rfl (Nat.le_of_ble_eq_true rfl) dL_law_583 ⟨by omega, by omega⟩ (fun r6 I7 R8 h9 m10 hw => ?_)
          obtain ⟨k11, hw⟩ := hw
          refine q_cS F (kL_below (hsi _) h9 k11) (bS wd783 wd784 wd0 wd785) rfl ⟨rfl, rfl⟩ ydL_below.2 (rm_c hfr (by decide) (by decide)) (av := [iV ((sc 11)), iV r6]) rfl rfl (Nat.le_of_ble_eq_true rfl) dL_law_586 ⟨by omega, by omega⟩ (fun v u hp => ?_)
          subst hp
          refine q_Vit F (kcX11_drop hfl 0 (Or.inr (fun _ _ _ h => h)) m10 (blw_in k11 h9) hw) (cIds_in (show ckd 0 = 9 ∧ 0 < 353 by decide).2) (ceMill (show ckd 0 = 9 ∧ 0 < 353 by decide).1) (ci := 9) rfl (bV wd517 wd518 wd519 wd1 wd520) rfl ⟨rfl, rfl⟩ ydX11_drop (rm_c hfr (by decide) (by decide)) (av := [iV ((blw ((sc 11)) r6))]) rfl rfl (Nat.le_of_ble_eq_true rfl) dL_law_589 ⟨by omega, by omega⟩ (fun r12 I13 R14 h15 m16 hw => ?_)
          refine q_pop F dL_law_592 rfl ?_
          refine q_aload_n F 1 dL_law_593 rfl rfl ?_
          refine q_bipush F dL_law_594 (by decide) ?_
          refine q_Vit F (kcX11_search hfl 0 (Or.inr (fun _ _ _ h => h)) m16 (⟨by decide, by decide⟩ : inR (30)) hw) (cIds_in (show ckd 0 = 9 ∧ 0 < 353 by decide).2) (ceMill (show ckd 0 = 9 ∧ 0 < 353 by decide).1) (ci := 9) rfl (bV wd595 wd596 wd597 wd1 wd598) rfl ⟨rfl, rfl⟩ ydX11_search (rm_c hfr (by decide) (by decide)) (av := [iV 30]) rfl rfl (Nat.le_of_ble_eq_true rfl) dL_law_596 ⟨by omega, by omega⟩ (fun r17 I18 R19 h20 m21 hw => ?_)
          refine q_iload F 2 dL_law_599 rfl ?_
          refine q_icmp_ge F h20 hx4 606 dL_law_601 (by decide) (fun hc => ?_) (fun hc => ?_)
          · have hw := hw.1 hc
            refine q_lv [0, 1] rfl ?_
            exact bL_law_606 F hC hsc hs hfr hcs hN hfl fin I18 R19 m21 hw
          · have hw := hw.2 hc
            refine q_iconst F dL_law_604 ?_
            exact hw.elim
    · have hw := hw.2 hc
      refine q_iconst F dL_law_514 ?_
      refine q_istore (lv' := [(0, .ref (E.2.1 4 3)), (1, .ref (E.1 0)), (4, iV x4), (10, iV x10), (11, iV 0)]) F [1, 2, 3, 4, 0] dL_law_515 (q_n hN (by decide)) rfl ?_
      obtain ⟨n22, hw⟩ := hw
      exact bL_law_517 F hC hsc hs hfr hcs hN hfl fin ih n22 x4 x10 0 I R hx4 hx10 (⟨by decide, by decide⟩ : inR (0)) hm hw
set_option maxHeartbeats 4000000 in
set_option maxRecDepth 100000 in
theorem bL_law_435 {X : xC} {E : cE} (F : mF X E RL cL_law bG) (hC : sC X.2.1.1) (hsc : scL E ≤ 260) {sc : Int → Int} (hs : ∀ k, scF E k = sc k) (hfr : 60 ≤ X.1.2.2.2.frames ∧ 6000 ≤ X.1.2.2.2.locals) (hcs : 600086 ≤ X.1.2.2.2.cells ∧ 7301442 ≤ X.1.2.2.2.slots) (hN : X.2.2.1.2.2.2 = 18) (hfl : X.1.2.1.stackTraces = false) (fin : ∀ (pc : Nat) (lv : List (Nat × Value)) (w : va_W), decode cL_law pc = .ok (.ireturn, 1) → cW X 600086 7301442 pc lv [iV 1] w) : ∀ n435 : Nat, ∀ (x4 : Int) (x7 : Int) (x8 : Int) (x9 : Int) (x10 : Int) (I : cI) (R : cR), inR x4 → inR x7 → inR x8 → inR x9 → inR x10 → cM I R → wL_law_435 sc n435 x4 x7 x8 x9 x10 I R → cW X (776) (17257) 435 [(0, .ref (E.2.1 4 3)), (1, .ref (E.1 0)), (4, iV x4), (7, iV x7), (8, iV x8), (9, iV x9), (10, iV x10)] [] (gw E.1 cIds (cef E (I, R)) ++ []) := by
  intro n435
  induction n435 with
  | zero => intro x4 x7 x8 x9 x10 I R hx4 hx7 hx8 hx9 hx10 hm hw; exact hw.elim
  | succ n435 ih =>
    intro x4 x7 x8 x9 x10 I R hx4 hx7 hx8 hx9 hx10 hm hw
    change wbL_law_435 sc (wL_law_435 sc n435) x4 x7 x8 x9 x10 I R at hw
    unfold wbL_law_435 at hw
    have hsi : ∀ k, inR (sc k) := fun k => by rw [← hs]; exact scF_in
    refine q_iload F 6 dL_law_435 rfl ?_
    refine q_iconst F dL_law_437 ?_
    refine q_icmp_ge F hx10 (⟨by decide, by decide⟩ : inR (4)) 461 dL_law_438 (by decide) (fun hc => ?_) (fun hc => ?_)
    · have hw := hw.1 hc
      refine q_iload F 5 dL_law_461 rfl ?_
      refine q_iload F 3 dL_law_463 rfl ?_
      refine q_iload F 4 dL_law_465 rfl ?_
      refine q_isub F dL_law_467 ?_
      obtain ⟨k1, hw⟩ := hw
      refine q_icmp_ne F hx9 k1 502 dL_law_468 (by decide) (fun hc => ?_) (fun hc => ?_)
      · have hw := hw.1 hc
        refine q_iconst F dL_law_502 ?_
        exact hw.elim
      · have hw := hw.2 hc
        refine q_aload_n F 1 dL_law_471 rfl rfl ?_
        refine q_Vi F (kcX11_reason hm hw) (cIds_in (show ckd 0 = 9 ∧ 0 < 353 by decide).2) (ceMill (show ckd 0 = 9 ∧ 0 < 353 by decide).1) (ci := 9) rfl (bV wd681 wd682 wd683 wd1 wd684) rfl ⟨rfl, rfl⟩ ydX11_reason (rm_c hfr (by decide) (by decide)) (av := []) rfl rfl (Nat.le_of_ble_eq_true rfl) dL_law_472 ⟨by omega, by omega⟩ (fun r2 I3 R4 h5 m6 hw => ?_)
        refine q_if_ne F h5 502 dL_law_475 (by decide) (fun hc => ?_) (fun hc => ?_)
        · have hw := hw.1 hc
          refine q_iconst F dL_law_502 ?_
          exact hw.elim
        · have hw := hw.2 hc
          refine q_aload_n F 1 dL_law_478 rfl rfl ?_
          refine q_iconst F dL_law_479 ?_
          refine q_Vit F (kcX11_reasoned hfl 0 (Or.inr (fun _ _ _ h => h)) m6 (⟨by decide, by decide⟩ : inR (0)) hw) (cIds_in (show ckd 0 = 9 ∧ 0 < 353 by decide).2) (ceMill (show ckd 0 = 9 ∧ 0 < 353 by decide).1) (ci := 9) rfl (bV wd699 wd700 wd701 wd1 wd702) rfl ⟨rfl, rfl⟩ ydX11_reasoned (rm_c hfr (by decide) (by decide)) (av := [iV 0]) rfl rfl (Nat.le_of_ble_eq_true rfl) dL_law_480 ⟨by omega, by omega⟩ (fun r7 I8 R9 h10 m11 hw => ?_)
          refine q_iconst F dL_law_483 ?_
          refine q_icmp_ne F h10 (⟨by decide, by decide⟩ : inR (1)) 502 dL_law_484 (by decide) (fun hc => ?_) (fun hc => ?_)
          · have hw := hw.1 hc
            refine q_iconst F dL_law_502 ?_
            exact hw.elim
          · have hw := hw.2 hc
            refine q_aload_n F 1 dL_law_487 rfl rfl ?_
            refine q_Vd F (kcX11_doubt m11 hw) (cIds_in (show ckd 0 = 9 ∧ 0 < 353 by decide).2) (ceMill (show ckd 0 = 9 ∧ 0 < 353 by decide).1) (ci := 9) rfl (bV wd770 wd771 wd772 wd1 wd773) rfl ⟨rfl, rfl⟩ ydX11_doubt (rm_c hfr (by decide) (by decide)) (av := []) rfl rfl (Nat.le_of_ble_eq_true rfl) dL_law_488 ⟨by omega, by omega⟩ (fun r12 I13 R14 m16 hw => ?_)
            refine q_iload F 5 dL_law_491 rfl ?_
            refine q_i2d F dL_law_493 ?_
            refine q_ldc2d F wdDbl dL_law_494 ?_
            refine q_vt (congrArg Value.double d16) ?_
            obtain ⟨k17, hw⟩ := hw
            refine q_ddiv F dL_law_497 (dQ_n k17.1 (by omega) (by decide) (by decide)) ?_
            obtain ⟨k18, hw⟩ := hw
            refine q_dcmp0 F k17 k18 dL_law_498 ?_
            refine q_if_eq F (⟨by decide, by decide⟩ : inR (0)) 504 dL_law_499 (by decide) (fun hc => ?_) (fun hc => ?_)
            · have hw := hw.1 hc
              refine q_iconst F dL_law_504 ?_
              refine q_istore (lv' := [(0, .ref (E.2.1 4 3)), (1, .ref (E.1 0)), (4, iV x4), (7, iV x7), (8, iV x8), (9, iV x9), (10, iV 0)]) F [1, 2, 3, 4, 5, 6, 0] dL_law_505 (q_n hN (by decide)) rfl ?_
              refine q_lv [0, 1, 2, 6] rfl ?_
              obtain ⟨n19, hw⟩ := hw
              exact bL_law_507 F hC hsc hs hfr hcs hN hfl fin n19 x4 0 I13 R14 hx4 (⟨by decide, by decide⟩ : inR (0)) m16 hw
            · have hw := hw.2 hc
              refine q_iconst F dL_law_502 ?_
              exact hw.elim
    · have hw := hw.2 hc
      refine q_iload F 5 dL_law_441 rfl ?_
      refine q_aload_n F 1 dL_law_443 rfl rfl ?_
      refine q_iload F 6 dL_law_444 rfl ?_
      refine q_Vit F (kcX11_possible hfl 0 (Or.inr (fun _ _ _ h => h)) hm hx10 hw) (cIds_in (show ckd 0 = 9 ∧ 0 < 353 by decide).2) (ceMill (show ckd 0 = 9 ∧ 0 < 353 by decide).1) (ci := 9) rfl (bV wd652 wd653 wd654 wd1 wd655) rfl ⟨rfl, rfl⟩ ydX11_possible (rm_c hfr (by decide) (by decide)) (av := [iV x10]) rfl rfl (Nat.le_of_ble_eq_true rfl) dL_law_446 ⟨by omega, by omega⟩ (fun r20 I21 R22 h23 m24 hw => ?_)
      refine q_cS F (j_bc h23) (bS wd824 wd647 wd25 wd648) rfl ⟨rfl, rfl⟩ yd_bc.2 (rm_c hfr (by decide) (by decide)) (av := [iV r20]) rfl rfl (Nat.le_of_ble_eq_true rfl) dL_law_449 ⟨by omega, by omega⟩ (fun v u hp => ?_)
      subst hp
      refine q_iadd F dL_law_452 ?_
      obtain ⟨k25, hw⟩ := hw
      obtain ⟨z26, e27⟩ := ex1 ((x9 + (bc r20)))
      have hw := hw z26 e27
      have hz26 : inR z26 := by rw [e27]; exact k25
      refine q_top e27 ?_
      refine q_istore (lv' := [(0, .ref (E.2.1 4 3)), (1, .ref (E.1 0)), (4, iV x4), (7, iV x7), (8, iV x8), (9, iV z26), (10, iV x10)]) F [1, 2, 3, 4, 5, 0, 6] dL_law_453 (q_n hN (by decide)) rfl ?_
      obtain ⟨k30, hw⟩ := hw
      obtain ⟨z28, e29⟩ := ex1 (x10 + 1)
      have hw := hw z28 e29
      have hz28 : inR z28 := by rw [e29]; exact k30
      refine q_iinc (lv' := [(0, .ref (E.2.1 4 3)), (1, .ref (E.1 0)), (4, iV x4), (7, iV x7), (8, iV x8), (9, iV z26), (10, iV z28)]) F 6 [1, 2, 3, 4, 5, 6, 0] dL_law_455 rfl (q_n hN (by decide)) e29.symm rfl ?_
      refine q_goto F 435 dL_law_458 (by decide) ?_
      exact ih x4 x7 x8 z26 z28 I21 R22 hx4 hx7 hx8 hz26 hz28 m24 hw
set_option maxHeartbeats 4000000 in
set_option maxRecDepth 100000 in
theorem bL_law_408 {X : xC} {E : cE} (F : mF X E RL cL_law bG) (hC : sC X.2.1.1) (hsc : scL E ≤ 260) {sc : Int → Int} (hs : ∀ k, scF E k = sc k) (hfr : 60 ≤ X.1.2.2.2.frames ∧ 6000 ≤ X.1.2.2.2.locals) (hcs : 600086 ≤ X.1.2.2.2.cells ∧ 7301442 ≤ X.1.2.2.2.slots) (hN : X.2.2.1.2.2.2 = 18) (hfl : X.1.2.1.stackTraces = false) (fin : ∀ (pc : Nat) (lv : List (Nat × Value)) (w : va_W), decode cL_law pc = .ok (.ireturn, 1) → cW X 600086 7301442 pc lv [iV 1] w) : ∀ (x4 : Int) (y0 : Int) (I : cI) (R : cR), inR x4 → inR y0 → cM I R → wL_law_408 sc x4 y0 I R → cW X (776) (17257) 408 [(0, .ref (E.2.1 4 3)), (1, .ref (E.1 0)), (4, iV x4)] [iV y0] (gw E.1 cIds (cef E (I, R)) ++ []) := by
  intro x4 y0 I R hx4 hy0 hm hw
  unfold wL_law_408 at hw
  have hsi : ∀ k, inR (sc k) := fun k => by rw [← hs]; exact scF_in
  refine q_aload_n F 1 dL_law_408 rfl rfl ?_
  refine q_Si F (kcL_noneBroken hfl hm hw) (bS wd821 wd822 wd0 wd823) rfl ⟨rfl, rfl⟩ ydL_noneBroken (rm_c hfr (by decide) (by decide)) (av := [.ref (E.1 0)]) rfl rfl (Nat.le_of_ble_eq_true rfl) dL_law_409 ⟨by omega, by omega⟩ (fun r3 I1 R2 h4 m5 hw => ?_)
  refine q_icmp_eq F hy0 h4 417 dL_law_412 (by decide) (fun hc => ?_) (fun hc => ?_)
  · have hw := hw.1 hc
    refine q_aload_n F 1 dL_law_417 rfl rfl ?_
    refine q_Vi F (kcX11_look m5 hw) (cIds_in (show ckd 0 = 9 ∧ 0 < 353 by decide).2) (ceMill (show ckd 0 = 9 ∧ 0 < 353 by decide).1) (ci := 9) rfl (bV wd638 wd639 wd640 wd1 wd641) rfl ⟨rfl, rfl⟩ ydX11_look (rm_c hfr (by decide) (by decide)) (av := []) rfl rfl (Nat.le_of_ble_eq_true rfl) dL_law_418 ⟨by omega, by omega⟩ (fun r6 I7 R8 h9 m10 hw => ?_)
    refine q_istore (lv' := [(0, .ref (E.2.1 4 3)), (1, .ref (E.1 0)), (4, iV x4), (7, iV r6)]) F [1, 2, 3, 0] dL_law_421 (q_n hN (by decide)) rfl ?_
    refine q_aload_n F 1 dL_law_423 rfl rfl ?_
    refine q_Vi F (kcX11_reason m10 hw) (cIds_in (show ckd 0 = 9 ∧ 0 < 353 by decide).2) (ceMill (show ckd 0 = 9 ∧ 0 < 353 by decide).1) (ci := 9) rfl (bV wd681 wd682 wd683 wd1 wd684) rfl ⟨rfl, rfl⟩ ydX11_reason (rm_c hfr (by decide) (by decide)) (av := []) rfl rfl (Nat.le_of_ble_eq_true rfl) dL_law_424 ⟨by omega, by omega⟩ (fun r11 I12 R13 h14 m15 hw => ?_)
    refine q_istore (lv' := [(0, .ref (E.2.1 4 3)), (1, .ref (E.1 0)), (4, iV x4), (7, iV r6), (8, iV r11)]) F [1, 2, 3, 4, 0] dL_law_427 (q_n hN (by decide)) rfl ?_
    refine q_iconst F dL_law_429 ?_
    refine q_istore (lv' := [(0, .ref (E.2.1 4 3)), (1, .ref (E.1 0)), (4, iV x4), (7, iV r6), (8, iV r11), (9, iV 0)]) F [1, 2, 3, 4, 5, 0] dL_law_430 (q_n hN (by decide)) rfl ?_
    refine q_iconst F dL_law_432 ?_
    refine q_istore (lv' := [(0, .ref (E.2.1 4 3)), (1, .ref (E.1 0)), (4, iV x4), (7, iV r6), (8, iV r11), (9, iV 0), (10, iV 0)]) F [1, 2, 3, 4, 5, 6, 0] dL_law_433 (q_n hN (by decide)) rfl ?_
    obtain ⟨n16, hw⟩ := hw
    exact bL_law_435 F hC hsc hs hfr hcs hN hfl fin n16 x4 r6 r11 0 0 I12 R13 hx4 h9 h14 (⟨by decide, by decide⟩ : inR (0)) (⟨by decide, by decide⟩ : inR (0)) m15 hw
  · have hw := hw.2 hc
    refine q_iconst F dL_law_415 ?_
    exact hw.elim
set_option maxHeartbeats 4000000 in
set_option maxRecDepth 100000 in
theorem bL_law_379 {X : xC} {E : cE} (F : mF X E RL cL_law bG) (hC : sC X.2.1.1) (hsc : scL E ≤ 260) {sc : Int → Int} (hs : ∀ k, scF E k = sc k) (hfr : 60 ≤ X.1.2.2.2.frames ∧ 6000 ≤ X.1.2.2.2.locals) (hcs : 600086 ≤ X.1.2.2.2.cells ∧ 7301442 ≤ X.1.2.2.2.slots) (hN : X.2.2.1.2.2.2 = 18) (hfl : X.1.2.1.stackTraces = false) (fin : ∀ (pc : Nat) (lv : List (Nat × Value)) (w : va_W), decode cL_law pc = .ok (.ireturn, 1) → cW X 600086 7301442 pc lv [iV 1] w) : ∀ (x4 : Int) (x5 : Int) (I : cI) (R : cR), inR x4 → cM I R → wL_law_379 sc x4 x5 I R → cW X (776) (17257) 379 [(0, .ref (E.2.1 4 3)), (1, .ref (E.1 0)), (4, iV x4), (5, jV x5)] [] (gw E.1 cIds (cef E (I, R)) ++ []) := by
  intro x4 x5 I R hx4 hm hw
  unfold wL_law_379 at hw
  have hsi : ∀ k, inR (sc k) := fun k => by rw [← hs]; exact scF_in
  refine q_aload_n F 1 dL_law_379 rfl rfl ?_
  refine q_Vd F (kcX11_doubt hm hw) (cIds_in (show ckd 0 = 9 ∧ 0 < 353 by decide).2) (ceMill (show ckd 0 = 9 ∧ 0 < 353 by decide).1) (ci := 9) rfl (bV wd770 wd771 wd772 wd1 wd773) rfl ⟨rfl, rfl⟩ ydX11_doubt (rm_c hfr (by decide) (by decide)) (av := []) rfl rfl (Nat.le_of_ble_eq_true rfl) dL_law_380 ⟨by omega, by omega⟩ (fun r1 I2 R3 m5 hw => ?_)
  refine q_pop2 F dL_law_383 rfl ?_
  refine q_aload_n F 1 dL_law_384 rfl rfl ?_
  refine q_Vj F (kcX11_digest hfl m5 hw) (cIds_in (show ckd 0 = 9 ∧ 0 < 353 by decide).2) (ceMill (show ckd 0 = 9 ∧ 0 < 353 by decide).1) (ci := 9) rfl (bV wd774 wd775 wd776 wd1 wd777) rfl ⟨rfl, rfl⟩ ydX11_digest (rm_c hfr (by decide) (by decide)) (av := []) rfl rfl (Nat.le_of_ble_eq_true rfl) dL_law_385 ⟨by omega, by omega⟩ (fun r6 I7 R8 m10 hw => ?_)
  refine q_lload F 3 dL_law_388 rfl ?_
  obtain ⟨k11, hw⟩ := hw
  refine q_lcmp0 F k11 dL_law_390 ?_
  refine q_if_ne F (⟨by decide, by decide⟩ : inR (0)) 415 dL_law_391 (by decide) (fun hc => ?_) (fun hc => ?_)
  · have hw := hw.1 hc
    refine q_iconst F dL_law_415 ?_
    exact hw.elim
  · have hw := hw.2 hc
    refine q_aload_n F 1 dL_law_394 rfl rfl ?_
    refine q_bipush F dL_law_395 (by decide) ?_
    refine q_Vit F (kcX11_count hfl 0 (Or.inr (fun _ _ _ h => h)) m10 (⟨by decide, by decide⟩ : inR (6)) hw) (cIds_in (show ckd 0 = 9 ∧ 0 < 353 by decide).2) (ceMill (show ckd 0 = 9 ∧ 0 < 353 by decide).1) (ci := 9) rfl (bV wd408 wd409 wd410 wd1 wd411) rfl ⟨rfl, rfl⟩ ydX11_count (rm_c hfr (by decide) (by decide)) (av := [iV 6]) rfl rfl (Nat.le_of_ble_eq_true rfl) dL_law_397 ⟨by omega, by omega⟩ (fun r12 I13 R14 h15 m16 hw => ?_)
    refine q_if_ne F h15 407 dL_law_400 (by decide) (fun hc => ?_) (fun hc => ?_)
    · have hw := hw.1 hc
      refine q_iconst F dL_law_407 ?_
      refine q_lv [0, 1, 2] rfl ?_
      exact bL_law_408 F hC hsc hs hfr hcs hN hfl fin x4 0 I13 R14 hx4 (⟨by decide, by decide⟩ : inR (0)) m16 hw
    · have hw := hw.2 hc
      refine q_iconst F dL_law_403 ?_
      refine q_goto F 408 dL_law_404 (by decide) ?_
      refine q_lv [0, 1, 2] rfl ?_
      exact bL_law_408 F hC hsc hs hfr hcs hN hfl fin x4 1 I13 R14 hx4 (⟨by decide, by decide⟩ : inR (1)) m16 hw
