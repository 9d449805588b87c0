def f_X8_hadAt (N : Nat) (a1 : Int32) (a2 : Int32) (a3 : Int32) (M : Mm) : Rs :=
  if inb a1 4 then
  (bd (f_X7_value N (5 + 2 * ix a1) a2 a3 M) fun r2 M3 =>
  (if inb ((a1 * 6) + 4) 43 then
  (some (if 0 < (if (M3.1 2 (ix ((a1 * 6) + 4))) < r2 then (M3.1 2 (ix ((a1 * 6) + 4))) else r2) then (if (M3.1 2 (ix ((a1 * 6) + 4))) < r2 then (M3.1 2 (ix ((a1 * 6) + 4))) else r2) else 0, M3)) else none)) else none

set_option maxHeartbeats 4000000 in
set_option maxRecDepth 100000 in
theorem c_X8_hadAt (l : Launch) (w : W0) (N : Nat) (a1 : Int32) (a2 : Int32) (a3 : Int32) (M : Mm) : Ct l KC w 2 yX8_hadAt cX8_hadAt 5 (some .int) [rf w 34, .int a1, .int a2, .int a3] M (f_X8_hadAt N a1 a2 a3 M) := by
  refine ct_of [rf w 34, .int a1, .int a2, .int a3, .null] (by decide) (Nat.le_of_ble_eq_true rfl) rfl (fun Z e1 e2 e3 g => ?_)
  have g : Good KC w Z cX8_hadAt RX8 2 := g
  unfold f_X8_hadAt
  have n4 : 4 < Z.2.2.1 := by rw [e2]; decide
  refine r_aload_n (pc' := 1) g dX8_hadAt_0 rfl rfl ?_
  refine r_get (pc' := 4) g dX8_hadAt_1 rfl fl_X8_26 lC_34 (eC_34 w _ _) rfl ?_
  refine r_get (pc' := 7) g dX8_hadAt_4 rfl fl_X8_55 lC_1 (eC_1 w _ _) rfl ?_
  refine r_iload_n (pc' := 8) g dX8_hadAt_7 rfl rfl ?_
  refine r_aald (pc' := 9) g dX8_hadAt_8 rfl lC_4 (eC_4 w _ _) (fun q1 => ?_)
  refine r_iload_n (pc' := 10) g dX8_hadAt_9 rfl rfl ?_
  refine r_iload_n (pc' := 11) g dX8_hadAt_10 rfl rfl ?_
  refine r_aload_n (pc' := 12) g dX8_hadAt_11 rfl rfl ?_
  refine r_get (pc' := 15) g dX8_hadAt_12 rfl fl_X8_18 lC_34 (eC_34 w _ _) rfl ?_
  refine r_callVi (pc' := 18) (As := [.int a2, .int a3, rf w 37]) (rest := []) g dX8_hadAt_15 rfl ml_X8_59 mw_X7_value mv_X7_value (Nat.le_of_ble_eq_true rfl) (c_X7_value _ w N (5 + 2 * ix a1) a2 a3 (rl_t q1) M) rfl (lC_r (rl_t q1)) (eC_r (rl_t q1) w _ _) rfl rfl (Nat.le_of_ble_eq_true rfl) (fun r2 M3 => ?_)
  refine r_istore (pc' := 20) (L' := [rf w 34, .int a1, .int a2, .int a3, .int r2]) g dX8_hadAt_18 rfl n4 rfl rfl ?_
  refine r_iconst (pc' := 21) (v := 0) g dX8_hadAt_20 rfl rfl ?_
  refine r_iload (pc' := 23) g dX8_hadAt_21 rfl rfl ?_
  refine r_aload_n (pc' := 24) g dX8_hadAt_23 rfl rfl ?_
  refine r_get (pc' := 27) g dX8_hadAt_24 rfl fl_X8_26 lC_34 (eC_34 w _ _) rfl ?_
  refine r_get (pc' := 30) g dX8_hadAt_27 rfl fl_X8_49 lC_1 (eC_1 w _ _) rfl ?_
  refine r_iload_n (pc' := 31) g dX8_hadAt_30 rfl rfl ?_
  refine r_bipush (pc' := 33) (v := 6) g dX8_hadAt_31 rfl rfl ?_
  refine r_imul (pc' := 34) g dX8_hadAt_33 rfl ?_
  refine r_iconst (pc' := 35) (v := 4) g dX8_hadAt_34 rfl rfl ?_
  refine r_iadd (pc' := 36) g dX8_hadAt_35 rfl ?_
  refine r_iald (pc' := 37) g dX8_hadAt_36 rfl lC_2 (eC_2 w _ _) ?_
  refine r_min (pc' := 40) g dX8_hadAt_37 rfl mm_X8_63 mm_min_s mm_i mm_min_c (Nat.le_of_ble_eq_true rfl) ?_
  refine r_max (pc' := 43) g dX8_hadAt_40 rfl mm_X8_43 mm_max_s mm_i mm_max_c (Nat.le_of_ble_eq_true rfl) ?_
  exact r_iret g e3 dX8_hadAt_43
def B_X8_costOf_12 (N : Nat) (p1 : Int32) (p2 : Int32) (G : Int32 → Mm → Rs) (rec : (Int32 × Int32) → Mm → Rs) (s : Int32 × Int32) (M : Mm) : Rs :=
  if s.2 < 4 then
      (bd (f_X8_hadAt N s.2 p1 p2 M) fun r3 M4 =>
      (bd (f_X10_balance N s.2 p1 p2 M4) fun r5 M6 =>
      (lt' (if 0 < ((-r5) - r3) then ((-r5) - r3) else 0) fun x7 =>
      (if inb ((s.2 * 6) + 3) 43 then
      (lt' (s.1 + ((r3 * (M6.1 2 (ix ((s.2 * 6) + 3)))) + (x7 * (M6.1 2 (ix 41))))) fun x8 =>
      (rec (x8, s.2 + 1) M6)) else none))))
    else
      (G s.1 M)

def f_X8_costOf (N : Nat) (a1 : Int32) (a2 : Int32) (M : Mm) : Rs :=
  bd (f_X10_fare N a1 M) fun r1 M2 =>
  (itr (B_X8_costOf_12 N a1 a2 fun z9 M10 =>
  (some (z9, M10))) N (r1, 0) M2)

set_option maxHeartbeats 4000000 in
set_option maxRecDepth 100000 in
theorem s_X8_costOf_12 {w : W0} {Z : Zx} (g : Good KC w Z cX8_costOf RX8 3) (e2 : Z.2.2.1 = 7) (e3 : Z.2.2.2 = (some .int)) (N : Nat) (p1 : Int32) (p2 : Int32) (G : Int32 → Mm → Rs) (kG : ∀ (x : Int32) (M : Mm), Sim KC w Z 90 [.null, .null, .null, .int x, .null, .null, .null] [] M (G x M)) : ∀ (n : Nat) (s : Int32 × Int32) (M : Mm), Sim KC w Z 12 [rf w 34, .int p1, .int p2, .int s.1, .int s.2, .null, .null] [] M (itr (B_X8_costOf_12 N p1 p2 G) n s M) := by
  have n3 : 3 < Z.2.2.1 := by rw [e2]; decide
  have n4 : 4 < Z.2.2.1 := by rw [e2]; decide
  have n5 : 5 < Z.2.2.1 := by rw [e2]; decide
  have n6 : 6 < Z.2.2.1 := by rw [e2]; decide
  refine r_itr (Lf := fun (s : Int32 × Int32) => [rf w 34, .int p1, .int p2, .int s.1, .int s.2, .null, .null]) (fun rec hr s M => ?_)
  unfold B_X8_costOf_12
  refine r_iload (pc' := 14) g dX8_costOf_12 rfl rfl ?_
  refine r_iconst (pc' := 15) (v := 4) g dX8_costOf_14 rfl rfl ?_
  refine r_cge (pc' := 18) (tgt := 90) g dX8_costOf_15 rfl rfl ?_ ?_
  · skip
    exact r_weak (Ls1 (Ls1 (Ls1 (Ls2 (Ls1 (Ls1 (Ls1 Ls0))))))) (kG s.1 M)
  · skip
    refine r_aload_n (pc' := 19) g dX8_costOf_18 rfl rfl ?_
    refine r_iload (pc' := 21) g dX8_costOf_19 rfl rfl ?_
    refine r_iload_n (pc' := 22) g dX8_costOf_21 rfl rfl ?_
    refine r_iload_n (pc' := 23) g dX8_costOf_22 rfl rfl ?_
    refine r_callVi (pc' := 26) (As := [.int s.2, .int p1, .int p2]) (rest := []) g dX8_costOf_23 rfl ml_X8_36 mw_X8_hadAt mv_X8_hadAt (Nat.le_of_ble_eq_true rfl) (c_X8_hadAt _ w N s.2 p1 p2 M) rfl lC_34 (eC_34 w _ _) rfl rfl (Nat.le_of_ble_eq_true rfl) (fun r3 M4 => ?_)
    refine r_istore (pc' := 28) (L' := [rf w 34, .int p1, .int p2, .int s.1, .int s.2, .int r3, .null]) g dX8_costOf_26 rfl n5 rfl rfl ?_
    refine r_iconst (pc' := 29) (v := 0) g dX8_costOf_28 rfl rfl ?_
    refine r_aload_n (pc' := 30) g dX8_costOf_29 rfl rfl ?_
    refine r_get (pc' := 33) g dX8_costOf_30 rfl fl_X8_26 lC_34 (eC_34 w _ _) rfl ?_
    refine r_iload (pc' := 35) g dX8_costOf_33 rfl rfl ?_
    refine r_iload_n (pc' := 36) g dX8_costOf_35 rfl rfl ?_
    refine r_iload_n (pc' := 37) g dX8_costOf_36 rfl rfl ?_
    refine r_callVi (pc' := 40) (As := [.int s.2, .int p1, .int p2]) (rest := [.int 0]) g dX8_costOf_37 rfl ml_X8_40 mw_X10_balance mv_X10_balance (Nat.le_of_ble_eq_true rfl) (c_X10_balance _ w N s.2 p1 p2 M4) rfl lC_1 (eC_1 w _ _) rfl rfl (Nat.le_of_ble_eq_true rfl) (fun r5 M6 => ?_)
    refine r_ineg (pc' := 41) g dX8_costOf_40 rfl ?_
    refine r_iload (pc' := 43) g dX8_costOf_41 rfl rfl ?_
    refine r_isub (pc' := 44) g dX8_costOf_43 rfl ?_
    refine r_max (pc' := 47) g dX8_costOf_44 rfl mm_X8_43 mm_max_s mm_i mm_max_c (Nat.le_of_ble_eq_true rfl) ?_
    refine r_ltI (fun x7 => ?_)
    refine r_istore (pc' := 49) (L' := [rf w 34, .int p1, .int p2, .int s.1, .int s.2, .int r3, .int x7]) g dX8_costOf_47 rfl n6 rfl rfl ?_
    refine r_iload_n (pc' := 50) g dX8_costOf_49 rfl rfl ?_
    refine r_iload (pc' := 52) g dX8_costOf_50 rfl rfl ?_
    refine r_aload_n (pc' := 53) g dX8_costOf_52 rfl rfl ?_
    refine r_get (pc' := 56) g dX8_costOf_53 rfl fl_X8_26 lC_34 (eC_34 w _ _) rfl ?_
    refine r_get (pc' := 59) g dX8_costOf_56 rfl fl_X8_49 lC_1 (eC_1 w _ _) rfl ?_
    refine r_iload (pc' := 61) g dX8_costOf_59 rfl rfl ?_
    refine r_bipush (pc' := 63) (v := 6) g dX8_costOf_61 rfl rfl ?_
    refine r_imul (pc' := 64) g dX8_costOf_63 rfl ?_
    refine r_iconst (pc' := 65) (v := 3) g dX8_costOf_64 rfl rfl ?_
    refine r_iadd (pc' := 66) g dX8_costOf_65 rfl ?_
    refine r_iald (pc' := 67) g dX8_costOf_66 rfl lC_2 (eC_2 w _ _) ?_
    refine r_imul (pc' := 68) g dX8_costOf_67 rfl ?_
    refine r_iload (pc' := 70) g dX8_costOf_68 rfl rfl ?_
    refine r_aload_n (pc' := 71) g dX8_costOf_70 rfl rfl ?_
    refine r_get (pc' := 74) g dX8_costOf_71 rfl fl_X8_26 lC_34 (eC_34 w _ _) rfl ?_
    refine r_get (pc' := 77) g dX8_costOf_74 rfl fl_X8_49 lC_1 (eC_1 w _ _) rfl ?_
    refine r_bipush (pc' := 79) (v := 41) g dX8_costOf_77 rfl rfl ?_
    refine r_ialdc (pc' := 80) g dX8_costOf_79 rfl lC_2 (eC_2 w _ _) rfl ?_
    refine r_imul (pc' := 81) g dX8_costOf_80 rfl ?_
    refine r_iadd (pc' := 82) g dX8_costOf_81 rfl ?_
    refine r_iadd (pc' := 83) g dX8_costOf_82 rfl ?_
    refine r_ltI (fun x8 => ?_)
    refine r_istore_n (pc' := 84) (L' := [rf w 34, .int p1, .int p2, .int x8, .int s.2, .int r3, .int x7]) g dX8_costOf_83 rfl n3 rfl rfl ?_
    refine r_iinc (pc' := 87) (b := 1) (L' := [rf w 34, .int p1, .int p2, .int x8, .int (s.2 + 1), .int r3, .int x7]) g dX8_costOf_84 rfl rfl rfl n4 rfl rfl ?_
    refine r_goto (tgt := 12) g dX8_costOf_87 rfl ?_
    exact r_weak (Ls2 (Ls2 (Ls2 (Ls2 (Ls2 (Ls1 (Ls1 Ls0))))))) (hr (x8, s.2 + 1) M6)
set_option maxHeartbeats 4000000 in
set_option maxRecDepth 100000 in
theorem c_X8_costOf (l : Launch) (w : W0) (N : Nat) (a1 : Int32) (a2 : Int32) (M : Mm) : Ct l KC w 3 yX8_costOf cX8_costOf 7 (some .int) [rf w 34, .int a1, .int a2] M (f_X8_costOf N a1 a2 M) := by
  refine ct_of [rf w 34, .int a1, .int a2, .null, .null, .null, .null] (by decide) (Nat.le_of_ble_eq_true rfl) rfl (fun Z e1 e2 e3 g => ?_)
  have g : Good KC w Z cX8_costOf RX8 3 := g
  unfold f_X8_costOf
  have n3 : 3 < Z.2.2.1 := by rw [e2]; decide
  have n4 : 4 < Z.2.2.1 := by rw [e2]; decide
  refine r_aload_n (pc' := 1) g dX8_costOf_0 rfl rfl ?_
  refine r_get (pc' := 4) g dX8_costOf_1 rfl fl_X8_26 lC_34 (eC_34 w _ _) rfl ?_
  refine r_iload_n (pc' := 5) g dX8_costOf_4 rfl rfl ?_
  refine r_callVi (pc' := 8) (As := [.int a1]) (rest := []) g dX8_costOf_5 rfl ml_X8_30 mw_X10_fare mv_X10_fare (Nat.le_of_ble_eq_true rfl) (c_X10_fare _ w N a1 M) rfl lC_1 (eC_1 w _ _) rfl rfl (Nat.le_of_ble_eq_true rfl) (fun r1 M2 => ?_)
  refine r_istore_n (pc' := 9) (L' := [rf w 34, .int a1, .int a2, .int r1, .null, .null, .null]) g dX8_costOf_8 rfl n3 rfl rfl ?_
  refine r_iconst (pc' := 10) (v := 0) g dX8_costOf_9 rfl rfl ?_
  refine r_istore (pc' := 12) (L' := [rf w 34, .int a1, .int a2, .int r1, .int 0, .null, .null]) g dX8_costOf_10 rfl n4 rfl rfl ?_
  refine r_weak (Ls2 (Ls2 (Ls2 (Ls2 (Ls2 (Ls1 (Ls1 Ls0))))))) (s_X8_costOf_12 g e2 e3 N a1 a2 _ (fun z9 M10 => ?_) N (r1, 0) M2)
  refine r_iload_n (pc' := 91) g dX8_costOf_90 rfl rfl ?_
  exact r_iret g e3 dX8_costOf_91
def f_X11_byRules (N : Nat) (a1 : Int32) (a2 : Int32) (M : Mm) : Rs :=
  bd (f_X10_isPlan N a1 M) fun r1 M2 =>
  (if r1 = 0 then
    (bd (f_X11_refuse N (-1) M2) fun r3 M4 =>
    (some (r3, M4)))
  else
    (bd (f_X10_isWorld N a2 M2) fun r5 M6 =>
    (if r5 = 0 then
      (bd (f_X11_refuse N (-1) M6) fun r9 M10 =>
      (some (r9, M10)))
    else
      (bd (f_X8_costOf N a1 a2 M6) fun r7 M8 =>
      (some (r7, M8))))))

set_option maxHeartbeats 4000000 in
set_option maxRecDepth 100000 in
theorem c_X11_byRules (l : Launch) (w : W0) (N : Nat) (a1 : Int32) (a2 : Int32) (M : Mm) : Ct l KC w 4 yX11_byRules cX11_byRules 3 (some .int) [rf w 0, .int a1, .int a2] M (f_X11_byRules N a1 a2 M) := by
  refine ct_of [rf w 0, .int a1, .int a2] (by decide) (Nat.le_of_ble_eq_true rfl) rfl (fun Z e1 e2 e3 g => ?_)
  have g : Good KC w Z cX11_byRules RX11 4 := g
  unfold f_X11_byRules
  refine r_aload_n (pc' := 1) g dX11_byRules_0 rfl rfl ?_
  refine r_get (pc' := 4) g dX11_byRules_1 rfl fl_X11_12 lC_0 (eC_0 w _ _) rfl ?_
  refine r_iload_n (pc' := 5) g dX11_byRules_4 rfl rfl ?_
  refine r_callVi (pc' := 8) (As := [.int a1]) (rest := []) g dX11_byRules_5 rfl ml_X11_163 mw_X10_isPlan mv_X10_isPlan (Nat.le_of_ble_eq_true rfl) (c_X10_isPlan _ w N a1 M) rfl lC_1 (eC_1 w _ _) rfl rfl (Nat.le_of_ble_eq_true rfl) (fun r1 M2 => ?_)
  refine r_ifeq (pc' := 11) (tgt := 22) g dX11_byRules_8 rfl rfl ?_ ?_
  · skip
    refine r_aload_n (pc' := 23) g dX11_byRules_22 rfl rfl ?_
    refine r_iconst (pc' := 24) (v := -1) g dX11_byRules_23 rfl rfl ?_
    refine r_callVi (pc' := 27) (As := [.int (-1)]) (rest := []) g dX11_byRules_24 rfl ml_X11_80 mw_X11_refuse mv_X11_refuse (Nat.le_of_ble_eq_true rfl) (c_X11_refuse _ w N (-1) M2) rfl lC_0 (eC_0 w _ _) rfl rfl (Nat.le_of_ble_eq_true rfl) (fun r3 M4 => ?_)
    exact r_iret g e3 dX11_byRules_27
  · skip
    refine r_aload_n (pc' := 12) g dX11_byRules_11 rfl rfl ?_
    refine r_get (pc' := 15) g dX11_byRules_12 rfl fl_X11_12 lC_0 (eC_0 w _ _) rfl ?_
    refine r_iload_n (pc' := 16) g dX11_byRules_15 rfl rfl ?_
    refine r_callVi (pc' := 19) (As := [.int a2]) (rest := []) g dX11_byRules_16 rfl ml_X11_166 mw_X10_isWorld mv_X10_isWorld (Nat.le_of_ble_eq_true rfl) (c_X10_isWorld _ w N a2 M2) rfl lC_1 (eC_1 w _ _) rfl rfl (Nat.le_of_ble_eq_true rfl) (fun r5 M6 => ?_)
    refine r_ifne (pc' := 22) (tgt := 28) g dX11_byRules_19 rfl rfl ?_ ?_
    · skip
      refine r_aload_n (pc' := 29) g dX11_byRules_28 rfl rfl ?_
      refine r_get (pc' := 32) g dX11_byRules_29 rfl fl_X11_53 lC_0 (eC_0 w _ _) rfl ?_
      refine r_iload_n (pc' := 33) g dX11_byRules_32 rfl rfl ?_
      refine r_iload_n (pc' := 34) g dX11_byRules_33 rfl rfl ?_
      refine r_callVi (pc' := 37) (As := [.int a1, .int a2]) (rest := []) g dX11_byRules_34 rfl ml_X11_188 mw_X8_costOf mv_X8_costOf (Nat.le_of_ble_eq_true rfl) (c_X8_costOf _ w N a1 a2 M6) rfl lC_34 (eC_34 w _ _) rfl rfl (Nat.le_of_ble_eq_true rfl) (fun r7 M8 => ?_)
      exact r_iret g e3 dX11_byRules_37
    · skip
      refine r_aload_n (pc' := 23) g dX11_byRules_22 rfl rfl ?_
      refine r_iconst (pc' := 24) (v := -1) g dX11_byRules_23 rfl rfl ?_
      refine r_callVi (pc' := 27) (As := [.int (-1)]) (rest := []) g dX11_byRules_24 rfl ml_X11_80 mw_X11_refuse mv_X11_refuse (Nat.le_of_ble_eq_true rfl) (c_X11_refuse _ w N (-1) M6) rfl lC_0 (eC_0 w _ _) rfl rfl (Nat.le_of_ble_eq_true rfl) (fun r9 M10 => ?_)
      exact r_iret g e3 dX11_byRules_27
def B_X8_worstOver_6 (N : Nat) (p1 : Int32) (p2 : Int32) (G : Int32 → Mm → Rs) (rec : (Int32 × Int32) → Mm → Rs) (s : Int32 × Int32) (M : Mm) : Rs :=
  if s.2 < 16 then
      (if ((p2 >>> (s.2 &&& 31)) &&& 1) = 1 then
        (bd (f_X8_costOf N p1 s.2 M) fun r1 M2 =>
        (lt' (if s.1 < r1 then r1 else s.1) fun x3 =>
        (rec (x3, s.2 + 1) M2)))
      else
        (rec (s.1, s.2 + 1) M))
    else
      (G s.1 M)

def f_X8_worstOver (N : Nat) (a1 : Int32) (a2 : Int32) (M : Mm) : Rs :=
  itr (B_X8_worstOver_6 N a1 a2 fun z4 M5 =>
  (some (z4, M5))) N ((-9), 0) M

set_option maxHeartbeats 4000000 in
set_option maxRecDepth 100000 in
theorem s_X8_worstOver_6 {w : W0} {Z : Zx} (g : Good KC w Z cX8_worstOver RX8 4) (e2 : Z.2.2.1 = 5) (e3 : Z.2.2.2 = (some .int)) (N : Nat) (p1 : Int32) (p2 : Int32) (G : Int32 → Mm → Rs) (kG : ∀ (x : Int32) (M : Mm), Sim KC w Z 41 [.null, .null, .null, .int x, .null] [] M (G x M)) : ∀ (n : Nat) (s : Int32 × Int32) (M : Mm), Sim KC w Z 6 [rf w 34, .int p1, .int p2, .int s.1, .int s.2] [] M (itr (B_X8_worstOver_6 N p1 p2 G) n s M) := by
  have n3 : 3 < Z.2.2.1 := by rw [e2]; decide
  have n4 : 4 < Z.2.2.1 := by rw [e2]; decide
  refine r_itr (Lf := fun (s : Int32 × Int32) => [rf w 34, .int p1, .int p2, .int s.1, .int s.2]) (fun rec hr s M => ?_)
  unfold B_X8_worstOver_6
  refine r_iload (pc' := 8) g dX8_worstOver_6 rfl rfl ?_
  refine r_bipush (pc' := 10) (v := 16) g dX8_worstOver_8 rfl rfl ?_
  refine r_cge (pc' := 13) (tgt := 41) g dX8_worstOver_10 rfl rfl ?_ ?_
  · skip
    exact r_weak (Ls1 (Ls1 (Ls1 (Ls2 (Ls1 Ls0))))) (kG s.1 M)
  · skip
    refine r_iload_n (pc' := 14) g dX8_worstOver_13 rfl rfl ?_
    refine r_iload (pc' := 16) g dX8_worstOver_14 rfl rfl ?_
    refine r_ishr (pc' := 17) g dX8_worstOver_16 rfl ?_
    refine r_iconst (pc' := 18) (v := 1) g dX8_worstOver_17 rfl rfl ?_
    refine r_iand (pc' := 19) g dX8_worstOver_18 rfl ?_
    refine r_iconst (pc' := 20) (v := 1) g dX8_worstOver_19 rfl rfl ?_
    refine r_cne (pc' := 23) (tgt := 35) g dX8_worstOver_20 rfl rfl ?_ ?_
    · skip
      refine r_iinc (pc' := 38) (b := 1) (L' := [rf w 34, .int p1, .int p2, .int s.1, .int (s.2 + 1)]) g dX8_worstOver_35 rfl rfl rfl n4 rfl rfl ?_
      refine r_goto (tgt := 6) g dX8_worstOver_38 rfl ?_
      exact r_weak (Ls2 (Ls2 (Ls2 (Ls2 (Ls2 Ls0))))) (hr (s.1, s.2 + 1) M)
    · skip
      refine r_iload_n (pc' := 24) g dX8_worstOver_23 rfl rfl ?_
      refine r_aload_n (pc' := 25) g dX8_worstOver_24 rfl rfl ?_
      refine r_iload_n (pc' := 26) g dX8_worstOver_25 rfl rfl ?_
      refine r_iload (pc' := 28) g dX8_worstOver_26 rfl rfl ?_
      refine r_callVi (pc' := 31) (As := [.int p1, .int s.2]) (rest := [.int s.1]) g dX8_worstOver_28 rfl ml_X8_52 mw_X8_costOf mv_X8_costOf (Nat.le_of_ble_eq_true rfl) (c_X8_costOf _ w N p1 s.2 M) rfl lC_34 (eC_34 w _ _) rfl rfl (Nat.le_of_ble_eq_true rfl) (fun r1 M2 => ?_)
      refine r_max (pc' := 34) g dX8_worstOver_31 rfl mm_X8_43 mm_max_s mm_i mm_max_c (Nat.le_of_ble_eq_true rfl) ?_
      refine r_ltI (fun x3 => ?_)
      refine r_istore_n (pc' := 35) (L' := [rf w 34, .int p1, .int p2, .int x3, .int s.2]) g dX8_worstOver_34 rfl n3 rfl rfl ?_
      refine r_iinc (pc' := 38) (b := 1) (L' := [rf w 34, .int p1, .int p2, .int x3, .int (s.2 + 1)]) g dX8_worstOver_35 rfl rfl rfl n4 rfl rfl ?_
      refine r_goto (tgt := 6) g dX8_worstOver_38 rfl ?_
      exact r_weak (Ls2 (Ls2 (Ls2 (Ls2 (Ls2 Ls0))))) (hr (x3, s.2 + 1) M2)
set_option maxHeartbeats 4000000 in
set_option maxRecDepth 100000 in
theorem c_X8_worstOver (l : Launch) (w : W0) (N : Nat) (a1 : Int32) (a2 : Int32) (M : Mm) : Ct l KC w 4 yX8_worstOver cX8_worstOver 5 (some .int) [rf w 34, .int a1, .int a2] M (f_X8_worstOver N a1 a2 M) := by
  refine ct_of [rf w 34, .int a1, .int a2, .null, .null] (by decide) (Nat.le_of_ble_eq_true rfl) rfl (fun Z e1 e2 e3 g => ?_)
  have g : Good KC w Z cX8_worstOver RX8 4 := g
  unfold f_X8_worstOver
  have n3 : 3 < Z.2.2.1 := by rw [e2]; decide
  have n4 : 4 < Z.2.2.1 := by rw [e2]; decide
  refine r_bipush (pc' := 2) (v := -9) g dX8_worstOver_0 rfl rfl ?_
  refine r_istore_n (pc' := 3) (L' := [rf w 34, .int a1, .int a2, .int (-9), .null]) g dX8_worstOver_2 rfl n3 rfl rfl ?_
  refine r_iconst (pc' := 4) (v := 0) g dX8_worstOver_3 rfl rfl ?_
  refine r_istore (pc' := 6) (L' := [rf w 34, .int a1, .int a2, .int (-9), .int 0]) g dX8_worstOver_4 rfl n4 rfl rfl ?_
  refine r_weak (Ls2 (Ls2 (Ls2 (Ls2 (Ls2 Ls0))))) (s_X8_worstOver_6 g e2 e3 N a1 a2 _ (fun z4 M5 => ?_) N ((-9), 0) M)
  refine r_iload_n (pc' := 42) g dX8_worstOver_41 rfl rfl ?_
  exact r_iret g e3 dX8_worstOver_42
def f_X11_ruled (N : Nat) (a1 : Int32) (a2 : Int32) (M : Mm) : Rs :=
  bd (f_X10_isPlan N a1 M) fun r1 M2 =>
  (if r1 = 0 then
    (bd (f_X11_refuse N (-1) M2) fun r14 M15 =>
    (some (r14, M15)))
  else
    (lt' (fun (s3 : Unit) (M4 : Mm) =>
      ((bd (f_X11_theSet N  M4) fun r6 M7 =>
      (if r6 = 0 then
        (some ((-9), M7))
      else
        (bd (f_X8_worstOver N a1 r6 M7) fun r8 M9 =>
        (if a2 = 0 then
          (some (r8, M9))
        else
          (bd (f_X3_worstOver N a1 r6 M9) fun r10 M11 =>
          (some (r8 - r10, M11))))))) : Rs)) fun jn5 =>
    (if a2 = 0 then
      (jn5 () M2)
    else
      (if a2 = 1 then
        (jn5 () M2)
      else
        (bd (f_X11_refuse N (-2) M2) fun r12 M13 =>
        (some (r12, M13)))))))

set_option maxHeartbeats 4000000 in
set_option maxRecDepth 100000 in
theorem c_X11_ruled (l : Launch) (w : W0) (N : Nat) (a1 : Int32) (a2 : Int32) (M : Mm) : Ct l KC w 6 yX11_ruled cX11_ruled 5 (some .int) [rf w 0, .int a1, .int a2] M (f_X11_ruled N a1 a2 M) := by
  refine ct_of [rf w 0, .int a1, .int a2, .null, .null] (by decide) (Nat.le_of_ble_eq_true rfl) rfl (fun Z e1 e2 e3 g => ?_)
  have g : Good KC w Z cX11_ruled RX11 6 := g
  unfold f_X11_ruled
  have n3 : 3 < Z.2.2.1 := by rw [e2]; decide
  have n4 : 4 < Z.2.2.1 := by rw [e2]; decide
  refine r_aload_n (pc' := 1) g dX11_ruled_0 rfl rfl ?_
  refine r_get (pc' := 4) g dX11_ruled_1 rfl fl_X11_12 lC_0 (eC_0 w _ _) rfl ?_
  refine r_iload_n (pc' := 5) g dX11_ruled_4 rfl rfl ?_
  refine r_callVi (pc' := 8) (As := [.int a1]) (rest := []) g dX11_ruled_5 rfl ml_X11_163 mw_X10_isPlan mv_X10_isPlan (Nat.le_of_ble_eq_true rfl) (c_X10_isPlan _ w N a1 M) rfl lC_1 (eC_1 w _ _) rfl rfl (Nat.le_of_ble_eq_true rfl) (fun r1 M2 => ?_)
  refine r_ifne (pc' := 11) (tgt := 17) g dX11_ruled_8 rfl rfl ?_ ?_
  · skip
    refine r_iload_n (pc' := 18) g dX11_ruled_17 rfl rfl ?_
    refine r_jn (pj := 33) (Lj := fun (s3 : Unit) => [rf w 0, .int a1, .int a2, .null, .null]) (stj := fun (s3 : Unit) => []) (fun s3 M4 => ?_) (fun jn5 hjn5 => ?_)
    · skip
      refine r_aload_n (pc' := 34) g dX11_ruled_33 rfl rfl ?_
      refine r_callVi (pc' := 37) (As := []) (rest := []) g dX11_ruled_34 rfl ml_X11_159 mw_X11_theSet mv_X11_theSet (Nat.le_of_ble_eq_true rfl) (c_X11_theSet _ w N  M4) rfl lC_0 (eC_0 w _ _) rfl rfl (Nat.le_of_ble_eq_true rfl) (fun r6 M7 => ?_)
      refine r_istore_n (pc' := 38) (L' := [rf w 0, .int a1, .int a2, .int r6, .null]) g dX11_ruled_37 rfl n3 rfl rfl ?_
      refine r_iload_n (pc' := 39) g dX11_ruled_38 rfl rfl ?_
      refine r_ifne (pc' := 42) (tgt := 45) g dX11_ruled_39 rfl rfl ?_ ?_
      · skip
        refine r_aload_n (pc' := 46) g dX11_ruled_45 rfl rfl ?_
        refine r_get (pc' := 49) g dX11_ruled_46 rfl fl_X11_53 lC_0 (eC_0 w _ _) rfl ?_
        refine r_iload_n (pc' := 50) g dX11_ruled_49 rfl rfl ?_
        refine r_iload_n (pc' := 51) g dX11_ruled_50 rfl rfl ?_
        refine r_callVi (pc' := 54) (As := [.int a1, .int r6]) (rest := []) g dX11_ruled_51 rfl ml_X11_191 mw_X8_worstOver mv_X8_worstOver (Nat.le_of_ble_eq_true rfl) (c_X8_worstOver _ w N a1 r6 M7) rfl lC_34 (eC_34 w _ _) rfl rfl (Nat.le_of_ble_eq_true rfl) (fun r8 M9 => ?_)
        refine r_istore (pc' := 56) (L' := [rf w 0, .int a1, .int a2, .int r6, .int r8]) g dX11_ruled_54 rfl n4 rfl rfl ?_
        refine r_iload_n (pc' := 57) g dX11_ruled_56 rfl rfl ?_
        refine r_ifne (pc' := 60) (tgt := 65) g dX11_ruled_57 rfl rfl ?_ ?_
        · skip
          refine r_iload (pc' := 67) g dX11_ruled_65 rfl rfl ?_
          refine r_aload_n (pc' := 68) g dX11_ruled_67 rfl rfl ?_
          refine r_get (pc' := 71) g dX11_ruled_68 rfl fl_X11_60 lC_0 (eC_0 w _ _) rfl ?_
          refine r_iload_n (pc' := 72) g dX11_ruled_71 rfl rfl ?_
          refine r_iload_n (pc' := 73) g dX11_ruled_72 rfl rfl ?_
          refine r_callVi (pc' := 76) (As := [.int a1, .int r6]) (rest := [.int r8]) g dX11_ruled_73 rfl ml_X11_176 mw_X3_worstOver mv_X3_worstOver (Nat.le_of_ble_eq_true rfl) (c_X3_worstOver _ w N a1 r6 M9) rfl lC_38 (eC_38 w _ _) rfl rfl (Nat.le_of_ble_eq_true rfl) (fun r10 M11 => ?_)
          refine r_isub (pc' := 77) g dX11_ruled_76 rfl ?_
          exact r_iret g e3 dX11_ruled_77
        · skip
          refine r_iload (pc' := 62) g dX11_ruled_60 rfl rfl ?_
          refine r_goto (tgt := 77) g dX11_ruled_62 rfl ?_
          exact r_iret g e3 dX11_ruled_77
      · skip
        refine r_bipush (pc' := 44) (v := -9) g dX11_ruled_42 rfl rfl ?_
        exact r_iret g e3 dX11_ruled_44
    refine r_ifeq (pc' := 21) (tgt := 33) g dX11_ruled_18 rfl rfl ?_ ?_
    · skip
      exact r_weak (Ls2 (Ls2 (Ls2 (Ls1 (Ls1 Ls0))))) (hjn5 () M2)
    · skip
      refine r_iload_n (pc' := 22) g dX11_ruled_21 rfl rfl ?_
      refine r_iconst (pc' := 23) (v := 1) g dX11_ruled_22 rfl rfl ?_
      refine r_ceq (pc' := 26) (tgt := 33) g dX11_ruled_23 rfl rfl ?_ ?_
      · skip
        exact r_weak (Ls2 (Ls2 (Ls2 (Ls1 (Ls1 Ls0))))) (hjn5 () M2)
      · skip
        refine r_aload_n (pc' := 27) g dX11_ruled_26 rfl rfl ?_
        refine r_bipush (pc' := 29) (v := -2) g dX11_ruled_27 rfl rfl ?_
        refine r_callVi (pc' := 32) (As := [.int (-2)]) (rest := []) g dX11_ruled_29 rfl ml_X11_80 mw_X11_refuse mv_X11_refuse (Nat.le_of_ble_eq_true rfl) (c_X11_refuse _ w N (-2) M2) rfl lC_0 (eC_0 w _ _) rfl rfl (Nat.le_of_ble_eq_true rfl) (fun r12 M13 => ?_)
        exact r_iret g e3 dX11_ruled_32
  · skip
    refine r_aload_n (pc' := 12) g dX11_ruled_11 rfl rfl ?_
    refine r_iconst (pc' := 13) (v := -1) g dX11_ruled_12 rfl rfl ?_
    refine r_callVi (pc' := 16) (As := [.int (-1)]) (rest := []) g dX11_ruled_13 rfl ml_X11_80 mw_X11_refuse mv_X11_refuse (Nat.le_of_ble_eq_true rfl) (c_X11_refuse _ w N (-1) M2) rfl lC_0 (eC_0 w _ _) rfl rfl (Nat.le_of_ble_eq_true rfl) (fun r14 M15 => ?_)
    exact r_iret g e3 dX11_ruled_16
def B_X2_run_20 (N : Nat) (p1 : Int32) (p2 : Int32) (G : Unit → Mm → Rs) (rec : Int32 → Mm → Rs) (s : Int32) (M : Mm) : Rs :=
  if s < p1 then
      (if (M.1 50 6) = 0 then
        (bd (f_X3_bestOver N (M.1 50 5) M) fun r4 M5 =>
        (lt' (wI M5 50 1 r4) fun M6 =>
        (bd (f_X3_worstWorld N (M6.1 38 4) p2 M6) fun r7 M8 =>
        (bd (f_X3_of N (M6.1 38 4) r7 M8) fun r9 M10 =>
        (lt' (fun (s11 : Unit) (M12 : Mm) =>
          ((lt' (wI M12 50 4 ((M12.1 50 4) + 1)) fun M14 =>
          (lt' (fun (s15 : Int32) (M16 : Mm) =>
            ((if bz s15 then (lt' (wI M16 50 6 s15) fun M18 =>
            (if (M18.1 50 6) = 0 then
              (lt' (wI M18 50 5 ((M18.1 50 5) ||| (1 <<< (r7 &&& 31)))) fun M19 =>
              (rec (s + 1) M19))
            else
              (rec (s + 1) M18)) ) else none) : Rs)) fun jn17 =>
          (if (M14.1 50 2) = (M14.1 50 1) then
            (jn17 1 M14)
          else
            (jn17 0 M14)))) : Rs)) fun jn13 =>
        (lt' (fun (s20 : Unit) (M21 : Mm) =>
          ((lt' (wI M21 50 2 r9) fun M23 =>
          (lt' (wI M23 50 3 (M6.1 38 4)) fun M24 =>
          (jn13 () M24))) : Rs)) fun jn22 =>
        (if s = 0 then
          (jn22 () M10)
        else
          (if r9 < (M10.1 50 2) then
            (jn22 () M10)
          else
            (jn13 () M10)))))))))
      else
        (G () M))
    else
      (G () M)

def f_X2_run (N : Nat) (a1 : Int32) (a2 : Int32) (M : Mm) : Rs :=
  lt' (wI M 50 5 (a2 &&& (-a2))) fun M1 =>
  (lt' (wI M1 50 6 0) fun M2 =>
  (lt' (wI M2 50 4 0) fun M3 =>
  (itr (B_X2_run_20 N a1 a2 fun z25 M26 =>
  (some (0, M26))) N 0 M3)))

set_option maxHeartbeats 4000000 in
set_option maxRecDepth 100000 in
theorem s_X2_run_20 {w : W0} {Z : Zx} (g : Good KC w Z cX2_run RX2 6) (e2 : Z.2.2.1 = 7) (e3 : Z.2.2.2 = none) (N : Nat) (p1 : Int32) (p2 : Int32) (G : Unit → Mm → Rs) (kG : ∀ (x : Unit) (M : Mm), Sim KC w Z 162 [.null, .null, .null, .null, .null, .null, .null] [] M (G x M)) : ∀ (n : Nat) (s : Int32) (M : Mm), Sim KC w Z 20 [rf w 50, .int p1, .int p2, .int s, .null, .null, .null] [] M (itr (B_X2_run_20 N p1 p2 G) n s M) := by
  have n3 : 3 < Z.2.2.1 := by rw [e2]; decide
  have n4 : 4 < Z.2.2.1 := by rw [e2]; decide
  have n5 : 5 < Z.2.2.1 := by rw [e2]; decide
  have n6 : 6 < Z.2.2.1 := by rw [e2]; decide
  refine r_itr (Lf := fun (s : Int32) => [rf w 50, .int p1, .int p2, .int s, .null, .null, .null]) (fun rec hr s M => ?_)
  unfold B_X2_run_20
  refine r_iload_n (pc' := 21) g dX2_run_20 rfl rfl ?_
  refine r_iload_n (pc' := 22) g dX2_run_21 rfl rfl ?_
  refine r_cge (pc' := 25) (tgt := 162) g dX2_run_22 rfl rfl ?_ ?_
  · skip
    exact r_weak (Ls1 (Ls1 (Ls1 (Ls1 (Ls1 (Ls1 (Ls1 Ls0))))))) (kG () M)
  · skip
    refine r_aload_n (pc' := 26) g dX2_run_25 rfl rfl ?_
    refine r_get (pc' := 29) g dX2_run_26 rfl fl_X2_25 lC_50 (eC_50 w _ _) rfl ?_
    refine r_ifne (pc' := 32) (tgt := 162) g dX2_run_29 rfl rfl ?_ ?_
    · skip
      exact r_weak (Ls1 (Ls1 (Ls1 (Ls1 (Ls1 (Ls1 (Ls1 Ls0))))))) (kG () M)
    · skip
      refine r_aload_n (pc' := 33) g dX2_run_32 rfl rfl ?_
      refine r_aload_n (pc' := 34) g dX2_run_33 rfl rfl ?_
      refine r_get (pc' := 37) g dX2_run_34 rfl fl_X2_29 lC_50 (eC_50 w _ _) rfl ?_
      refine r_aload_n (pc' := 38) g dX2_run_37 rfl rfl ?_
      refine r_get (pc' := 41) g dX2_run_38 rfl fl_X2_22 lC_50 (eC_50 w _ _) rfl ?_
      refine r_callVi (pc' := 44) (As := [.int (M.1 50 5)]) (rest := [rf w 50]) g dX2_run_41 rfl ml_X2_33 mw_X3_bestOver mv_X3_bestOver (Nat.le_of_ble_eq_true rfl) (c_X3_bestOver _ w N (M.1 50 5) M) rfl lC_38 (eC_38 w _ _) rfl rfl (Nat.le_of_ble_eq_true rfl) (fun r4 M5 => ?_)
      refine r_put (pc' := 47) g dX2_run_44 rfl fl_X2_7 rfl lC_50 (eC_50 w _ _) (Nat.le_of_ble_eq_true rfl) (sC_50_1 w _ _ _) ?_
      refine r_ltM (fun M6 => ?_)
      refine r_aload_n (pc' := 48) g dX2_run_47 rfl rfl ?_
      refine r_get (pc' := 51) g dX2_run_48 rfl fl_X2_29 lC_50 (eC_50 w _ _) rfl ?_
      refine r_get (pc' := 54) g dX2_run_51 rfl fl_X2_39 lC_38 (eC_38 w _ _) rfl ?_
      refine r_istore (pc' := 56) (L' := [rf w 50, .int p1, .int p2, .int s, .int (M6.1 38 4), .null, .null]) g dX2_run_54 rfl n4 rfl rfl ?_
      refine r_aload_n (pc' := 57) g dX2_run_56 rfl rfl ?_
      refine r_get (pc' := 60) g dX2_run_57 rfl fl_X2_29 lC_50 (eC_50 w _ _) rfl ?_
      refine r_iload (pc' := 62) g dX2_run_60 rfl rfl ?_
      refine r_iload_n (pc' := 63) g dX2_run_62 rfl rfl ?_
      refine r_callVi (pc' := 66) (As := [.int (M6.1 38 4), .int p2]) (rest := []) g dX2_run_63 rfl ml_X2_42 mw_X3_worstWorld mv_X3_worstWorld (Nat.le_of_ble_eq_true rfl) (c_X3_worstWorld _ w N (M6.1 38 4) p2 M6) rfl lC_38 (eC_38 w _ _) rfl rfl (Nat.le_of_ble_eq_true rfl) (fun r7 M8 => ?_)
      refine r_istore (pc' := 68) (L' := [rf w 50, .int p1, .int p2, .int s, .int (M6.1 38 4), .int r7, .null]) g dX2_run_66 rfl n5 rfl rfl ?_
      refine r_aload_n (pc' := 69) g dX2_run_68 rfl rfl ?_
      refine r_get (pc' := 72) g dX2_run_69 rfl fl_X2_29 lC_50 (eC_50 w _ _) rfl ?_
      refine r_iload (pc' := 74) g dX2_run_72 rfl rfl ?_
      refine r_iload (pc' := 76) g dX2_run_74 rfl rfl ?_
      refine r_callVi (pc' := 79) (As := [.int (M6.1 38 4), .int r7]) (rest := []) g dX2_run_76 rfl ml_X2_46 mw_X3_of mv_X3_of (Nat.le_of_ble_eq_true rfl) (c_X3_of _ w N (M6.1 38 4) r7 M8) rfl lC_38 (eC_38 w _ _) rfl rfl (Nat.le_of_ble_eq_true rfl) (fun r9 M10 => ?_)
      refine r_istore (pc' := 81) (L' := [rf w 50, .int p1, .int p2, .int s, .int (M6.1 38 4), .int r7, .int r9]) g dX2_run_79 rfl n6 rfl rfl ?_
      refine r_iload_n (pc' := 82) g dX2_run_81 rfl rfl ?_
      refine r_jn (pj := 106) (Lj := fun (s11 : Unit) => [rf w 50, .int p1, .int p2, .int s, .null, .int r7, .null]) (stj := fun (s11 : Unit) => []) (fun s11 M12 => ?_) (fun jn13 hjn13 => ?_)
      · skip
        refine r_aload_n (pc' := 107) g dX2_run_106 rfl rfl ?_
        refine r_dupa (pc' := 108) g dX2_run_107 rfl ?_
        refine r_get (pc' := 111) g dX2_run_108 rfl fl_X2_19 lC_50 (eC_50 w _ _) rfl ?_
        refine r_iconst (pc' := 112) (v := 1) g dX2_run_111 rfl rfl ?_
        refine r_iadd (pc' := 113) g dX2_run_112 rfl ?_
        refine r_put (pc' := 116) g dX2_run_113 rfl fl_X2_19 rfl lC_50 (eC_50 w _ _) (Nat.le_of_ble_eq_true rfl) (sC_50_4 w _ _ _) ?_
        refine r_ltM (fun M14 => ?_)
        refine r_aload_n (pc' := 117) g dX2_run_116 rfl rfl ?_
        refine r_aload_n (pc' := 118) g dX2_run_117 rfl rfl ?_
        refine r_get (pc' := 121) g dX2_run_118 rfl fl_X2_13 lC_50 (eC_50 w _ _) rfl ?_
        refine r_aload_n (pc' := 122) g dX2_run_121 rfl rfl ?_
        refine r_get (pc' := 125) g dX2_run_122 rfl fl_X2_7 lC_50 (eC_50 w _ _) rfl ?_
        refine r_jn (pj := 133) (Lj := fun (s15 : Int32) => [rf w 50, .int p1, .int p2, .int s, .null, .int r7, .null]) (stj := fun (s15 : Int32) => [.int s15, rf w 50]) (fun s15 M16 => ?_) (fun jn17 hjn17 => ?_)
        · skip
          refine r_putzd (pc' := 136) g dX2_run_133 rfl fl_X2_25 rfl lC_50 (eC_50 w _ _) (Nat.le_of_ble_eq_true rfl) (sC_50_6 w _ _ _) ?_
          refine r_ltM (fun M18 => ?_)
          refine r_aload_n (pc' := 137) g dX2_run_136 rfl rfl ?_
          refine r_get (pc' := 140) g dX2_run_137 rfl fl_X2_25 lC_50 (eC_50 w _ _) rfl ?_
          refine r_ifne (pc' := 143) (tgt := 156) g dX2_run_140 rfl rfl ?_ ?_
          · skip
            refine r_iinc (pc' := 159) (b := 1) (L' := [rf w 50, .int p1, .int p2, .int (s + 1), .null, .int r7, .null]) g dX2_run_156 rfl rfl rfl n3 rfl rfl ?_
            refine r_goto (tgt := 20) g dX2_run_159 rfl ?_
            exact r_weak (Ls2 (Ls2 (Ls2 (Ls2 (Ls1 (Ls1 (Ls1 Ls0))))))) (hr (s + 1) M18)
          · skip
            refine r_aload_n (pc' := 144) g dX2_run_143 rfl rfl ?_
            refine r_dupa (pc' := 145) g dX2_run_144 rfl ?_
            refine r_get (pc' := 148) g dX2_run_145 rfl fl_X2_22 lC_50 (eC_50 w _ _) rfl ?_
            refine r_iconst (pc' := 149) (v := 1) g dX2_run_148 rfl rfl ?_
            refine r_iload (pc' := 151) g dX2_run_149 rfl rfl ?_
            refine r_ishl (pc' := 152) g dX2_run_151 rfl ?_
            refine r_ior (pc' := 153) g dX2_run_152 rfl ?_
            refine r_put (pc' := 156) g dX2_run_153 rfl fl_X2_22 rfl lC_50 (eC_50 w _ _) (Nat.le_of_ble_eq_true rfl) (sC_50_5 w _ _ _) ?_
            refine r_ltM (fun M19 => ?_)
            refine r_iinc (pc' := 159) (b := 1) (L' := [rf w 50, .int p1, .int p2, .int (s + 1), .null, .int r7, .null]) g dX2_run_156 rfl rfl rfl n3 rfl rfl ?_
            refine r_goto (tgt := 20) g dX2_run_159 rfl ?_
            exact r_weak (Ls2 (Ls2 (Ls2 (Ls2 (Ls1 (Ls1 (Ls1 Ls0))))))) (hr (s + 1) M19)
        refine r_cne (pc' := 128) (tgt := 132) g dX2_run_125 rfl rfl ?_ ?_
        · skip
          refine r_iconst (pc' := 133) (v := 0) g dX2_run_132 rfl rfl ?_
          exact r_weak (Ls2 (Ls2 (Ls2 (Ls2 (Ls1 (Ls2 (Ls1 Ls0))))))) (hjn17 0 M14)
        · skip
          refine r_iconst (pc' := 129) (v := 1) g dX2_run_128 rfl rfl ?_
          refine r_goto (tgt := 133) g dX2_run_129 rfl ?_
          exact r_weak (Ls2 (Ls2 (Ls2 (Ls2 (Ls1 (Ls2 (Ls1 Ls0))))))) (hjn17 1 M14)
      refine r_jn (pj := 94) (Lj := fun (s20 : Unit) => [rf w 50, .int p1, .int p2, .int s, .int (M6.1 38 4), .int r7, .int r9]) (stj := fun (s20 : Unit) => []) (fun s20 M21 => ?_) (fun jn22 hjn22 => ?_)
      · skip
        refine r_aload_n (pc' := 95) g dX2_run_94 rfl rfl ?_
        refine r_iload (pc' := 97) g dX2_run_95 rfl rfl ?_
        refine r_put (pc' := 100) g dX2_run_97 rfl fl_X2_13 rfl lC_50 (eC_50 w _ _) (Nat.le_of_ble_eq_true rfl) (sC_50_2 w _ _ _) ?_
        refine r_ltM (fun M23 => ?_)
        refine r_aload_n (pc' := 101) g dX2_run_100 rfl rfl ?_
        refine r_iload (pc' := 103) g dX2_run_101 rfl rfl ?_
        refine r_put (pc' := 106) g dX2_run_103 rfl fl_X2_16 rfl lC_50 (eC_50 w _ _) (Nat.le_of_ble_eq_true rfl) (sC_50_3 w _ _ _) ?_
        refine r_ltM (fun M24 => ?_)
        exact r_weak (Ls2 (Ls2 (Ls2 (Ls2 (Ls1 (Ls2 (Ls1 Ls0))))))) (hjn13 () M24)
      refine r_ifeq (pc' := 85) (tgt := 94) g dX2_run_82 rfl rfl ?_ ?_
      · skip
        exact r_weak (Ls2 (Ls2 (Ls2 (Ls2 (Ls2 (Ls2 (Ls2 Ls0))))))) (hjn22 () M10)
      · skip
        refine r_iload (pc' := 87) g dX2_run_85 rfl rfl ?_
        refine r_aload_n (pc' := 88) g dX2_run_87 rfl rfl ?_
        refine r_get (pc' := 91) g dX2_run_88 rfl fl_X2_13 lC_50 (eC_50 w _ _) rfl ?_
        refine r_cge (pc' := 94) (tgt := 106) g dX2_run_91 rfl rfl ?_ ?_
        · skip
          exact r_weak (Ls2 (Ls2 (Ls2 (Ls2 (Ls1 (Ls2 (Ls1 Ls0))))))) (hjn13 () M10)
        · skip
          exact r_weak (Ls2 (Ls2 (Ls2 (Ls2 (Ls2 (Ls2 (Ls2 Ls0))))))) (hjn22 () M10)
set_option maxHeartbeats 4000000 in
set_option maxRecDepth 100000 in
theorem c_X2_run (l : Launch) (w : W0) (N : Nat) (a1 : Int32) (a2 : Int32) (M : Mm) : Ct l KC w 6 yX2_run cX2_run 7 none [rf w 50, .int a1, .int a2] M (f_X2_run N a1 a2 M) := by
  refine ct_of [rf w 50, .int a1, .int a2, .null, .null, .null, .null] (by decide) (Nat.le_of_ble_eq_true rfl) rfl (fun Z e1 e2 e3 g => ?_)
  have g : Good KC w Z cX2_run RX2 6 := g
  unfold f_X2_run
  have n3 : 3 < Z.2.2.1 := by rw [e2]; decide
  refine r_aload_n (pc' := 1) g dX2_run_0 rfl rfl ?_
  refine r_iload_n (pc' := 2) g dX2_run_1 rfl rfl ?_
  refine r_iload_n (pc' := 3) g dX2_run_2 rfl rfl ?_
  refine r_ineg (pc' := 4) g dX2_run_3 rfl ?_
  refine r_iand (pc' := 5) g dX2_run_4 rfl ?_
  refine r_put (pc' := 8) g dX2_run_5 rfl fl_X2_22 rfl lC_50 (eC_50 w _ _) (Nat.le_of_ble_eq_true rfl) (sC_50_5 w _ _ _) ?_
  refine r_ltM (fun M1 => ?_)
  refine r_aload_n (pc' := 9) g dX2_run_8 rfl rfl ?_
  refine r_iconst (pc' := 10) (v := 0) g dX2_run_9 rfl rfl ?_
  refine r_putz (pc' := 13) g dX2_run_10 rfl fl_X2_25 rfl rfl lC_50 (eC_50 w _ _) (Nat.le_of_ble_eq_true rfl) (sC_50_6 w _ _ _) ?_
  refine r_ltM (fun M2 => ?_)
  refine r_aload_n (pc' := 14) g dX2_run_13 rfl rfl ?_
  refine r_iconst (pc' := 15) (v := 0) g dX2_run_14 rfl rfl ?_
  refine r_put (pc' := 18) g dX2_run_15 rfl fl_X2_19 rfl lC_50 (eC_50 w _ _) (Nat.le_of_ble_eq_true rfl) (sC_50_4 w _ _ _) ?_
  refine r_ltM (fun M3 => ?_)
  refine r_iconst (pc' := 19) (v := 0) g dX2_run_18 rfl rfl ?_
  refine r_istore_n (pc' := 20) (L' := [rf w 50, .int a1, .int a2, .int 0, .null, .null, .null]) g dX2_run_19 rfl n3 rfl rfl ?_
  refine r_weak (Ls2 (Ls2 (Ls2 (Ls2 (Ls1 (Ls1 (Ls1 Ls0))))))) (s_X2_run_20 g e2 e3 N a1 a2 _ (fun z25 M26 => ?_) N 0 M3)
  exact r_vret g e3 dX2_run_162
def f_X2_answer (N : Nat) (a1 : Int32) (M : Mm) : Rs :=
  if a1 = 0 then
    (some (M.1 50 1, M))
  else (if a1 = 1 then
    (some (M.1 50 2, M))
  else (if a1 = 2 then
    (some (M.1 50 3, M))
  else (if a1 = 3 then
    (some (M.1 50 4, M))
  else (if a1 = 4 then
    (bd (f_J6_bitCount_0f7a4 N (M.1 50 5) M) fun r6 M7 =>
    (some (r6, M7)))
  else (if (M.1 50 6) = 0 then
      (some (0, M))
    else
      (some (1, M)))))))

set_option maxHeartbeats 4000000 in
set_option maxRecDepth 100000 in
theorem c_X2_answer (l : Launch) (w : W0) (N : Nat) (a1 : Int32) (M : Mm) : Ct l KC w 1 yX2_answer cX2_answer 2 (some .int) [rf w 50, .int a1] M (f_X2_answer N a1 M) := by
  refine ct_of [rf w 50, .int a1] (by decide) (Nat.le_of_ble_eq_true rfl) rfl (fun Z e1 e2 e3 g => ?_)
  have g : Good KC w Z cX2_answer RX2 1 := g
  unfold f_X2_answer
  refine r_iload_n (pc' := 1) g dX2_answer_0 rfl rfl ?_
  refine r_tab (v := 0) (tgt := 36) g dX2_answer_1 (by decide) (by decide) rfl rfl ?_ (fun hq1 => ?_)
  · skip
    refine r_aload_n (pc' := 37) g dX2_answer_36 rfl rfl ?_
    refine r_get (pc' := 40) g dX2_answer_37 rfl fl_X2_7 lC_50 (eC_50 w _ _) rfl ?_
    exact r_iret g e3 dX2_answer_40
  refine r_tab (v := 1) (tgt := 41) g dX2_answer_1 (by decide) (by decide) rfl rfl ?_ (fun hq2 => ?_)
  · skip
    refine r_aload_n (pc' := 42) g dX2_answer_41 rfl rfl ?_
    refine r_get (pc' := 45) g dX2_answer_42 rfl fl_X2_13 lC_50 (eC_50 w _ _) rfl ?_
    exact r_iret g e3 dX2_answer_45
  refine r_tab (v := 2) (tgt := 46) g dX2_answer_1 (by decide) (by decide) rfl rfl ?_ (fun hq3 => ?_)
  · skip
    refine r_aload_n (pc' := 47) g dX2_answer_46 rfl rfl ?_
    refine r_get (pc' := 50) g dX2_answer_47 rfl fl_X2_16 lC_50 (eC_50 w _ _) rfl ?_
    exact r_iret g e3 dX2_answer_50
  refine r_tab (v := 3) (tgt := 51) g dX2_answer_1 (by decide) (by decide) rfl rfl ?_ (fun hq4 => ?_)
  · skip
    refine r_aload_n (pc' := 52) g dX2_answer_51 rfl rfl ?_
    refine r_get (pc' := 55) g dX2_answer_52 rfl fl_X2_19 lC_50 (eC_50 w _ _) rfl ?_
    exact r_iret g e3 dX2_answer_55
  refine r_tab (v := 4) (tgt := 56) g dX2_answer_1 (by decide) (by decide) rfl rfl ?_ (fun hq5 => ?_)
  · skip
    refine r_aload_n (pc' := 57) g dX2_answer_56 rfl rfl ?_
    refine r_get (pc' := 60) g dX2_answer_57 rfl fl_X2_22 lC_50 (eC_50 w _ _) rfl ?_
    refine r_callSi (pc' := 63) (As := [.int (M.1 50 5)]) (rest := []) g dX2_answer_60 rfl ml_X2_49 mw_J6_bitCount_0f7a4 ms_J6_bitCount_0f7a4 (Nat.le_of_ble_eq_true rfl) (c_J6_bitCount_0f7a4 _ w N (M.1 50 5) M) rfl rfl (Nat.le_of_ble_eq_true rfl) (fun r6 M7 => ?_)
    exact r_iret g e3 dX2_answer_63
  refine r_tabd (tgt := 64) g dX2_answer_1 (tb_out (n := 4) (by decide) (fun j hj => by match j, hj with | 0, _ => exact hq1 | 1, _ => exact hq2 | 2, _ => exact hq3 | 3, _ => exact hq4 | 4, _ => exact hq5 | j + 5, hj => exact absurd hj (by omega))) rfl ?_
  · skip
    refine r_aload_n (pc' := 65) g dX2_answer_64 rfl rfl ?_
    refine r_get (pc' := 68) g dX2_answer_65 rfl fl_X2_25 lC_50 (eC_50 w _ _) rfl ?_
    refine r_ifeq (pc' := 71) (tgt := 75) g dX2_answer_68 rfl rfl ?_ ?_
    · skip
      refine r_iconst (pc' := 76) (v := 0) g dX2_answer_75 rfl rfl ?_
      exact r_iret g e3 dX2_answer_76
    · skip
      refine r_iconst (pc' := 72) (v := 1) g dX2_answer_71 rfl rfl ?_
      refine r_goto (tgt := 76) g dX2_answer_72 rfl ?_
      exact r_iret g e3 dX2_answer_76
def f_X11_close (N : Nat) (a1 : Int32) (a2 : Int32) (M : Mm) : Rs :=
  if a2 < 0 then
    (bd (f_X11_refuse N (-2) M) fun r1 M2 =>
    (some (r1, M2)))
  else
    (if 5 < a2 then
      (bd (f_X11_refuse N (-2) M) fun r13 M14 =>
      (some (r13, M14)))
    else
      (if a1 < 1 then
        (bd (f_X11_refuse N (-4) M) fun r11 M12 =>
        (some (r11, M12)))
      else
        (if 99 < a1 then
          (bd (f_X11_refuse N (-6) M) fun r9 M10 =>
          (some (r9, M10)))
        else
          (bd (f_X11_theSet N  M) fun r3 M4 =>
          (if r3 = 0 then
            (some ((-9), M4))
          else
            (bd (f_X2_run N a1 r3 M4) fun r5 M6 =>
            (bd (f_X2_answer N a2 M6) fun r7 M8 =>
            (some (r7, M8)))))))))

set_option maxHeartbeats 4000000 in
set_option maxRecDepth 100000 in
theorem c_X11_close (l : Launch) (w : W0) (N : Nat) (a1 : Int32) (a2 : Int32) (M : Mm) : Ct l KC w 7 yX11_close cX11_close 4 (some .int) [rf w 0, .int a1, .int a2] M (f_X11_close N a1 a2 M) := by
  refine ct_of [rf w 0, .int a1, .int a2, .null] (by decide) (Nat.le_of_ble_eq_true rfl) rfl (fun Z e1 e2 e3 g => ?_)
  have g : Good KC w Z cX11_close RX11 7 := g
  unfold f_X11_close
  have n3 : 3 < Z.2.2.1 := by rw [e2]; decide
  refine r_iload_n (pc' := 1) g dX11_close_0 rfl rfl ?_
  refine r_iflt (pc' := 4) (tgt := 9) g dX11_close_1 rfl rfl ?_ ?_
  · skip
    refine r_aload_n (pc' := 10) g dX11_close_9 rfl rfl ?_
    refine r_bipush (pc' := 12) (v := -2) g dX11_close_10 rfl rfl ?_
    refine r_callVi (pc' := 15) (As := [.int (-2)]) (rest := []) g dX11_close_12 rfl ml_X11_80 mw_X11_refuse mv_X11_refuse (Nat.le_of_ble_eq_true rfl) (c_X11_refuse _ w N (-2) M) rfl lC_0 (eC_0 w _ _) rfl rfl (Nat.le_of_ble_eq_true rfl) (fun r1 M2 => ?_)
    exact r_iret g e3 dX11_close_15
  · skip
    refine r_iload_n (pc' := 5) g dX11_close_4 rfl rfl ?_
    refine r_iconst (pc' := 6) (v := 5) g dX11_close_5 rfl rfl ?_
    refine r_cle (pc' := 9) (tgt := 16) g dX11_close_6 rfl rfl ?_ ?_
    · skip
      refine r_iload_n (pc' := 17) g dX11_close_16 rfl rfl ?_
      refine r_iconst (pc' := 18) (v := 1) g dX11_close_17 rfl rfl ?_
      refine r_cge (pc' := 21) (tgt := 28) g dX11_close_18 rfl rfl ?_ ?_
      · skip
        refine r_iload_n (pc' := 29) g dX11_close_28 rfl rfl ?_
        refine r_bipush (pc' := 31) (v := 99) g dX11_close_29 rfl rfl ?_
        refine r_cle (pc' := 34) (tgt := 41) g dX11_close_31 rfl rfl ?_ ?_
        · skip
          refine r_aload_n (pc' := 42) g dX11_close_41 rfl rfl ?_
          refine r_callVi (pc' := 45) (As := []) (rest := []) g dX11_close_42 rfl ml_X11_159 mw_X11_theSet mv_X11_theSet (Nat.le_of_ble_eq_true rfl) (c_X11_theSet _ w N  M) rfl lC_0 (eC_0 w _ _) rfl rfl (Nat.le_of_ble_eq_true rfl) (fun r3 M4 => ?_)
          refine r_istore_n (pc' := 46) (L' := [rf w 0, .int a1, .int a2, .int r3]) g dX11_close_45 rfl n3 rfl rfl ?_
          refine r_iload_n (pc' := 47) g dX11_close_46 rfl rfl ?_
          refine r_ifne (pc' := 50) (tgt := 53) g dX11_close_47 rfl rfl ?_ ?_
          · skip
            refine r_aload_n (pc' := 54) g dX11_close_53 rfl rfl ?_
            refine r_get (pc' := 57) g dX11_close_54 rfl fl_X11_69 lC_0 (eC_0 w _ _) rfl ?_
            refine r_iload_n (pc' := 58) g dX11_close_57 rfl rfl ?_
            refine r_iload_n (pc' := 59) g dX11_close_58 rfl rfl ?_
            refine r_callVv (pc' := 62) (As := [.int a1, .int r3]) (rest := []) g dX11_close_59 rfl ml_X11_192 mw_X2_run mv_X2_run (Nat.le_of_ble_eq_true rfl) (c_X2_run _ w N a1 r3 M4) rfl lC_50 (eC_50 w _ _) rfl rfl (Nat.le_of_ble_eq_true rfl) (fun r5 M6 => ?_)
            refine r_aload_n (pc' := 63) g dX11_close_62 rfl rfl ?_
            refine r_get (pc' := 66) g dX11_close_63 rfl fl_X11_69 lC_0 (eC_0 w _ _) rfl ?_
            refine r_iload_n (pc' := 67) g dX11_close_66 rfl rfl ?_
            refine r_callVi (pc' := 70) (As := [.int a2]) (rest := []) g dX11_close_67 rfl ml_X11_196 mw_X2_answer mv_X2_answer (Nat.le_of_ble_eq_true rfl) (c_X2_answer _ w N a2 M6) rfl lC_50 (eC_50 w _ _) rfl rfl (Nat.le_of_ble_eq_true rfl) (fun r7 M8 => ?_)
            exact r_iret g e3 dX11_close_70
          · skip
            refine r_bipush (pc' := 52) (v := -9) g dX11_close_50 rfl rfl ?_
            exact r_iret g e3 dX11_close_52
        · skip
          refine r_aload_n (pc' := 35) g dX11_close_34 rfl rfl ?_
          refine r_bipush (pc' := 37) (v := -6) g dX11_close_35 rfl rfl ?_
          refine r_callVi (pc' := 40) (As := [.int (-6)]) (rest := []) g dX11_close_37 rfl ml_X11_80 mw_X11_refuse mv_X11_refuse (Nat.le_of_ble_eq_true rfl) (c_X11_refuse _ w N (-6) M) rfl lC_0 (eC_0 w _ _) rfl rfl (Nat.le_of_ble_eq_true rfl) (fun r9 M10 => ?_)
          exact r_iret g e3 dX11_close_40
      · skip
        refine r_aload_n (pc' := 22) g dX11_close_21 rfl rfl ?_
        refine r_bipush (pc' := 24) (v := -4) g dX11_close_22 rfl rfl ?_
        refine r_callVi (pc' := 27) (As := [.int (-4)]) (rest := []) g dX11_close_24 rfl ml_X11_80 mw_X11_refuse mv_X11_refuse (Nat.le_of_ble_eq_true rfl) (c_X11_refuse _ w N (-4) M) rfl lC_0 (eC_0 w _ _) rfl rfl (Nat.le_of_ble_eq_true rfl) (fun r11 M12 => ?_)
        exact r_iret g e3 dX11_close_27
    · skip
      refine r_aload_n (pc' := 10) g dX11_close_9 rfl rfl ?_
      refine r_bipush (pc' := 12) (v := -2) g dX11_close_10 rfl rfl ?_
      refine r_callVi (pc' := 15) (As := [.int (-2)]) (rest := []) g dX11_close_12 rfl ml_X11_80 mw_X11_refuse mv_X11_refuse (Nat.le_of_ble_eq_true rfl) (c_X11_refuse _ w N (-2) M) rfl lC_0 (eC_0 w _ _) rfl rfl (Nat.le_of_ble_eq_true rfl) (fun r13 M14 => ?_)
      exact r_iret g e3 dX11_close_15
def f_X11_put (N : Nat) (a1 : Int32) (M : Mm) : Rs :=
  if (M.1 0 6) < 12 then
    (if inb (M.1 0 6) 12 then
    (lt' (wI M 32 (ix (M.1 0 6)) a1) fun M1 =>
    (lt' (wI M1 0 6 ((M1.1 0 6) + 1)) fun M2 =>
    (some (M2.1 0 6, M2)))) else none)
  else
    (bd (f_X11_refuse N (-6) M) fun r3 M4 =>
    (some (r3, M4)))

set_option maxHeartbeats 4000000 in
set_option maxRecDepth 100000 in
theorem c_X11_put (l : Launch) (w : W0) (N : Nat) (a1 : Int32) (M : Mm) : Ct l KC w 1 yX11_put cX11_put 2 (some .int) [rf w 0, .int a1] M (f_X11_put N a1 M) := by
  refine ct_of [rf w 0, .int a1] (by decide) (Nat.le_of_ble_eq_true rfl) rfl (fun Z e1 e2 e3 g => ?_)
  have g : Good KC w Z cX11_put RX11 1 := g
  unfold f_X11_put
  refine r_aload_n (pc' := 1) g dX11_put_0 rfl rfl ?_
  refine r_get (pc' := 4) g dX11_put_1 rfl fl_X11_41 lC_0 (eC_0 w _ _) rfl ?_
  refine r_bipush (pc' := 6) (v := 12) g dX11_put_4 rfl rfl ?_
  refine r_clt (pc' := 9) (tgt := 16) g dX11_put_6 rfl rfl ?_ ?_
  · skip
    refine r_aload_n (pc' := 17) g dX11_put_16 rfl rfl ?_
    refine r_get (pc' := 20) g dX11_put_17 rfl fl_X11_37 lC_0 (eC_0 w _ _) rfl ?_
    refine r_aload_n (pc' := 21) g dX11_put_20 rfl rfl ?_
    refine r_get (pc' := 24) g dX11_put_21 rfl fl_X11_41 lC_0 (eC_0 w _ _) rfl ?_
    refine r_iload_n (pc' := 25) g dX11_put_24 rfl rfl ?_
    refine r_iast (pc' := 26) g dX11_put_25 rfl lC_32 (fun m => eC_32 w m _) ?_
    refine r_ltM (fun M1 => ?_)
    refine r_aload_n (pc' := 27) g dX11_put_26 rfl rfl ?_
    refine r_dupa (pc' := 28) g dX11_put_27 rfl ?_
    refine r_get (pc' := 31) g dX11_put_28 rfl fl_X11_41 lC_0 (eC_0 w _ _) rfl ?_
    refine r_iconst (pc' := 32) (v := 1) g dX11_put_31 rfl rfl ?_
    refine r_iadd (pc' := 33) g dX11_put_32 rfl ?_
    refine r_put (pc' := 36) g dX11_put_33 rfl fl_X11_41 rfl lC_0 (eC_0 w _ _) (Nat.le_of_ble_eq_true rfl) (sC_0_6 w _ _ _) ?_
    refine r_ltM (fun M2 => ?_)
    refine r_aload_n (pc' := 37) g dX11_put_36 rfl rfl ?_
    refine r_get (pc' := 40) g dX11_put_37 rfl fl_X11_41 lC_0 (eC_0 w _ _) rfl ?_
    exact r_iret g e3 dX11_put_40
  · skip
    refine r_aload_n (pc' := 10) g dX11_put_9 rfl rfl ?_
    refine r_bipush (pc' := 12) (v := -6) g dX11_put_10 rfl rfl ?_
    refine r_callVi (pc' := 15) (As := [.int (-6)]) (rest := []) g dX11_put_12 rfl ml_X11_80 mw_X11_refuse mv_X11_refuse (Nat.le_of_ble_eq_true rfl) (c_X11_refuse _ w N (-6) M) rfl lC_0 (eC_0 w _ _) rfl rfl (Nat.le_of_ble_eq_true rfl) (fun r3 M4 => ?_)
    exact r_iret g e3 dX11_put_15
def B_X6_failureAt_17 (N : Nat) (p0 : Int32) (p3 : Int32) (p4 : Int32) (p5 : Int32) (G : Unit → Mm → Rs) (rec : Int32 → Mm → Rs) (s : Int32) (M : Mm) : Rs :=
  if s < 4 then
      (if inb ((24 + (s * 4)) + p0) 43 then
      (lt' (M.1 2 (ix ((24 + (s * 4)) + p0))) fun x1 =>
      (bd (f_X10_balance N s p3 p4 M) fun r2 M3 =>
      (if 0 < r2 then
        (if inb (4 + s) 12 then
        (if ((M3.1 32 (ix (4 + s))) + x1) < p5 then
          (some ((100 + (10 * s)) + p0, M3))
        else
          (rec (s + 1) M3)) else none)
      else
        (rec (s + 1) M3)))) else none)
    else
      (G () M)

def f_X6_failureAt (N : Nat) (a0 : Int32) (a3 : Int32) (a4 : Int32) (M : Mm) : Rs :=
  if inb a0 12 then
  (itr (B_X6_failureAt_17 N a0 a3 a4 (M.1 32 (ix a0)) fun z4 M5 =>
  (if inb (8 + a0) 12 then
  (if inb ((a0 * 6) + 3) 43 then
  (if ((M5.1 32 (ix (8 + a0))) + (M5.1 2 (ix ((a0 * 6) + 3)))) < (M.1 32 (ix a0)) then
    (some (200 + a0, M5))
  else
    (if (M5.1 2 (ix 41)) < (M.1 32 (ix a0)) then
      (some (300 + a0, M5))
    else
      (some ((-1), M5)))) else none) else none)) N 0 M) else none

set_option maxHeartbeats 4000000 in
set_option maxRecDepth 100000 in
theorem s_X6_failureAt_17 {w : W0} {Z : Zx} (g : Good KC w Z cX6_failureAt RX6 1) (e2 : Z.2.2.1 = 8) (e3 : Z.2.2.2 = (some .int)) (N : Nat) (p0 : Int32) (p3 : Int32) (p4 : Int32) (p5 : Int32) (G : Unit → Mm → Rs) (kG : ∀ (x : Unit) (M : Mm), Sim KC w Z 82 [.int p0, rf w 32, rf w 1, .null, .null, .int p5, .null, .null] [] M (G x M)) : ∀ (n : Nat) (s : Int32) (M : Mm), Sim KC w Z 17 [.int p0, rf w 32, rf w 1, .int p3, .int p4, .int p5, .int s, .null] [] M (itr (B_X6_failureAt_17 N p0 p3 p4 p5 G) n s M) := by
  have n6 : 6 < Z.2.2.1 := by rw [e2]; decide
  have n7 : 7 < Z.2.2.1 := by rw [e2]; decide
  refine r_itr (Lf := fun (s : Int32) => [.int p0, rf w 32, rf w 1, .int p3, .int p4, .int p5, .int s, .null]) (fun rec hr s M => ?_)
  unfold B_X6_failureAt_17
  refine r_iload (pc' := 19) g dX6_failureAt_17 rfl rfl ?_
  refine r_iconst (pc' := 20) (v := 4) g dX6_failureAt_19 rfl rfl ?_
  refine r_cge (pc' := 23) (tgt := 82) g dX6_failureAt_20 rfl rfl ?_ ?_
  · skip
    exact r_weak (Ls2 (Ls2 (Ls2 (Ls1 (Ls1 (Ls2 (Ls1 (Ls1 Ls0)))))))) (kG () M)
  · skip
    refine r_aload_n (pc' := 24) g dX6_failureAt_23 rfl rfl ?_
    refine r_get (pc' := 27) g dX6_failureAt_24 rfl fl_X6_21 lC_1 (eC_1 w _ _) rfl ?_
    refine r_bipush (pc' := 29) (v := 24) g dX6_failureAt_27 rfl rfl ?_
    refine r_iload (pc' := 31) g dX6_failureAt_29 rfl rfl ?_
    refine r_iconst (pc' := 32) (v := 4) g dX6_failureAt_31 rfl rfl ?_
    refine r_imul (pc' := 33) g dX6_failureAt_32 rfl ?_
    refine r_iadd (pc' := 34) g dX6_failureAt_33 rfl ?_
    refine r_iload_n (pc' := 35) g dX6_failureAt_34 rfl rfl ?_
    refine r_iadd (pc' := 36) g dX6_failureAt_35 rfl ?_
    refine r_iald (pc' := 37) g dX6_failureAt_36 rfl lC_2 (eC_2 w _ _) ?_
    refine r_ltI (fun x1 => ?_)
    refine r_istore (pc' := 39) (L' := [.int p0, rf w 32, rf w 1, .int p3, .int p4, .int p5, .int s, .int x1]) g dX6_failureAt_37 rfl n7 rfl rfl ?_
    refine r_aload_n (pc' := 40) g dX6_failureAt_39 rfl rfl ?_
    refine r_iload (pc' := 42) g dX6_failureAt_40 rfl rfl ?_
    refine r_iload_n (pc' := 43) g dX6_failureAt_42 rfl rfl ?_
    refine r_iload (pc' := 45) g dX6_failureAt_43 rfl rfl ?_
    refine r_callVi (pc' := 48) (As := [.int s, .int p3, .int p4]) (rest := []) g dX6_failureAt_45 rfl ml_X6_9 mw_X10_balance mv_X10_balance (Nat.le_of_ble_eq_true rfl) (c_X10_balance _ w N s p3 p4 M) rfl lC_1 (eC_1 w _ _) rfl rfl (Nat.le_of_ble_eq_true rfl) (fun r2 M3 => ?_)
    refine r_ifle (pc' := 51) (tgt := 76) g dX6_failureAt_48 rfl rfl ?_ ?_
    · skip
      refine r_iinc (pc' := 79) (b := 1) (L' := [.int p0, rf w 32, rf w 1, .int p3, .int p4, .int p5, .int (s + 1), .int x1]) g dX6_failureAt_76 rfl rfl rfl n6 rfl rfl ?_
      refine r_goto (tgt := 17) g dX6_failureAt_79 rfl ?_
      exact r_weak (Ls2 (Ls2 (Ls2 (Ls2 (Ls2 (Ls2 (Ls2 (Ls1 Ls0)))))))) (hr (s + 1) M3)
    · skip
      refine r_iload (pc' := 53) g dX6_failureAt_51 rfl rfl ?_
      refine r_aload_n (pc' := 54) g dX6_failureAt_53 rfl rfl ?_
      refine r_iconst (pc' := 55) (v := 4) g dX6_failureAt_54 rfl rfl ?_
      refine r_iload (pc' := 57) g dX6_failureAt_55 rfl rfl ?_
      refine r_iadd (pc' := 58) g dX6_failureAt_57 rfl ?_
      refine r_iald (pc' := 59) g dX6_failureAt_58 rfl lC_32 (eC_32 w _ _) ?_
      refine r_iload (pc' := 61) g dX6_failureAt_59 rfl rfl ?_
      refine r_iadd (pc' := 62) g dX6_failureAt_61 rfl ?_
      refine r_cle (pc' := 65) (tgt := 76) g dX6_failureAt_62 rfl rfl ?_ ?_
      · skip
        refine r_iinc (pc' := 79) (b := 1) (L' := [.int p0, rf w 32, rf w 1, .int p3, .int p4, .int p5, .int (s + 1), .int x1]) g dX6_failureAt_76 rfl rfl rfl n6 rfl rfl ?_
        refine r_goto (tgt := 17) g dX6_failureAt_79 rfl ?_
        exact r_weak (Ls2 (Ls2 (Ls2 (Ls2 (Ls2 (Ls2 (Ls2 (Ls1 Ls0)))))))) (hr (s + 1) M3)
      · skip
        refine r_bipush (pc' := 67) (v := 100) g dX6_failureAt_65 rfl rfl ?_
        refine r_bipush (pc' := 69) (v := 10) g dX6_failureAt_67 rfl rfl ?_
        refine r_iload (pc' := 71) g dX6_failureAt_69 rfl rfl ?_
        refine r_imul (pc' := 72) g dX6_failureAt_71 rfl ?_
        refine r_iadd (pc' := 73) g dX6_failureAt_72 rfl ?_
        refine r_iload_n (pc' := 74) g dX6_failureAt_73 rfl rfl ?_
        refine r_iadd (pc' := 75) g dX6_failureAt_74 rfl ?_
        exact r_iret g e3 dX6_failureAt_75
set_option maxHeartbeats 4000000 in
set_option maxRecDepth 100000 in
theorem c_X6_failureAt (l : Launch) (w : W0) (N : Nat) (a0 : Int32) (a3 : Int32) (a4 : Int32) (M : Mm) : Ct l KC w 1 yX6_failureAt cX6_failureAt 8 (some .int) [.int a0, rf w 32, rf w 1, .int a3, .int a4] M (f_X6_failureAt N a0 a3 a4 M) := by
  refine ct_of [.int a0, rf w 32, rf w 1, .int a3, .int a4, .null, .null, .null] (by decide) (Nat.le_of_ble_eq_true rfl) rfl (fun Z e1 e2 e3 g => ?_)
  have g : Good KC w Z cX6_failureAt RX6 1 := g
  unfold f_X6_failureAt
  have n5 : 5 < Z.2.2.1 := by rw [e2]; decide
  have n6 : 6 < Z.2.2.1 := by rw [e2]; decide
  refine r_aload_n (pc' := 1) g dX6_failureAt_0 rfl rfl ?_
  refine r_alen (pc' := 2) (v := 12) (t := 0) g dX6_failureAt_1 rfl lC_32 (eC_32 w _ _) rfl rfl ?_
  refine r_bipush (pc' := 4) (v := 12) g dX6_failureAt_2 rfl rfl ?_
  refine r_cge_t (tgt := 9) g dX6_failureAt_4 rfl (by decide) ?_
  refine r_aload_n (pc' := 10) g dX6_failureAt_9 rfl rfl ?_
  refine r_iload_n (pc' := 11) g dX6_failureAt_10 rfl rfl ?_
  refine r_iald (pc' := 12) g dX6_failureAt_11 rfl lC_32 (eC_32 w _ _) ?_
  refine r_istore (pc' := 14) (L' := [.int a0, rf w 32, rf w 1, .int a3, .int a4, .int (M.1 32 (ix a0)), .null, .null]) g dX6_failureAt_12 rfl n5 rfl rfl ?_
  refine r_iconst (pc' := 15) (v := 0) g dX6_failureAt_14 rfl rfl ?_
  refine r_istore (pc' := 17) (L' := [.int a0, rf w 32, rf w 1, .int a3, .int a4, .int (M.1 32 (ix a0)), .int 0, .null]) g dX6_failureAt_15 rfl n6 rfl rfl ?_
  refine r_weak (Ls2 (Ls2 (Ls2 (Ls2 (Ls2 (Ls2 (Ls2 (Ls1 Ls0)))))))) (s_X6_failureAt_17 g e2 e3 N a0 a3 a4 (M.1 32 (ix a0)) _ (fun z4 M5 => ?_) N 0 M)
  refine r_iload (pc' := 84) g dX6_failureAt_82 rfl rfl ?_
  refine r_aload_n (pc' := 85) g dX6_failureAt_84 rfl rfl ?_
  refine r_bipush (pc' := 87) (v := 8) g dX6_failureAt_85 rfl rfl ?_
  refine r_iload_n (pc' := 88) g dX6_failureAt_87 rfl rfl ?_
  refine r_iadd (pc' := 89) g dX6_failureAt_88 rfl ?_
  refine r_iald (pc' := 90) g dX6_failureAt_89 rfl lC_32 (eC_32 w _ _) ?_
  refine r_aload_n (pc' := 91) g dX6_failureAt_90 rfl rfl ?_
  refine r_get (pc' := 94) g dX6_failureAt_91 rfl fl_X6_21 lC_1 (eC_1 w _ _) rfl ?_
  refine r_iload_n (pc' := 95) g dX6_failureAt_94 rfl rfl ?_
  refine r_bipush (pc' := 97) (v := 6) g dX6_failureAt_95 rfl rfl ?_
  refine r_imul (pc' := 98) g dX6_failureAt_97 rfl ?_
  refine r_iconst (pc' := 99) (v := 3) g dX6_failureAt_98 rfl rfl ?_
  refine r_iadd (pc' := 100) g dX6_failureAt_99 rfl ?_
  refine r_iald (pc' := 101) g dX6_failureAt_100 rfl lC_2 (eC_2 w _ _) ?_
  refine r_iadd (pc' := 102) g dX6_failureAt_101 rfl ?_
  refine r_cle (pc' := 105) (tgt := 111) g dX6_failureAt_102 rfl rfl ?_ ?_
  · skip
    refine r_iload (pc' := 113) g dX6_failureAt_111 rfl rfl ?_
    refine r_aload_n (pc' := 114) g dX6_failureAt_113 rfl rfl ?_
    refine r_get (pc' := 117) g dX6_failureAt_114 rfl fl_X6_21 lC_1 (eC_1 w _ _) rfl ?_
    refine r_bipush (pc' := 119) (v := 41) g dX6_failureAt_117 rfl rfl ?_
    refine r_ialdc (pc' := 120) g dX6_failureAt_119 rfl lC_2 (eC_2 w _ _) rfl ?_
    refine r_cle (pc' := 123) (tgt := 131) g dX6_failureAt_120 rfl rfl ?_ ?_
    · skip
      refine r_iconst (pc' := 132) (v := -1) g dX6_failureAt_131 rfl rfl ?_
      exact r_iret g e3 dX6_failureAt_132
    · skip
      refine r_sipush (pc' := 126) (v := 300) g dX6_failureAt_123 rfl rfl ?_
      refine r_iload_n (pc' := 127) g dX6_failureAt_126 rfl rfl ?_
      refine r_iadd (pc' := 128) g dX6_failureAt_127 rfl ?_
      refine r_goto (tgt := 132) g dX6_failureAt_128 rfl ?_
      exact r_iret g e3 dX6_failureAt_132
  · skip
    refine r_sipush (pc' := 108) (v := 200) g dX6_failureAt_105 rfl rfl ?_
    refine r_iload_n (pc' := 109) g dX6_failureAt_108 rfl rfl ?_
    refine r_iadd (pc' := 110) g dX6_failureAt_109 rfl ?_
    exact r_iret g e3 dX6_failureAt_110
def B_X6_failureOf_3 (N : Nat) (p2 : Int32) (p3 : Int32) (G : Unit → Mm → Rs) (rec : Int32 → Mm → Rs) (s : Int32) (M : Mm) : Rs :=
  if s < 12 then
      (if inb s 12 then
      (if (M.1 32 (ix s)) < 0 then
        (some (s, M))
      else
        (if inb s 12 then
        (if 9999 < (M.1 32 (ix s)) then
          (some (s, M))
        else
          (rec (s + 1) M)) else none)) else none)
    else
      (G () M)

def B_X6_failureOf_39 (N : Nat) (p2 : Int32) (p3 : Int32) (G : Unit → Mm → Rs) (rec : Int32 → Mm → Rs) (s : Int32) (M : Mm) : Rs :=
  if s < 4 then
      (bd (f_X10_balance N s p2 p3 M) fun r3 M4 =>
      (if r3 < 0 then
        (bd (f_X6_failureAt N s p2 p3 M4) fun r5 M6 =>
        (if r5 < 0 then
          (rec (s + 1) M6)
        else
          (some (r5, M6))))
      else
        (rec (s + 1) M4)))
    else
      (G () M)

def f_X6_failureOf (N : Nat) (a2 : Int32) (a3 : Int32) (M : Mm) : Rs :=
  itr (B_X6_failureOf_3 N a2 a3 fun z1 M2 =>
  (itr (B_X6_failureOf_39 N a2 a3 fun z7 M8 =>
  (some ((-1), M8))) N 0 M2)) N 0 M

set_option maxHeartbeats 4000000 in
set_option maxRecDepth 100000 in
theorem s_X6_failureOf_3 {w : W0} {Z : Zx} (g : Good KC w Z cX6_failureOf RX6 2) (e2 : Z.2.2.1 = 6) (e3 : Z.2.2.2 = (some .int)) (N : Nat) (p2 : Int32) (p3 : Int32) (G : Unit → Mm → Rs) (kG : ∀ (x : Unit) (M : Mm), Sim KC w Z 36 [rf w 32, rf w 1, .int p2, .int p3, .null, .null] [] M (G x M)) : ∀ (n : Nat) (s : Int32) (M : Mm), Sim KC w Z 3 [rf w 32, rf w 1, .int p2, .int p3, .int s, .null] [] M (itr (B_X6_failureOf_3 N p2 p3 G) n s M) := by
  have n4 : 4 < Z.2.2.1 := by rw [e2]; decide
  refine r_itr (Lf := fun (s : Int32) => [rf w 32, rf w 1, .int p2, .int p3, .int s, .null]) (fun rec hr s M => ?_)
  unfold B_X6_failureOf_3
  refine r_iload (pc' := 5) g dX6_failureOf_3 rfl rfl ?_
  refine r_aload_n (pc' := 6) g dX6_failureOf_5 rfl rfl ?_
  refine r_alen (pc' := 7) (v := 12) (t := 0) g dX6_failureOf_6 rfl lC_32 (eC_32 w _ _) rfl rfl ?_
  refine r_cge (pc' := 10) (tgt := 36) g dX6_failureOf_7 rfl rfl ?_ ?_
  · skip
    exact r_weak (Ls2 (Ls2 (Ls2 (Ls2 (Ls1 (Ls1 Ls0)))))) (kG () M)
  · skip
    refine r_aload_n (pc' := 11) g dX6_failureOf_10 rfl rfl ?_
    refine r_iload (pc' := 13) g dX6_failureOf_11 rfl rfl ?_
    refine r_iald (pc' := 14) g dX6_failureOf_13 rfl lC_32 (eC_32 w _ _) ?_
    refine r_iflt (pc' := 17) (tgt := 27) g dX6_failureOf_14 rfl rfl ?_ ?_
    · skip
      refine r_iload (pc' := 29) g dX6_failureOf_27 rfl rfl ?_
      exact r_iret g e3 dX6_failureOf_29
    · skip
      refine r_aload_n (pc' := 18) g dX6_failureOf_17 rfl rfl ?_
      refine r_iload (pc' := 20) g dX6_failureOf_18 rfl rfl ?_
      refine r_iald (pc' := 21) g dX6_failureOf_20 rfl lC_32 (eC_32 w _ _) ?_
      refine r_sipush (pc' := 24) (v := 9999) g dX6_failureOf_21 rfl rfl ?_
      refine r_cle (pc' := 27) (tgt := 30) g dX6_failureOf_24 rfl rfl ?_ ?_
      · skip
        refine r_iinc (pc' := 33) (b := 1) (L' := [rf w 32, rf w 1, .int p2, .int p3, .int (s + 1), .null]) g dX6_failureOf_30 rfl rfl rfl n4 rfl rfl ?_
        refine r_goto (tgt := 3) g dX6_failureOf_33 rfl ?_
        exact r_weak (Ls2 (Ls2 (Ls2 (Ls2 (Ls2 (Ls1 Ls0)))))) (hr (s + 1) M)
      · skip
        refine r_iload (pc' := 29) g dX6_failureOf_27 rfl rfl ?_
        exact r_iret g e3 dX6_failureOf_29
set_option maxHeartbeats 4000000 in
set_option maxRecDepth 100000 in
theorem s_X6_failureOf_39 {w : W0} {Z : Zx} (g : Good KC w Z cX6_failureOf RX6 2) (e2 : Z.2.2.1 = 6) (e3 : Z.2.2.2 = (some .int)) (N : Nat) (p2 : Int32) (p3 : Int32) (G : Unit → Mm → Rs) (kG : ∀ (x : Unit) (M : Mm), Sim KC w Z 84 [.null, .null, .null, .null, .null, .null] [] M (G x M)) : ∀ (n : Nat) (s : Int32) (M : Mm), Sim KC w Z 39 [rf w 32, rf w 1, .int p2, .int p3, .int s, .null] [] M (itr (B_X6_failureOf_39 N p2 p3 G) n s M) := by
  have n4 : 4 < Z.2.2.1 := by rw [e2]; decide
  have n5 : 5 < Z.2.2.1 := by rw [e2]; decide
  refine r_itr (Lf := fun (s : Int32) => [rf w 32, rf w 1, .int p2, .int p3, .int s, .null]) (fun rec hr s M => ?_)
  unfold B_X6_failureOf_39
  refine r_iload (pc' := 41) g dX6_failureOf_39 rfl rfl ?_
  refine r_iconst (pc' := 42) (v := 4) g dX6_failureOf_41 rfl rfl ?_
  refine r_cge (pc' := 45) (tgt := 84) g dX6_failureOf_42 rfl rfl ?_ ?_
  · skip
    exact r_weak (Ls1 (Ls1 (Ls1 (Ls1 (Ls1 (Ls1 Ls0)))))) (kG () M)
  · skip
    refine r_aload_n (pc' := 46) g dX6_failureOf_45 rfl rfl ?_
    refine r_iload (pc' := 48) g dX6_failureOf_46 rfl rfl ?_
    refine r_iload_n (pc' := 49) g dX6_failureOf_48 rfl rfl ?_
    refine r_iload_n (pc' := 50) g dX6_failureOf_49 rfl rfl ?_
    refine r_callVi (pc' := 53) (As := [.int s, .int p2, .int p3]) (rest := []) g dX6_failureOf_50 rfl ml_X6_9 mw_X10_balance mv_X10_balance (Nat.le_of_ble_eq_true rfl) (c_X10_balance _ w N s p2 p3 M) rfl lC_1 (eC_1 w _ _) rfl rfl (Nat.le_of_ble_eq_true rfl) (fun r3 M4 => ?_)
    refine r_iflt (pc' := 56) (tgt := 59) g dX6_failureOf_53 rfl rfl ?_ ?_
    · skip
      refine r_iload (pc' := 61) g dX6_failureOf_59 rfl rfl ?_
      refine r_aload_n (pc' := 62) g dX6_failureOf_61 rfl rfl ?_
      refine r_aload_n (pc' := 63) g dX6_failureOf_62 rfl rfl ?_
      refine r_iload_n (pc' := 64) g dX6_failureOf_63 rfl rfl ?_
      refine r_iload_n (pc' := 65) g dX6_failureOf_64 rfl rfl ?_
      refine r_callSi (pc' := 68) (As := [.int s, rf w 32, rf w 1, .int p2, .int p3]) (rest := []) g dX6_failureOf_65 rfl ml_X6_15 mw_X6_failureAt ms_X6_failureAt (Nat.le_of_ble_eq_true rfl) (c_X6_failureAt _ w N s p2 p3 M4) rfl rfl (Nat.le_of_ble_eq_true rfl) (fun r5 M6 => ?_)
      refine r_istore (pc' := 70) (L' := [rf w 32, rf w 1, .int p2, .int p3, .int s, .int r5]) g dX6_failureOf_68 rfl n5 rfl rfl ?_
      refine r_iload (pc' := 72) g dX6_failureOf_70 rfl rfl ?_
      refine r_iflt (pc' := 75) (tgt := 78) g dX6_failureOf_72 rfl rfl ?_ ?_
      · skip
        refine r_iinc (pc' := 81) (b := 1) (L' := [rf w 32, rf w 1, .int p2, .int p3, .int (s + 1), .int r5]) g dX6_failureOf_78 rfl rfl rfl n4 rfl rfl ?_
        refine r_goto (tgt := 39) g dX6_failureOf_81 rfl ?_
        exact r_weak (Ls2 (Ls2 (Ls2 (Ls2 (Ls2 (Ls1 Ls0)))))) (hr (s + 1) M6)
      · skip
        refine r_iload (pc' := 77) g dX6_failureOf_75 rfl rfl ?_
        exact r_iret g e3 dX6_failureOf_77
    · skip
      refine r_goto (tgt := 78) g dX6_failureOf_56 rfl ?_
      refine r_iinc (pc' := 81) (b := 1) (L' := [rf w 32, rf w 1, .int p2, .int p3, .int (s + 1), .null]) g dX6_failureOf_78 rfl rfl rfl n4 rfl rfl ?_
      refine r_goto (tgt := 39) g dX6_failureOf_81 rfl ?_
      exact r_weak (Ls2 (Ls2 (Ls2 (Ls2 (Ls2 (Ls1 Ls0)))))) (hr (s + 1) M4)
set_option maxHeartbeats 4000000 in
set_option maxRecDepth 100000 in
theorem c_X6_failureOf (l : Launch) (w : W0) (N : Nat) (a2 : Int32) (a3 : Int32) (M : Mm) : Ct l KC w 2 yX6_failureOf cX6_failureOf 6 (some .int) [rf w 32, rf w 1, .int a2, .int a3] M (f_X6_failureOf N a2 a3 M) := by
  refine ct_of [rf w 32, rf w 1, .int a2, .int a3, .null, .null] (by decide) (Nat.le_of_ble_eq_true rfl) rfl (fun Z e1 e2 e3 g => ?_)
  have g : Good KC w Z cX6_failureOf RX6 2 := g
  unfold f_X6_failureOf
  have n4 : 4 < Z.2.2.1 := by rw [e2]; decide
  refine r_iconst (pc' := 1) (v := 0) g dX6_failureOf_0 rfl rfl ?_
  refine r_istore (pc' := 3) (L' := [rf w 32, rf w 1, .int a2, .int a3, .int 0, .null]) g dX6_failureOf_1 rfl n4 rfl rfl ?_
  refine r_weak (Ls2 (Ls2 (Ls2 (Ls2 (Ls2 (Ls1 Ls0)))))) (s_X6_failureOf_3 g e2 e3 N a2 a3 _ (fun z1 M2 => ?_) N 0 M)
  refine r_iconst (pc' := 37) (v := 0) g dX6_failureOf_36 rfl rfl ?_
  refine r_istore (pc' := 39) (L' := [rf w 32, rf w 1, .int a2, .int a3, .int 0, .null]) g dX6_failureOf_37 rfl n4 rfl rfl ?_
  refine r_weak (Ls2 (Ls2 (Ls2 (Ls2 (Ls2 (Ls1 Ls0)))))) (s_X6_failureOf_39 g e2 e3 N a2 a3 _ (fun z7 M8 => ?_) N 0 M2)
  refine r_iconst (pc' := 85) (v := -1) g dX6_failureOf_84 rfl rfl ?_
  exact r_iret g e3 dX6_failureOf_85
def B_X6_worthOf_15 (N : Nat) (p2 : Int32) (p3 : Int32) (G : Int32 → Mm → Rs) (rec : (Int32 × Int32) → Mm → Rs) (s : Int32 × Int32) (M : Mm) : Rs :=
  if s.2 < 4 then
      (bd (f_X10_balance N s.2 p2 p3 M) fun r1 M2 =>
      (lt' (fun (s3 : Int32) (M4 : Mm) =>
        ((if r1 < 0 then
          (if inb s.2 12 then
          (if inb (8 + s.2) 12 then
          (if inb ((s.2 * 6) + 4) 43 then
          (lt' (s3 - (((M4.1 32 (ix s.2)) * r1) + ((M4.1 32 (ix (8 + s.2))) * (M4.1 2 (ix ((s.2 * 6) + 4)))))) fun x6 =>
          (rec (x6, s.2 + 1) M4)) else none) else none) else none)
        else
          (rec (s3, s.2 + 1) M4)) : Rs)) fun jn5 =>
      (if 0 < r1 then
        (if inb (4 + s.2) 12 then
        (lt' (s.1 - ((M2.1 32 (ix (4 + s.2))) * r1)) fun x7 =>
        (jn5 x7 M2)) else none)
      else
        (jn5 s.1 M2))))
    else
      (G s.1 M)

def f_X6_worthOf (N : Nat) (a2 : Int32) (a3 : Int32) (M : Mm) : Rs :=
  itr (B_X6_worthOf_15 N a2 a3 fun z8 M9 =>
  (some (if 0 < z8 then z8 else 0, M9))) N (0, 0) M

set_option maxHeartbeats 4000000 in
set_option maxRecDepth 100000 in
theorem s_X6_worthOf_15 {w : W0} {Z : Zx} (g : Good KC w Z cX6_worthOf RX6 1) (e2 : Z.2.2.1 = 7) (e3 : Z.2.2.2 = (some .int)) (N : Nat) (p2 : Int32) (p3 : Int32) (G : Int32 → Mm → Rs) (kG : ∀ (x : Int32) (M : Mm), Sim KC w Z 94 [.null, .null, .null, .null, .int x, .null, .null] [] M (G x M)) : ∀ (n : Nat) (s : Int32 × Int32) (M : Mm), Sim KC w Z 15 [rf w 32, rf w 1, .int p2, .int p3, .int s.1, .int s.2, .null] [] M (itr (B_X6_worthOf_15 N p2 p3 G) n s M) := by
  have n4 : 4 < Z.2.2.1 := by rw [e2]; decide
  have n5 : 5 < Z.2.2.1 := by rw [e2]; decide
  have n6 : 6 < Z.2.2.1 := by rw [e2]; decide
  refine r_itr (Lf := fun (s : Int32 × Int32) => [rf w 32, rf w 1, .int p2, .int p3, .int s.1, .int s.2, .null]) (fun rec hr s M => ?_)
  unfold B_X6_worthOf_15
  refine r_iload (pc' := 17) g dX6_worthOf_15 rfl rfl ?_
  refine r_iconst (pc' := 18) (v := 4) g dX6_worthOf_17 rfl rfl ?_
  refine r_cge (pc' := 21) (tgt := 94) g dX6_worthOf_18 rfl rfl ?_ ?_
  · skip
    exact r_weak (Ls1 (Ls1 (Ls1 (Ls1 (Ls2 (Ls1 (Ls1 Ls0))))))) (kG s.1 M)
  · skip
    refine r_aload_n (pc' := 22) g dX6_worthOf_21 rfl rfl ?_
    refine r_iload (pc' := 24) g dX6_worthOf_22 rfl rfl ?_
    refine r_iload_n (pc' := 25) g dX6_worthOf_24 rfl rfl ?_
    refine r_iload_n (pc' := 26) g dX6_worthOf_25 rfl rfl ?_
    refine r_callVi (pc' := 29) (As := [.int s.2, .int p2, .int p3]) (rest := []) g dX6_worthOf_26 rfl ml_X6_9 mw_X10_balance mv_X10_balance (Nat.le_of_ble_eq_true rfl) (c_X10_balance _ w N s.2 p2 p3 M) rfl lC_1 (eC_1 w _ _) rfl rfl (Nat.le_of_ble_eq_true rfl) (fun r1 M2 => ?_)
    refine r_istore (pc' := 31) (L' := [rf w 32, rf w 1, .int p2, .int p3, .int s.1, .int s.2, .int r1]) g dX6_worthOf_29 rfl n6 rfl rfl ?_
    refine r_iload (pc' := 33) g dX6_worthOf_31 rfl rfl ?_
    refine r_jn (pj := 50) (Lj := fun (s3 : Int32) => [rf w 32, rf w 1, .int p2, .int p3, .int s3, .int s.2, .int r1]) (stj := fun (s3 : Int32) => []) (fun s3 M4 => ?_) (fun jn5 hjn5 => ?_)
    · skip
      refine r_iload (pc' := 52) g dX6_worthOf_50 rfl rfl ?_
      refine r_ifge (pc' := 55) (tgt := 88) g dX6_worthOf_52 rfl rfl ?_ ?_
      · skip
        refine r_iinc (pc' := 91) (b := 1) (L' := [rf w 32, rf w 1, .int p2, .int p3, .int s3, .int (s.2 + 1), .int r1]) g dX6_worthOf_88 rfl rfl rfl n5 rfl rfl ?_
        refine r_goto (tgt := 15) g dX6_worthOf_91 rfl ?_
        exact r_weak (Ls2 (Ls2 (Ls2 (Ls2 (Ls2 (Ls2 (Ls1 Ls0))))))) (hr (s3, s.2 + 1) M4)
      · skip
        refine r_iload (pc' := 57) g dX6_worthOf_55 rfl rfl ?_
        refine r_aload_n (pc' := 58) g dX6_worthOf_57 rfl rfl ?_
        refine r_iload (pc' := 60) g dX6_worthOf_58 rfl rfl ?_
        refine r_iald (pc' := 61) g dX6_worthOf_60 rfl lC_32 (eC_32 w _ _) ?_
        refine r_iload (pc' := 63) g dX6_worthOf_61 rfl rfl ?_
        refine r_imul (pc' := 64) g dX6_worthOf_63 rfl ?_
        refine r_aload_n (pc' := 65) g dX6_worthOf_64 rfl rfl ?_
        refine r_bipush (pc' := 67) (v := 8) g dX6_worthOf_65 rfl rfl ?_
        refine r_iload (pc' := 69) g dX6_worthOf_67 rfl rfl ?_
        refine r_iadd (pc' := 70) g dX6_worthOf_69 rfl ?_
        refine r_iald (pc' := 71) g dX6_worthOf_70 rfl lC_32 (eC_32 w _ _) ?_
        refine r_aload_n (pc' := 72) g dX6_worthOf_71 rfl rfl ?_
        refine r_get (pc' := 75) g dX6_worthOf_72 rfl fl_X6_21 lC_1 (eC_1 w _ _) rfl ?_
        refine r_iload (pc' := 77) g dX6_worthOf_75 rfl rfl ?_
        refine r_bipush (pc' := 79) (v := 6) g dX6_worthOf_77 rfl rfl ?_
        refine r_imul (pc' := 80) g dX6_worthOf_79 rfl ?_
        refine r_iconst (pc' := 81) (v := 4) g dX6_worthOf_80 rfl rfl ?_
        refine r_iadd (pc' := 82) g dX6_worthOf_81 rfl ?_
        refine r_iald (pc' := 83) g dX6_worthOf_82 rfl lC_2 (eC_2 w _ _) ?_
        refine r_imul (pc' := 84) g dX6_worthOf_83 rfl ?_
        refine r_iadd (pc' := 85) g dX6_worthOf_84 rfl ?_
        refine r_isub (pc' := 86) g dX6_worthOf_85 rfl ?_
        refine r_ltI (fun x6 => ?_)
        refine r_istore (pc' := 88) (L' := [rf w 32, rf w 1, .int p2, .int p3, .int x6, .int s.2, .int r1]) g dX6_worthOf_86 rfl n4 rfl rfl ?_
        refine r_iinc (pc' := 91) (b := 1) (L' := [rf w 32, rf w 1, .int p2, .int p3, .int x6, .int (s.2 + 1), .int r1]) g dX6_worthOf_88 rfl rfl rfl n5 rfl rfl ?_
        refine r_goto (tgt := 15) g dX6_worthOf_91 rfl ?_
        exact r_weak (Ls2 (Ls2 (Ls2 (Ls2 (Ls2 (Ls2 (Ls1 Ls0))))))) (hr (x6, s.2 + 1) M4)
    refine r_ifle (pc' := 36) (tgt := 50) g dX6_worthOf_33 rfl rfl ?_ ?_
    · skip
      exact r_weak (Ls2 (Ls2 (Ls2 (Ls2 (Ls2 (Ls2 (Ls2 Ls0))))))) (hjn5 s.1 M2)
    · skip
      refine r_iload (pc' := 38) g dX6_worthOf_36 rfl rfl ?_
      refine r_aload_n (pc' := 39) g dX6_worthOf_38 rfl rfl ?_
      refine r_iconst (pc' := 40) (v := 4) g dX6_worthOf_39 rfl rfl ?_
      refine r_iload (pc' := 42) g dX6_worthOf_40 rfl rfl ?_
      refine r_iadd (pc' := 43) g dX6_worthOf_42 rfl ?_
      refine r_iald (pc' := 44) g dX6_worthOf_43 rfl lC_32 (eC_32 w _ _) ?_
      refine r_iload (pc' := 46) g dX6_worthOf_44 rfl rfl ?_
      refine r_imul (pc' := 47) g dX6_worthOf_46 rfl ?_
      refine r_isub (pc' := 48) g dX6_worthOf_47 rfl ?_
      refine r_ltI (fun x7 => ?_)
      refine r_istore (pc' := 50) (L' := [rf w 32, rf w 1, .int p2, .int p3, .int x7, .int s.2, .int r1]) g dX6_worthOf_48 rfl n4 rfl rfl ?_
      exact r_weak (Ls2 (Ls2 (Ls2 (Ls2 (Ls2 (Ls2 (Ls2 Ls0))))))) (hjn5 x7 M2)
set_option maxHeartbeats 4000000 in
set_option maxRecDepth 100000 in
theorem c_X6_worthOf (l : Launch) (w : W0) (N : Nat) (a2 : Int32) (a3 : Int32) (M : Mm) : Ct l KC w 1 yX6_worthOf cX6_worthOf 7 (some .int) [rf w 32, rf w 1, .int a2, .int a3] M (f_X6_worthOf N a2 a3 M) := by
  refine ct_of [rf w 32, rf w 1, .int a2, .int a3, .null, .null, .null] (by decide) (Nat.le_of_ble_eq_true rfl) rfl (fun Z e1 e2 e3 g => ?_)
  have g : Good KC w Z cX6_worthOf RX6 1 := g
  unfold f_X6_worthOf
  have n4 : 4 < Z.2.2.1 := by rw [e2]; decide
  have n5 : 5 < Z.2.2.1 := by rw [e2]; decide
  refine r_aload_n (pc' := 1) g dX6_worthOf_0 rfl rfl ?_
  refine r_alen (pc' := 2) (v := 12) (t := 0) g dX6_worthOf_1 rfl lC_32 (eC_32 w _ _) rfl rfl ?_
  refine r_bipush (pc' := 4) (v := 12) g dX6_worthOf_2 rfl rfl ?_
  refine r_cge_t (tgt := 9) g dX6_worthOf_4 rfl (by decide) ?_
  refine r_iconst (pc' := 10) (v := 0) g dX6_worthOf_9 rfl rfl ?_
  refine r_istore (pc' := 12) (L' := [rf w 32, rf w 1, .int a2, .int a3, .int 0, .null, .null]) g dX6_worthOf_10 rfl n4 rfl rfl ?_
  refine r_iconst (pc' := 13) (v := 0) g dX6_worthOf_12 rfl rfl ?_
  refine r_istore (pc' := 15) (L' := [rf w 32, rf w 1, .int a2, .int a3, .int 0, .int 0, .null]) g dX6_worthOf_13 rfl n5 rfl rfl ?_
  refine r_weak (Ls2 (Ls2 (Ls2 (Ls2 (Ls2 (Ls2 (Ls1 Ls0))))))) (s_X6_worthOf_15 g e2 e3 N a2 a3 _ (fun z8 M9 => ?_) N (0, 0) M)
  refine r_iconst (pc' := 95) (v := 0) g dX6_worthOf_94 rfl rfl ?_
  refine r_iload (pc' := 97) g dX6_worthOf_95 rfl rfl ?_
  refine r_max (pc' := 100) g dX6_worthOf_97 rfl mm_X6_25 mm_max_s mm_i mm_max_c (Nat.le_of_ble_eq_true rfl) ?_
  exact r_iret g e3 dX6_worthOf_100
def f_X11_prove (N : Nat) (a1 : Int32) (a2 : Int32) (M : Mm) : Rs :=
  bd (f_X10_isPlan N a1 M) fun r1 M2 =>
  (if r1 = 0 then
    (bd (f_X11_refuse N (-1) M2) fun r3 M4 =>
    (some (r3, M4)))
  else
    (bd (f_X10_isWorld N a2 M2) fun r5 M6 =>
    (if r5 = 0 then
      (bd (f_X11_refuse N (-1) M6) fun r14 M15 =>
      (some (r14, M15)))
    else
      (if (M6.1 0 6) = 12 then
        (lt' (wI M6 0 6 0) fun M7 =>
        (bd (f_X6_failureOf N a1 a2 M7) fun r8 M9 =>
        (if r8 < 0 then
          (bd (f_X6_worthOf N a1 a2 M9) fun r10 M11 =>
          (some (r10, M11)))
        else
          (some ((-1000) - r8, M9)))))
      else
        (bd (f_X11_refuse N (-3) M6) fun r12 M13 =>
        (some (r12, M13)))))))

set_option maxHeartbeats 4000000 in
set_option maxRecDepth 100000 in
theorem c_X11_prove (l : Launch) (w : W0) (N : Nat) (a1 : Int32) (a2 : Int32) (M : Mm) : Ct l KC w 3 yX11_prove cX11_prove 4 (some .int) [rf w 0, .int a1, .int a2] M (f_X11_prove N a1 a2 M) := by
  refine ct_of [rf w 0, .int a1, .int a2, .null] (by decide) (Nat.le_of_ble_eq_true rfl) rfl (fun Z e1 e2 e3 g => ?_)
  have g : Good KC w Z cX11_prove RX11 3 := g
  unfold f_X11_prove
  have n3 : 3 < Z.2.2.1 := by rw [e2]; decide
  refine r_aload_n (pc' := 1) g dX11_prove_0 rfl rfl ?_
  refine r_get (pc' := 4) g dX11_prove_1 rfl fl_X11_12 lC_0 (eC_0 w _ _) rfl ?_
  refine r_iload_n (pc' := 5) g dX11_prove_4 rfl rfl ?_
  refine r_callVi (pc' := 8) (As := [.int a1]) (rest := []) g dX11_prove_5 rfl ml_X11_163 mw_X10_isPlan mv_X10_isPlan (Nat.le_of_ble_eq_true rfl) (c_X10_isPlan _ w N a1 M) rfl lC_1 (eC_1 w _ _) rfl rfl (Nat.le_of_ble_eq_true rfl) (fun r1 M2 => ?_)
  refine r_ifeq (pc' := 11) (tgt := 22) g dX11_prove_8 rfl rfl ?_ ?_
  · skip
    refine r_aload_n (pc' := 23) g dX11_prove_22 rfl rfl ?_
    refine r_iconst (pc' := 24) (v := -1) g dX11_prove_23 rfl rfl ?_
    refine r_callVi (pc' := 27) (As := [.int (-1)]) (rest := []) g dX11_prove_24 rfl ml_X11_80 mw_X11_refuse mv_X11_refuse (Nat.le_of_ble_eq_true rfl) (c_X11_refuse _ w N (-1) M2) rfl lC_0 (eC_0 w _ _) rfl rfl (Nat.le_of_ble_eq_true rfl) (fun r3 M4 => ?_)
    exact r_iret g e3 dX11_prove_27
  · skip
    refine r_aload_n (pc' := 12) g dX11_prove_11 rfl rfl ?_
    refine r_get (pc' := 15) g dX11_prove_12 rfl fl_X11_12 lC_0 (eC_0 w _ _) rfl ?_
    refine r_iload_n (pc' := 16) g dX11_prove_15 rfl rfl ?_
    refine r_callVi (pc' := 19) (As := [.int a2]) (rest := []) g dX11_prove_16 rfl ml_X11_166 mw_X10_isWorld mv_X10_isWorld (Nat.le_of_ble_eq_true rfl) (c_X10_isWorld _ w N a2 M2) rfl lC_1 (eC_1 w _ _) rfl rfl (Nat.le_of_ble_eq_true rfl) (fun r5 M6 => ?_)
    refine r_ifne (pc' := 22) (tgt := 28) g dX11_prove_19 rfl rfl ?_ ?_
    · skip
      refine r_aload_n (pc' := 29) g dX11_prove_28 rfl rfl ?_
      refine r_get (pc' := 32) g dX11_prove_29 rfl fl_X11_41 lC_0 (eC_0 w _ _) rfl ?_
      refine r_bipush (pc' := 34) (v := 12) g dX11_prove_32 rfl rfl ?_
      refine r_ceq (pc' := 37) (tgt := 44) g dX11_prove_34 rfl rfl ?_ ?_
      · skip
        refine r_aload_n (pc' := 45) g dX11_prove_44 rfl rfl ?_
        refine r_iconst (pc' := 46) (v := 0) g dX11_prove_45 rfl rfl ?_
        refine r_put (pc' := 49) g dX11_prove_46 rfl fl_X11_41 rfl lC_0 (eC_0 w _ _) (Nat.le_of_ble_eq_true rfl) (sC_0_6 w _ _ _) ?_
        refine r_ltM (fun M7 => ?_)
        refine r_aload_n (pc' := 50) g dX11_prove_49 rfl rfl ?_
        refine r_get (pc' := 53) g dX11_prove_50 rfl fl_X11_37 lC_0 (eC_0 w _ _) rfl ?_
        refine r_aload_n (pc' := 54) g dX11_prove_53 rfl rfl ?_
        refine r_get (pc' := 57) g dX11_prove_54 rfl fl_X11_12 lC_0 (eC_0 w _ _) rfl ?_
        refine r_iload_n (pc' := 58) g dX11_prove_57 rfl rfl ?_
        refine r_iload_n (pc' := 59) g dX11_prove_58 rfl rfl ?_
        refine r_callSi (pc' := 62) (As := [rf w 32, rf w 1, .int a1, .int a2]) (rest := []) g dX11_prove_59 rfl ml_X11_199 mw_X6_failureOf ms_X6_failureOf (Nat.le_of_ble_eq_true rfl) (c_X6_failureOf _ w N a1 a2 M7) rfl rfl (Nat.le_of_ble_eq_true rfl) (fun r8 M9 => ?_)
        refine r_istore_n (pc' := 63) (L' := [rf w 0, .int a1, .int a2, .int r8]) g dX11_prove_62 rfl n3 rfl rfl ?_
        refine r_iload_n (pc' := 64) g dX11_prove_63 rfl rfl ?_
        refine r_iflt (pc' := 67) (tgt := 75) g dX11_prove_64 rfl rfl ?_ ?_
        · skip
          refine r_aload_n (pc' := 76) g dX11_prove_75 rfl rfl ?_
          refine r_get (pc' := 79) g dX11_prove_76 rfl fl_X11_37 lC_0 (eC_0 w _ _) rfl ?_
          refine r_aload_n (pc' := 80) g dX11_prove_79 rfl rfl ?_
          refine r_get (pc' := 83) g dX11_prove_80 rfl fl_X11_12 lC_0 (eC_0 w _ _) rfl ?_
          refine r_iload_n (pc' := 84) g dX11_prove_83 rfl rfl ?_
          refine r_iload_n (pc' := 85) g dX11_prove_84 rfl rfl ?_
          refine r_callSi (pc' := 88) (As := [rf w 32, rf w 1, .int a1, .int a2]) (rest := []) g dX11_prove_85 rfl ml_X11_205 mw_X6_worthOf ms_X6_worthOf (Nat.le_of_ble_eq_true rfl) (c_X6_worthOf _ w N a1 a2 M9) rfl rfl (Nat.le_of_ble_eq_true rfl) (fun r10 M11 => ?_)
          exact r_iret g e3 dX11_prove_88
        · skip
          refine r_sipush (pc' := 70) (v := -1000) g dX11_prove_67 rfl rfl ?_
          refine r_iload_n (pc' := 71) g dX11_prove_70 rfl rfl ?_
          refine r_isub (pc' := 72) g dX11_prove_71 rfl ?_
          refine r_goto (tgt := 88) g dX11_prove_72 rfl ?_
          exact r_iret g e3 dX11_prove_88
      · skip
        refine r_aload_n (pc' := 38) g dX11_prove_37 rfl rfl ?_
        refine r_bipush (pc' := 40) (v := -3) g dX11_prove_38 rfl rfl ?_
        refine r_callVi (pc' := 43) (As := [.int (-3)]) (rest := []) g dX11_prove_40 rfl ml_X11_80 mw_X11_refuse mv_X11_refuse (Nat.le_of_ble_eq_true rfl) (c_X11_refuse _ w N (-3) M6) rfl lC_0 (eC_0 w _ _) rfl rfl (Nat.le_of_ble_eq_true rfl) (fun r12 M13 => ?_)
        exact r_iret g e3 dX11_prove_43
    · skip
      refine r_aload_n (pc' := 23) g dX11_prove_22 rfl rfl ?_
      refine r_iconst (pc' := 24) (v := -1) g dX11_prove_23 rfl rfl ?_
      refine r_callVi (pc' := 27) (As := [.int (-1)]) (rest := []) g dX11_prove_24 rfl ml_X11_80 mw_X11_refuse mv_X11_refuse (Nat.le_of_ble_eq_true rfl) (c_X11_refuse _ w N (-1) M6) rfl lC_0 (eC_0 w _ _) rfl rfl (Nat.le_of_ble_eq_true rfl) (fun r14 M15 => ?_)
      exact r_iret g e3 dX11_prove_27
def f_X11_promise (N : Nat) (a1 : Int32) (a2 : Int32) (a3 : Int32) (M : Mm) : Rs :=
  bd (f_X10_isPlan N a1 M) fun r1 M2 =>
  (if r1 = 0 then
    (bd (f_X11_refuse N (-1) M2) fun r3 M4 =>
    (some (r3, M4)))
  else
    (bd (f_X10_isWorld N a3 M2) fun r5 M6 =>
    (if r5 = 0 then
      (bd (f_X11_refuse N (-1) M6) fun r19 M20 =>
      (some (r19, M20)))
    else
      (if a2 < 0 then
        (bd (f_X11_refuse N (-4) M6) fun r17 M18 =>
        (some (r17, M18)))
      else
        (if 9 < a2 then
          (bd (f_X11_refuse N (-6) M6) fun r15 M16 =>
          (some (r15, M16)))
        else
          (bd (f_X11_theSet N  M6) fun r7 M8 =>
          (bd (f_X10_seenBy N a2 M8) fun r9 M10 =>
          (bd (f_X11_alike N r7 a3 r9 M10) fun r11 M12 =>
          (bd (f_X3_worstOver N a1 r11 M12) fun r13 M14 =>
          (some (r13, M14)))))))))))

set_option maxHeartbeats 4000000 in
set_option maxRecDepth 100000 in
theorem c_X11_promise (l : Launch) (w : W0) (N : Nat) (a1 : Int32) (a2 : Int32) (a3 : Int32) (M : Mm) : Ct l KC w 6 yX11_promise cX11_promise 4 (some .int) [rf w 0, .int a1, .int a2, .int a3] M (f_X11_promise N a1 a2 a3 M) := by
  refine ct_of [rf w 0, .int a1, .int a2, .int a3] (by decide) (Nat.le_of_ble_eq_true rfl) rfl (fun Z e1 e2 e3 g => ?_)
  have g : Good KC w Z cX11_promise RX11 6 := g
  unfold f_X11_promise
  refine r_aload_n (pc' := 1) g dX11_promise_0 rfl rfl ?_
  refine r_get (pc' := 4) g dX11_promise_1 rfl fl_X11_12 lC_0 (eC_0 w _ _) rfl ?_
  refine r_iload_n (pc' := 5) g dX11_promise_4 rfl rfl ?_
  refine r_callVi (pc' := 8) (As := [.int a1]) (rest := []) g dX11_promise_5 rfl ml_X11_163 mw_X10_isPlan mv_X10_isPlan (Nat.le_of_ble_eq_true rfl) (c_X10_isPlan _ w N a1 M) rfl lC_1 (eC_1 w _ _) rfl rfl (Nat.le_of_ble_eq_true rfl) (fun r1 M2 => ?_)
  refine r_ifeq (pc' := 11) (tgt := 22) g dX11_promise_8 rfl rfl ?_ ?_
  · skip
    refine r_aload_n (pc' := 23) g dX11_promise_22 rfl rfl ?_
    refine r_iconst (pc' := 24) (v := -1) g dX11_promise_23 rfl rfl ?_
    refine r_callVi (pc' := 27) (As := [.int (-1)]) (rest := []) g dX11_promise_24 rfl ml_X11_80 mw_X11_refuse mv_X11_refuse (Nat.le_of_ble_eq_true rfl) (c_X11_refuse _ w N (-1) M2) rfl lC_0 (eC_0 w _ _) rfl rfl (Nat.le_of_ble_eq_true rfl) (fun r3 M4 => ?_)
    exact r_iret g e3 dX11_promise_27
  · skip
    refine r_aload_n (pc' := 12) g dX11_promise_11 rfl rfl ?_
    refine r_get (pc' := 15) g dX11_promise_12 rfl fl_X11_12 lC_0 (eC_0 w _ _) rfl ?_
    refine r_iload_n (pc' := 16) g dX11_promise_15 rfl rfl ?_
    refine r_callVi (pc' := 19) (As := [.int a3]) (rest := []) g dX11_promise_16 rfl ml_X11_166 mw_X10_isWorld mv_X10_isWorld (Nat.le_of_ble_eq_true rfl) (c_X10_isWorld _ w N a3 M2) rfl lC_1 (eC_1 w _ _) rfl rfl (Nat.le_of_ble_eq_true rfl) (fun r5 M6 => ?_)
    refine r_ifne (pc' := 22) (tgt := 28) g dX11_promise_19 rfl rfl ?_ ?_
    · skip
      refine r_iload_n (pc' := 29) g dX11_promise_28 rfl rfl ?_
      refine r_ifge (pc' := 32) (tgt := 39) g dX11_promise_29 rfl rfl ?_ ?_
      · skip
        refine r_iload_n (pc' := 40) g dX11_promise_39 rfl rfl ?_
        refine r_bipush (pc' := 42) (v := 9) g dX11_promise_40 rfl rfl ?_
        refine r_cle (pc' := 45) (tgt := 52) g dX11_promise_42 rfl rfl ?_ ?_
        · skip
          refine r_aload_n (pc' := 53) g dX11_promise_52 rfl rfl ?_
          refine r_get (pc' := 56) g dX11_promise_53 rfl fl_X11_60 lC_0 (eC_0 w _ _) rfl ?_
          refine r_iload_n (pc' := 57) g dX11_promise_56 rfl rfl ?_
          refine r_aload_n (pc' := 58) g dX11_promise_57 rfl rfl ?_
          refine r_callVi (pc' := 61) (As := []) (rest := [.int a1, rf w 38]) g dX11_promise_58 rfl ml_X11_159 mw_X11_theSet mv_X11_theSet (Nat.le_of_ble_eq_true rfl) (c_X11_theSet _ w N  M6) rfl lC_0 (eC_0 w _ _) rfl rfl (Nat.le_of_ble_eq_true rfl) (fun r7 M8 => ?_)
          refine r_iload_n (pc' := 62) g dX11_promise_61 rfl rfl ?_
          refine r_aload_n (pc' := 63) g dX11_promise_62 rfl rfl ?_
          refine r_get (pc' := 66) g dX11_promise_63 rfl fl_X11_12 lC_0 (eC_0 w _ _) rfl ?_
          refine r_iload_n (pc' := 67) g dX11_promise_66 rfl rfl ?_
          refine r_callVi (pc' := 70) (As := [.int a2]) (rest := [.int a3, .int r7, .int a1, rf w 38]) g dX11_promise_67 rfl ml_X11_142 mw_X10_seenBy mv_X10_seenBy (Nat.le_of_ble_eq_true rfl) (c_X10_seenBy _ w N a2 M8) rfl lC_1 (eC_1 w _ _) rfl rfl (Nat.le_of_ble_eq_true rfl) (fun r9 M10 => ?_)
          refine r_callSi (pc' := 73) (As := [.int r7, .int a3, .int r9]) (rest := [.int a1, rf w 38]) g dX11_promise_70 rfl ml_X11_208 mw_X11_alike ms_X11_alike (Nat.le_of_ble_eq_true rfl) (c_X11_alike _ w N r7 a3 r9 M10) rfl rfl (Nat.le_of_ble_eq_true rfl) (fun r11 M12 => ?_)
          refine r_callVi (pc' := 76) (As := [.int a1, .int r11]) (rest := []) g dX11_promise_73 rfl ml_X11_176 mw_X3_worstOver mv_X3_worstOver (Nat.le_of_ble_eq_true rfl) (c_X3_worstOver _ w N a1 r11 M12) rfl lC_38 (eC_38 w _ _) rfl rfl (Nat.le_of_ble_eq_true rfl) (fun r13 M14 => ?_)
          exact r_iret g e3 dX11_promise_76
        · skip
          refine r_aload_n (pc' := 46) g dX11_promise_45 rfl rfl ?_
          refine r_bipush (pc' := 48) (v := -6) g dX11_promise_46 rfl rfl ?_
          refine r_callVi (pc' := 51) (As := [.int (-6)]) (rest := []) g dX11_promise_48 rfl ml_X11_80 mw_X11_refuse mv_X11_refuse (Nat.le_of_ble_eq_true rfl) (c_X11_refuse _ w N (-6) M6) rfl lC_0 (eC_0 w _ _) rfl rfl (Nat.le_of_ble_eq_true rfl) (fun r15 M16 => ?_)
          exact r_iret g e3 dX11_promise_51
      · skip
        refine r_aload_n (pc' := 33) g dX11_promise_32 rfl rfl ?_
        refine r_bipush (pc' := 35) (v := -4) g dX11_promise_33 rfl rfl ?_
        refine r_callVi (pc' := 38) (As := [.int (-4)]) (rest := []) g dX11_promise_35 rfl ml_X11_80 mw_X11_refuse mv_X11_refuse (Nat.le_of_ble_eq_true rfl) (c_X11_refuse _ w N (-4) M6) rfl lC_0 (eC_0 w _ _) rfl rfl (Nat.le_of_ble_eq_true rfl) (fun r17 M18 => ?_)
        exact r_iret g e3 dX11_promise_38
    · skip
      refine r_aload_n (pc' := 23) g dX11_promise_22 rfl rfl ?_
      refine r_iconst (pc' := 24) (v := -1) g dX11_promise_23 rfl rfl ?_
      refine r_callVi (pc' := 27) (As := [.int (-1)]) (rest := []) g dX11_promise_24 rfl ml_X11_80 mw_X11_refuse mv_X11_refuse (Nat.le_of_ble_eq_true rfl) (c_X11_refuse _ w N (-1) M6) rfl lC_0 (eC_0 w _ _) rfl rfl (Nat.le_of_ble_eq_true rfl) (fun r19 M20 => ?_)
      exact r_iret g e3 dX11_promise_27
def f_X11_corner (N : Nat) (a1 : Int32) (M : Mm) : Rs :=
  if a1 < 0 then
    (bd (f_X11_refuse N (-4) M) fun r7 M8 =>
    (some (r7, M8)))
  else
    (if 4 < a1 then
      (bd (f_X11_refuse N (-6) M) fun r5 M6 =>
      (some (r5, M6)))
    else
      (bd (f_X10_worldsWith N a1 M) fun r1 M2 =>
      (bd (f_X3_bestOver N r1 M2) fun r3 M4 =>
      (some (r3, M4)))))

set_option maxHeartbeats 4000000 in
set_option maxRecDepth 100000 in
theorem c_X11_corner (l : Launch) (w : W0) (N : Nat) (a1 : Int32) (M : Mm) : Ct l KC w 6 yX11_corner cX11_corner 2 (some .int) [rf w 0, .int a1] M (f_X11_corner N a1 M) := by
  refine ct_of [rf w 0, .int a1] (by decide) (Nat.le_of_ble_eq_true rfl) rfl (fun Z e1 e2 e3 g => ?_)
  have g : Good KC w Z cX11_corner RX11 6 := g
  unfold f_X11_corner
  refine r_iload_n (pc' := 1) g dX11_corner_0 rfl rfl ?_
  refine r_ifge (pc' := 4) (tgt := 11) g dX11_corner_1 rfl rfl ?_ ?_
  · skip
    refine r_iload_n (pc' := 12) g dX11_corner_11 rfl rfl ?_
    refine r_iconst (pc' := 13) (v := 4) g dX11_corner_12 rfl rfl ?_
    refine r_cle (pc' := 16) (tgt := 23) g dX11_corner_13 rfl rfl ?_ ?_
    · skip
      refine r_aload_n (pc' := 24) g dX11_corner_23 rfl rfl ?_
      refine r_get (pc' := 27) g dX11_corner_24 rfl fl_X11_60 lC_0 (eC_0 w _ _) rfl ?_
      refine r_aload_n (pc' := 28) g dX11_corner_27 rfl rfl ?_
      refine r_get (pc' := 31) g dX11_corner_28 rfl fl_X11_12 lC_0 (eC_0 w _ _) rfl ?_
      refine r_iload_n (pc' := 32) g dX11_corner_31 rfl rfl ?_
      refine r_callVi (pc' := 35) (As := [.int a1]) (rest := [rf w 38]) g dX11_corner_32 rfl ml_X11_212 mw_X10_worldsWith mv_X10_worldsWith (Nat.le_of_ble_eq_true rfl) (c_X10_worldsWith _ w N a1 M) rfl lC_1 (eC_1 w _ _) rfl rfl (Nat.le_of_ble_eq_true rfl) (fun r1 M2 => ?_)
      refine r_callVi (pc' := 38) (As := [.int r1]) (rest := []) g dX11_corner_35 rfl ml_X11_182 mw_X3_bestOver mv_X3_bestOver (Nat.le_of_ble_eq_true rfl) (c_X3_bestOver _ w N r1 M2) rfl lC_38 (eC_38 w _ _) rfl rfl (Nat.le_of_ble_eq_true rfl) (fun r3 M4 => ?_)
      exact r_iret g e3 dX11_corner_38
    · skip
      refine r_aload_n (pc' := 17) g dX11_corner_16 rfl rfl ?_
      refine r_bipush (pc' := 19) (v := -6) g dX11_corner_17 rfl rfl ?_
      refine r_callVi (pc' := 22) (As := [.int (-6)]) (rest := []) g dX11_corner_19 rfl ml_X11_80 mw_X11_refuse mv_X11_refuse (Nat.le_of_ble_eq_true rfl) (c_X11_refuse _ w N (-6) M) rfl lC_0 (eC_0 w _ _) rfl rfl (Nat.le_of_ble_eq_true rfl) (fun r5 M6 => ?_)
      exact r_iret g e3 dX11_corner_22
  · skip
    refine r_aload_n (pc' := 5) g dX11_corner_4 rfl rfl ?_
    refine r_bipush (pc' := 7) (v := -4) g dX11_corner_5 rfl rfl ?_
    refine r_callVi (pc' := 10) (As := [.int (-4)]) (rest := []) g dX11_corner_7 rfl ml_X11_80 mw_X11_refuse mv_X11_refuse (Nat.le_of_ble_eq_true rfl) (c_X11_refuse _ w N (-4) M) rfl lC_0 (eC_0 w _ _) rfl rfl (Nat.le_of_ble_eq_true rfl) (fun r7 M8 => ?_)
    exact r_iret g e3 dX11_corner_10
def B_X11_flat_56 (N : Nat) (p2 : Int32) (p3 : Int32) (G : Int32 → Mm → Rs) (rec : (Int32 × Int32) → Mm → Rs) (s : Int32 × Int32) (M : Mm) : Rs :=
  if 4 < s.2 then
      (G s.1 M)
    else
      (bd (f_X10_worldsWith N s.2 M) fun r9 M10 =>
      (bd (f_X3_worstOver N p2 r9 M10) fun r11 M12 =>
      (if r11 = p3 then
        (rec (s.2, s.2 + 1) M12)
      else
        (rec (s.1, s.2 + 1) M12))))

def f_X11_flat (N : Nat) (M : Mm) : Rs :=
  bd (f_X10_worldsWith N 0 M) fun r1 M2 =>
  (bd (f_X11_theSet N  M2) fun r3 M4 =>
  (bd (f_X3_bestOver N r3 M4) fun r5 M6 =>
  (if r5 = (-9) then
    (some ((-9), M6))
  else
    (if r1 = 0 then
      (some ((-9), M6))
    else
      (bd (f_X3_worstOver N (M6.1 38 4) r1 M6) fun r7 M8 =>
      (itr (B_X11_flat_56 N (M6.1 38 4) r7 fun z13 M14 =>
      (some (z13, M14))) N (0, 1) M8))))))

set_option maxHeartbeats 4000000 in
set_option maxRecDepth 100000 in
theorem s_X11_flat_56 {w : W0} {Z : Zx} (g : Good KC w Z cX11_flat RX11 6) (e2 : Z.2.2.1 = 6) (e3 : Z.2.2.2 = (some .int)) (N : Nat) (p2 : Int32) (p3 : Int32) (G : Int32 → Mm → Rs) (kG : ∀ (x : Int32) (M : Mm), Sim KC w Z 93 [.null, .null, .null, .null, .int x, .null] [] M (G x M)) : ∀ (n : Nat) (s : Int32 × Int32) (M : Mm), Sim KC w Z 56 [rf w 0, .null, .int p2, .int p3, .int s.1, .int s.2] [] M (itr (B_X11_flat_56 N p2 p3 G) n s M) := by
  have n4 : 4 < Z.2.2.1 := by rw [e2]; decide
  have n5 : 5 < Z.2.2.1 := by rw [e2]; decide
  refine r_itr (Lf := fun (s : Int32 × Int32) => [rf w 0, .null, .int p2, .int p3, .int s.1, .int s.2]) (fun rec hr s M => ?_)
  unfold B_X11_flat_56
  refine r_iload (pc' := 58) g dX11_flat_56 rfl rfl ?_
  refine r_iconst (pc' := 59) (v := 4) g dX11_flat_58 rfl rfl ?_
  refine r_cgt (pc' := 62) (tgt := 93) g dX11_flat_59 rfl rfl ?_ ?_
  · skip
    exact r_weak (Ls1 (Ls1 (Ls1 (Ls1 (Ls2 (Ls1 Ls0)))))) (kG s.1 M)
  · skip
    refine r_aload_n (pc' := 63) g dX11_flat_62 rfl rfl ?_
    refine r_get (pc' := 66) g dX11_flat_63 rfl fl_X11_60 lC_0 (eC_0 w _ _) rfl ?_
    refine r_iload_n (pc' := 67) g dX11_flat_66 rfl rfl ?_
    refine r_aload_n (pc' := 68) g dX11_flat_67 rfl rfl ?_
    refine r_get (pc' := 71) g dX11_flat_68 rfl fl_X11_12 lC_0 (eC_0 w _ _) rfl ?_
    refine r_iload (pc' := 73) g dX11_flat_71 rfl rfl ?_
    refine r_callVi (pc' := 76) (As := [.int s.2]) (rest := [.int p2, rf w 38]) g dX11_flat_73 rfl ml_X11_212 mw_X10_worldsWith mv_X10_worldsWith (Nat.le_of_ble_eq_true rfl) (c_X10_worldsWith _ w N s.2 M) rfl lC_1 (eC_1 w _ _) rfl rfl (Nat.le_of_ble_eq_true rfl) (fun r9 M10 => ?_)
    refine r_callVi (pc' := 79) (As := [.int p2, .int r9]) (rest := []) g dX11_flat_76 rfl ml_X11_176 mw_X3_worstOver mv_X3_worstOver (Nat.le_of_ble_eq_true rfl) (c_X3_worstOver _ w N p2 r9 M10) rfl lC_38 (eC_38 w _ _) rfl rfl (Nat.le_of_ble_eq_true rfl) (fun r11 M12 => ?_)
    refine r_iload_n (pc' := 80) g dX11_flat_79 rfl rfl ?_
    refine r_cne (pc' := 83) (tgt := 87) g dX11_flat_80 rfl rfl ?_ ?_
    · skip
      refine r_iinc (pc' := 90) (b := 1) (L' := [rf w 0, .null, .int p2, .int p3, .int s.1, .int (s.2 + 1)]) g dX11_flat_87 rfl rfl rfl n5 rfl rfl ?_
      refine r_goto (tgt := 56) g dX11_flat_90 rfl ?_
      exact r_weak (Ls2 (Ls1 (Ls2 (Ls2 (Ls2 (Ls2 Ls0)))))) (hr (s.1, s.2 + 1) M12)
    · skip
      refine r_iload (pc' := 85) g dX11_flat_83 rfl rfl ?_
      refine r_istore (pc' := 87) (L' := [rf w 0, .null, .int p2, .int p3, .int s.2, .int s.2]) g dX11_flat_85 rfl n4 rfl rfl ?_
      refine r_iinc (pc' := 90) (b := 1) (L' := [rf w 0, .null, .int p2, .int p3, .int s.2, .int (s.2 + 1)]) g dX11_flat_87 rfl rfl rfl n5 rfl rfl ?_
      refine r_goto (tgt := 56) g dX11_flat_90 rfl ?_
      exact r_weak (Ls2 (Ls1 (Ls2 (Ls2 (Ls2 (Ls2 Ls0)))))) (hr (s.2, s.2 + 1) M12)
set_option maxHeartbeats 4000000 in
set_option maxRecDepth 100000 in
theorem c_X11_flat (l : Launch) (w : W0) (N : Nat) (M : Mm) : Ct l KC w 6 yX11_flat cX11_flat 6 (some .int) [rf w 0] M (f_X11_flat N M) := by
  refine ct_of [rf w 0, .null, .null, .null, .null, .null] (by decide) (Nat.le_of_ble_eq_true rfl) rfl (fun Z e1 e2 e3 g => ?_)
  have g : Good KC w Z cX11_flat RX11 6 := g
  unfold f_X11_flat
  have n1 : 1 < Z.2.2.1 := by rw [e2]; decide
  have n2 : 2 < Z.2.2.1 := by rw [e2]; decide
  have n3 : 3 < Z.2.2.1 := by rw [e2]; decide
  have n4 : 4 < Z.2.2.1 := by rw [e2]; decide
  have n5 : 5 < Z.2.2.1 := by rw [e2]; decide
  refine r_aload_n (pc' := 1) g dX11_flat_0 rfl rfl ?_
  refine r_get (pc' := 4) g dX11_flat_1 rfl fl_X11_12 lC_0 (eC_0 w _ _) rfl ?_
  refine r_iconst (pc' := 5) (v := 0) g dX11_flat_4 rfl rfl ?_
  refine r_callVi (pc' := 8) (As := [.int 0]) (rest := []) g dX11_flat_5 rfl ml_X11_212 mw_X10_worldsWith mv_X10_worldsWith (Nat.le_of_ble_eq_true rfl) (c_X10_worldsWith _ w N 0 M) rfl lC_1 (eC_1 w _ _) rfl rfl (Nat.le_of_ble_eq_true rfl) (fun r1 M2 => ?_)
  refine r_istore_n (pc' := 9) (L' := [rf w 0, .int r1, .null, .null, .null, .null]) g dX11_flat_8 rfl n1 rfl rfl ?_
  refine r_aload_n (pc' := 10) g dX11_flat_9 rfl rfl ?_
  refine r_get (pc' := 13) g dX11_flat_10 rfl fl_X11_60 lC_0 (eC_0 w _ _) rfl ?_
  refine r_aload_n (pc' := 14) g dX11_flat_13 rfl rfl ?_
  refine r_callVi (pc' := 17) (As := []) (rest := [rf w 38]) g dX11_flat_14 rfl ml_X11_159 mw_X11_theSet mv_X11_theSet (Nat.le_of_ble_eq_true rfl) (c_X11_theSet _ w N  M2) rfl lC_0 (eC_0 w _ _) rfl rfl (Nat.le_of_ble_eq_true rfl) (fun r3 M4 => ?_)
  refine r_callVi (pc' := 20) (As := [.int r3]) (rest := []) g dX11_flat_17 rfl ml_X11_182 mw_X3_bestOver mv_X3_bestOver (Nat.le_of_ble_eq_true rfl) (c_X3_bestOver _ w N r3 M4) rfl lC_38 (eC_38 w _ _) rfl rfl (Nat.le_of_ble_eq_true rfl) (fun r5 M6 => ?_)
  refine r_bipush (pc' := 22) (v := -9) g dX11_flat_20 rfl rfl ?_
  refine r_ceq (pc' := 25) (tgt := 29) g dX11_flat_22 rfl rfl ?_ ?_
  · skip
    refine r_bipush (pc' := 31) (v := -9) g dX11_flat_29 rfl rfl ?_
    exact r_iret g e3 dX11_flat_31
  · skip
    refine r_iload_n (pc' := 26) g dX11_flat_25 rfl rfl ?_
    refine r_ifne (pc' := 29) (tgt := 32) g dX11_flat_26 rfl rfl ?_ ?_
    · skip
      refine r_aload_n (pc' := 33) g dX11_flat_32 rfl rfl ?_
      refine r_get (pc' := 36) g dX11_flat_33 rfl fl_X11_60 lC_0 (eC_0 w _ _) rfl ?_
      refine r_get (pc' := 39) g dX11_flat_36 rfl fl_X11_185 lC_38 (eC_38 w _ _) rfl ?_
      refine r_istore_n (pc' := 40) (L' := [rf w 0, .int r1, .int (M6.1 38 4), .null, .null, .null]) g dX11_flat_39 rfl n2 rfl rfl ?_
      refine r_aload_n (pc' := 41) g dX11_flat_40 rfl rfl ?_
      refine r_get (pc' := 44) g dX11_flat_41 rfl fl_X11_60 lC_0 (eC_0 w _ _) rfl ?_
      refine r_iload_n (pc' := 45) g dX11_flat_44 rfl rfl ?_
      refine r_iload_n (pc' := 46) g dX11_flat_45 rfl rfl ?_
      refine r_callVi (pc' := 49) (As := [.int (M6.1 38 4), .int r1]) (rest := []) g dX11_flat_46 rfl ml_X11_176 mw_X3_worstOver mv_X3_worstOver (Nat.le_of_ble_eq_true rfl) (c_X3_worstOver _ w N (M6.1 38 4) r1 M6) rfl lC_38 (eC_38 w _ _) rfl rfl (Nat.le_of_ble_eq_true rfl) (fun r7 M8 => ?_)
      refine r_istore_n (pc' := 50) (L' := [rf w 0, .int r1, .int (M6.1 38 4), .int r7, .null, .null]) g dX11_flat_49 rfl n3 rfl rfl ?_
      refine r_iconst (pc' := 51) (v := 0) g dX11_flat_50 rfl rfl ?_
      refine r_istore (pc' := 53) (L' := [rf w 0, .int r1, .int (M6.1 38 4), .int r7, .int 0, .null]) g dX11_flat_51 rfl n4 rfl rfl ?_
      refine r_iconst (pc' := 54) (v := 1) g dX11_flat_53 rfl rfl ?_
      refine r_istore (pc' := 56) (L' := [rf w 0, .int r1, .int (M6.1 38 4), .int r7, .int 0, .int 1]) g dX11_flat_54 rfl n5 rfl rfl ?_
      refine r_weak (Ls2 (Ls1 (Ls2 (Ls2 (Ls2 (Ls2 Ls0)))))) (s_X11_flat_56 g e2 e3 N (M6.1 38 4) r7 _ (fun z13 M14 => ?_) N (0, 1) M8)
      refine r_iload (pc' := 95) g dX11_flat_93 rfl rfl ?_
      exact r_iret g e3 dX11_flat_95
    · skip
      refine r_bipush (pc' := 31) (v := -9) g dX11_flat_29 rfl rfl ?_
      exact r_iret g e3 dX11_flat_31
def f_X11_costWithWord (N : Nat) (a1 : Int32) (a2 : Int32) (M : Mm) : Rs :=
  bd (f_X11_alike N a2 (1 <<< (a1 &&& 31)) (1 <<< (a1 &&& 31)) M) fun r1 M2 =>
  (bd (f_X3_bestOver N r1 M2) fun r3 M4 =>
  (bd (f_X3_bestOver N (a2 &&& (r1 ^^^ (-1))) M4) fun r5 M6 =>
  (some (if r3 < r5 then r5 else r3, M6))))

set_option maxHeartbeats 4000000 in
set_option maxRecDepth 100000 in
theorem c_X11_costWithWord (l : Launch) (w : W0) (N : Nat) (a1 : Int32) (a2 : Int32) (M : Mm) : Ct l KC w 6 yX11_costWithWord cX11_costWithWord 4 (some .int) [rf w 0, .int a1, .int a2] M (f_X11_costWithWord N a1 a2 M) := by
  refine ct_of [rf w 0, .int a1, .int a2, .null] (by decide) (Nat.le_of_ble_eq_true rfl) rfl (fun Z e1 e2 e3 g => ?_)
  have g : Good KC w Z cX11_costWithWord RX11 6 := g
  unfold f_X11_costWithWord
  have n3 : 3 < Z.2.2.1 := by rw [e2]; decide
  refine r_iload_n (pc' := 1) g dX11_costWithWord_0 rfl rfl ?_
  refine r_iconst (pc' := 2) (v := 1) g dX11_costWithWord_1 rfl rfl ?_
  refine r_iload_n (pc' := 3) g dX11_costWithWord_2 rfl rfl ?_
  refine r_ishl (pc' := 4) g dX11_costWithWord_3 rfl ?_
  refine r_iconst (pc' := 5) (v := 1) g dX11_costWithWord_4 rfl rfl ?_
  refine r_iload_n (pc' := 6) g dX11_costWithWord_5 rfl rfl ?_
  refine r_ishl (pc' := 7) g dX11_costWithWord_6 rfl ?_
  refine r_callSi (pc' := 10) (As := [.int a2, .int (1 <<< (a1 &&& 31)), .int (1 <<< (a1 &&& 31))]) (rest := []) g dX11_costWithWord_7 rfl ml_X11_208 mw_X11_alike ms_X11_alike (Nat.le_of_ble_eq_true rfl) (c_X11_alike _ w N a2 (1 <<< (a1 &&& 31)) (1 <<< (a1 &&& 31)) M) rfl rfl (Nat.le_of_ble_eq_true rfl) (fun r1 M2 => ?_)
  refine r_istore_n (pc' := 11) (L' := [rf w 0, .int a1, .int a2, .int r1]) g dX11_costWithWord_10 rfl n3 rfl rfl ?_
  refine r_aload_n (pc' := 12) g dX11_costWithWord_11 rfl rfl ?_
  refine r_get (pc' := 15) g dX11_costWithWord_12 rfl fl_X11_60 lC_0 (eC_0 w _ _) rfl ?_
  refine r_iload_n (pc' := 16) g dX11_costWithWord_15 rfl rfl ?_
  refine r_callVi (pc' := 19) (As := [.int r1]) (rest := []) g dX11_costWithWord_16 rfl ml_X11_182 mw_X3_bestOver mv_X3_bestOver (Nat.le_of_ble_eq_true rfl) (c_X3_bestOver _ w N r1 M2) rfl lC_38 (eC_38 w _ _) rfl rfl (Nat.le_of_ble_eq_true rfl) (fun r3 M4 => ?_)
  refine r_aload_n (pc' := 20) g dX11_costWithWord_19 rfl rfl ?_
  refine r_get (pc' := 23) g dX11_costWithWord_20 rfl fl_X11_60 lC_0 (eC_0 w _ _) rfl ?_
  refine r_iload_n (pc' := 24) g dX11_costWithWord_23 rfl rfl ?_
  refine r_iload_n (pc' := 25) g dX11_costWithWord_24 rfl rfl ?_
  refine r_iconst (pc' := 26) (v := -1) g dX11_costWithWord_25 rfl rfl ?_
  refine r_ixor (pc' := 27) g dX11_costWithWord_26 rfl ?_
  refine r_iand (pc' := 28) g dX11_costWithWord_27 rfl ?_
  refine r_callVi (pc' := 31) (As := [.int (a2 &&& (r1 ^^^ (-1)))]) (rest := [.int r3]) g dX11_costWithWord_28 rfl ml_X11_182 mw_X3_bestOver mv_X3_bestOver (Nat.le_of_ble_eq_true rfl) (c_X3_bestOver _ w N (a2 &&& (r1 ^^^ (-1))) M4) rfl lC_38 (eC_38 w _ _) rfl rfl (Nat.le_of_ble_eq_true rfl) (fun r5 M6 => ?_)
  refine r_max (pc' := 34) g dX11_costWithWord_31 rfl mm_X11_248 mm_max_s mm_i mm_max_c (Nat.le_of_ble_eq_true rfl) ?_
  exact r_iret g e3 dX11_costWithWord_34
