def f_X11_refuse (N : Nat) (a1 : Int32) (M : Mm) : Rs :=
  if (-a1) < 1 then
    (some (a1, M))
  else
    (if (-a1) < 7 then
      (lt' (-a1) fun x1 =>
      (if inb x1 7 then
      (if inb x1 7 then
      (lt' (wI M 33 (ix x1) ((M.1 33 (ix x1)) + 1)) fun M2 =>
      (some (a1, M2))) else none) else none))
    else
      (some (a1, M)))

set_option maxHeartbeats 4000000 in
set_option maxRecDepth 100000 in
theorem c_X11_refuse (l : Launch) (w : W0) (N : Nat) (a1 : Int32) (M : Mm) : Ct l KC w 0 yX11_refuse cX11_refuse 3 (some .int) [rf w 0, .int a1] M (f_X11_refuse N a1 M) := by
  refine ct_of [rf w 0, .int a1, .null] (by decide) (Nat.le_of_ble_eq_true rfl) rfl (fun Z e1 e2 e3 g => ?_)
  have g : Good KC w Z cX11_refuse RX11 0 := g
  unfold f_X11_refuse
  have n2 : 2 < Z.2.2.1 := by rw [e2]; decide
  refine r_iload_n (pc' := 1) g dX11_refuse_0 rfl rfl ?_
  refine r_ineg (pc' := 2) g dX11_refuse_1 rfl ?_
  refine r_istore_n (pc' := 3) (L' := [rf w 0, .int a1, .int (-a1)]) g dX11_refuse_2 rfl n2 rfl rfl ?_
  refine r_iload_n (pc' := 4) g dX11_refuse_3 rfl rfl ?_
  refine r_iconst (pc' := 5) (v := 1) g dX11_refuse_4 rfl rfl ?_
  refine r_clt (pc' := 8) (tgt := 27) g dX11_refuse_5 rfl rfl ?_ ?_
  · skip
    refine r_iload_n (pc' := 28) g dX11_refuse_27 rfl rfl ?_
    exact r_iret g e3 dX11_refuse_28
  · skip
    refine r_iload_n (pc' := 9) g dX11_refuse_8 rfl rfl ?_
    refine r_aload_n (pc' := 10) g dX11_refuse_9 rfl rfl ?_
    refine r_get (pc' := 13) g dX11_refuse_10 rfl fl_X11_45 lC_0 (eC_0 w _ _) rfl ?_
    refine r_alen (pc' := 14) (v := 7) (t := 0) g dX11_refuse_13 rfl lC_33 (eC_33 w _ _) rfl rfl ?_
    refine r_cge (pc' := 17) (tgt := 27) g dX11_refuse_14 rfl rfl ?_ ?_
    · skip
      refine r_iload_n (pc' := 28) g dX11_refuse_27 rfl rfl ?_
      exact r_iret g e3 dX11_refuse_28
    · skip
      refine r_aload_n (pc' := 18) g dX11_refuse_17 rfl rfl ?_
      refine r_get (pc' := 21) g dX11_refuse_18 rfl fl_X11_45 lC_0 (eC_0 w _ _) rfl ?_
      refine r_iload_n (pc' := 22) g dX11_refuse_21 rfl rfl ?_
      refine r_ltI (fun x1 => ?_)
      refine r_dup2 (pc' := 23) g dX11_refuse_22 rfl ?_
      refine r_iald (pc' := 24) g dX11_refuse_23 rfl lC_33 (eC_33 w _ _) ?_
      refine r_iconst (pc' := 25) (v := 1) g dX11_refuse_24 rfl rfl ?_
      refine r_iadd (pc' := 26) g dX11_refuse_25 rfl ?_
      refine r_iast (pc' := 27) g dX11_refuse_26 rfl lC_33 (fun m => eC_33 w m _) ?_
      refine r_ltM (fun M2 => ?_)
      refine r_iload_n (pc' := 28) g dX11_refuse_27 rfl rfl ?_
      exact r_iret g e3 dX11_refuse_28
def f_X10_isHarbour (N : Nat) (a1 : Int32) (M : Mm) : Rs :=
  if a1 < 0 then
    (some (0, M))
  else
    (if a1 < 4 then
      (if (((M.1 1 0) >>> (a1 &&& 31)) &&& 1) = 1 then
        (some (1, M))
      else
        (some (0, M)))
    else
      (some (0, M)))

set_option maxHeartbeats 4000000 in
set_option maxRecDepth 100000 in
theorem c_X10_isHarbour (l : Launch) (w : W0) (N : Nat) (a1 : Int32) (M : Mm) : Ct l KC w 0 yX10_isHarbour cX10_isHarbour 2 (some .boolean) [rf w 1, .int a1] M (f_X10_isHarbour N a1 M) := by
  refine ct_of [rf w 1, .int a1] (by decide) (Nat.le_of_ble_eq_true rfl) rfl (fun Z e1 e2 e3 g => ?_)
  have g : Good KC w Z cX10_isHarbour RX10 0 := g
  unfold f_X10_isHarbour
  refine r_iload_n (pc' := 1) g dX10_isHarbour_0 rfl rfl ?_
  refine r_iflt (pc' := 4) (tgt := 25) g dX10_isHarbour_1 rfl rfl ?_ ?_
  · skip
    refine r_iconst (pc' := 26) (v := 0) g dX10_isHarbour_25 rfl rfl ?_
    exact r_zretc g e3 rfl dX10_isHarbour_26
  · skip
    refine r_iload_n (pc' := 5) g dX10_isHarbour_4 rfl rfl ?_
    refine r_iconst (pc' := 6) (v := 4) g dX10_isHarbour_5 rfl rfl ?_
    refine r_cge (pc' := 9) (tgt := 25) g dX10_isHarbour_6 rfl rfl ?_ ?_
    · skip
      refine r_iconst (pc' := 26) (v := 0) g dX10_isHarbour_25 rfl rfl ?_
      exact r_zretc g e3 rfl dX10_isHarbour_26
    · skip
      refine r_aload_n (pc' := 10) g dX10_isHarbour_9 rfl rfl ?_
      refine r_get (pc' := 13) g dX10_isHarbour_10 rfl fl_X10_9 lC_1 (eC_1 w _ _) rfl ?_
      refine r_iload_n (pc' := 14) g dX10_isHarbour_13 rfl rfl ?_
      refine r_ishr (pc' := 15) g dX10_isHarbour_14 rfl ?_
      refine r_iconst (pc' := 16) (v := 1) g dX10_isHarbour_15 rfl rfl ?_
      refine r_iand (pc' := 17) g dX10_isHarbour_16 rfl ?_
      refine r_iconst (pc' := 18) (v := 1) g dX10_isHarbour_17 rfl rfl ?_
      refine r_cne (pc' := 21) (tgt := 25) g dX10_isHarbour_18 rfl rfl ?_ ?_
      · skip
        refine r_iconst (pc' := 26) (v := 0) g dX10_isHarbour_25 rfl rfl ?_
        exact r_zretc g e3 rfl dX10_isHarbour_26
      · skip
        refine r_iconst (pc' := 22) (v := 1) g dX10_isHarbour_21 rfl rfl ?_
        refine r_goto (tgt := 26) g dX10_isHarbour_22 rfl ?_
        exact r_zretc g e3 rfl dX10_isHarbour_26
def f_X3_forget (N : Nat) (M : Mm) : Rs :=
  lt' (wI M 38 3 1) fun M1 =>
  (some (0, M1))

set_option maxHeartbeats 4000000 in
set_option maxRecDepth 100000 in
theorem c_X3_forget (l : Launch) (w : W0) (N : Nat) (M : Mm) : Ct l KC w 0 yX3_forget cX3_forget 1 none [rf w 38] M (f_X3_forget N M) := by
  refine ct_of [rf w 38] (by decide) (Nat.le_of_ble_eq_true rfl) rfl (fun Z e1 e2 e3 g => ?_)
  have g : Good KC w Z cX3_forget RX3 0 := g
  unfold f_X3_forget
  refine r_aload_n (pc' := 1) g dX3_forget_0 rfl rfl ?_
  refine r_iconst (pc' := 2) (v := 1) g dX3_forget_1 rfl rfl ?_
  refine r_putz (pc' := 5) g dX3_forget_2 rfl fl_X3_15 rfl rfl lC_38 (eC_38 w _ _) (Nat.le_of_ble_eq_true rfl) (sC_38_3 w _ _ _) ?_
  refine r_ltM (fun M1 => ?_)
  exact r_vret g e3 dX3_forget_5
def f_X11_harbour (N : Nat) (a1 : Int32) (M : Mm) : Rs :=
  if a1 < 0 then
    (bd (f_X11_refuse N (-1) M) fun r1 M2 =>
    (some (r1, M2)))
  else
    (if a1 < 4 then
      (bd (f_X10_isHarbour N a1 M) fun r3 M4 =>
      (if r3 = 0 then
        (lt' (wI M4 1 0 ((M4.1 1 0) ||| (1 <<< (a1 &&& 31)))) fun M5 =>
        (bd (f_X3_forget N  M5) fun r6 M7 =>
        (some (1, M7))))
      else
        (bd (f_X11_refuse N (-3) M4) fun r8 M9 =>
        (some (r8, M9)))))
    else
      (bd (f_X11_refuse N (-1) M) fun r10 M11 =>
      (some (r10, M11))))

set_option maxHeartbeats 4000000 in
set_option maxRecDepth 100000 in
theorem c_X11_harbour (l : Launch) (w : W0) (N : Nat) (a1 : Int32) (M : Mm) : Ct l KC w 1 yX11_harbour cX11_harbour 2 (some .int) [rf w 0, .int a1] M (f_X11_harbour N a1 M) := by
  refine ct_of [rf w 0, .int a1] (by decide) (Nat.le_of_ble_eq_true rfl) rfl (fun Z e1 e2 e3 g => ?_)
  have g : Good KC w Z cX11_harbour RX11 1 := g
  unfold f_X11_harbour
  refine r_iload_n (pc' := 1) g dX11_harbour_0 rfl rfl ?_
  refine r_iflt (pc' := 4) (tgt := 9) g dX11_harbour_1 rfl rfl ?_ ?_
  · skip
    refine r_aload_n (pc' := 10) g dX11_harbour_9 rfl rfl ?_
    refine r_iconst (pc' := 11) (v := -1) g dX11_harbour_10 rfl rfl ?_
    refine r_callVi (pc' := 14) (As := [.int (-1)]) (rest := []) g dX11_harbour_11 rfl ml_X11_80 mw_X11_refuse mv_X11_refuse (Nat.le_of_ble_eq_true rfl) (c_X11_refuse _ w N (-1) M) rfl lC_0 (eC_0 w _ _) rfl rfl (Nat.le_of_ble_eq_true rfl) (fun r1 M2 => ?_)
    exact r_iret g e3 dX11_harbour_14
  · skip
    refine r_iload_n (pc' := 5) g dX11_harbour_4 rfl rfl ?_
    refine r_iconst (pc' := 6) (v := 4) g dX11_harbour_5 rfl rfl ?_
    refine r_clt (pc' := 9) (tgt := 15) g dX11_harbour_6 rfl rfl ?_ ?_
    · skip
      refine r_aload_n (pc' := 16) g dX11_harbour_15 rfl rfl ?_
      refine r_get (pc' := 19) g dX11_harbour_16 rfl fl_X11_12 lC_0 (eC_0 w _ _) rfl ?_
      refine r_iload_n (pc' := 20) g dX11_harbour_19 rfl rfl ?_
      refine r_callVi (pc' := 23) (As := [.int a1]) (rest := []) g dX11_harbour_20 rfl ml_X11_84 mw_X10_isHarbour mv_X10_isHarbour (Nat.le_of_ble_eq_true rfl) (c_X10_isHarbour _ w N a1 M) rfl lC_1 (eC_1 w _ _) rfl rfl (Nat.le_of_ble_eq_true rfl) (fun r3 M4 => ?_)
      refine r_ifeq (pc' := 26) (tgt := 33) g dX11_harbour_23 rfl rfl ?_ ?_
      · skip
        refine r_aload_n (pc' := 34) g dX11_harbour_33 rfl rfl ?_
        refine r_get (pc' := 37) g dX11_harbour_34 rfl fl_X11_12 lC_0 (eC_0 w _ _) rfl ?_
        refine r_dupa (pc' := 38) g dX11_harbour_37 rfl ?_
        refine r_get (pc' := 41) g dX11_harbour_38 rfl fl_X11_88 lC_1 (eC_1 w _ _) rfl ?_
        refine r_iconst (pc' := 42) (v := 1) g dX11_harbour_41 rfl rfl ?_
        refine r_iload_n (pc' := 43) g dX11_harbour_42 rfl rfl ?_
        refine r_ishl (pc' := 44) g dX11_harbour_43 rfl ?_
        refine r_ior (pc' := 45) g dX11_harbour_44 rfl ?_
        refine r_put (pc' := 48) g dX11_harbour_45 rfl fl_X11_88 rfl lC_1 (eC_1 w _ _) (Nat.le_of_ble_eq_true rfl) (sC_1_0 w _ _ _) ?_
        refine r_ltM (fun M5 => ?_)
        refine r_aload_n (pc' := 49) g dX11_harbour_48 rfl rfl ?_
        refine r_get (pc' := 52) g dX11_harbour_49 rfl fl_X11_60 lC_0 (eC_0 w _ _) rfl ?_
        refine r_callVv (pc' := 55) (As := []) (rest := []) g dX11_harbour_52 rfl ml_X11_91 mw_X3_forget mv_X3_forget (Nat.le_of_ble_eq_true rfl) (c_X3_forget _ w N  M5) rfl lC_38 (eC_38 w _ _) rfl rfl (Nat.le_of_ble_eq_true rfl) (fun r6 M7 => ?_)
        refine r_iconst (pc' := 56) (v := 1) g dX11_harbour_55 rfl rfl ?_
        exact r_iret g e3 dX11_harbour_56
      · skip
        refine r_aload_n (pc' := 27) g dX11_harbour_26 rfl rfl ?_
        refine r_bipush (pc' := 29) (v := -3) g dX11_harbour_27 rfl rfl ?_
        refine r_callVi (pc' := 32) (As := [.int (-3)]) (rest := []) g dX11_harbour_29 rfl ml_X11_80 mw_X11_refuse mv_X11_refuse (Nat.le_of_ble_eq_true rfl) (c_X11_refuse _ w N (-3) M4) rfl lC_0 (eC_0 w _ _) rfl rfl (Nat.le_of_ble_eq_true rfl) (fun r8 M9 => ?_)
        exact r_iret g e3 dX11_harbour_32
    · skip
      refine r_aload_n (pc' := 10) g dX11_harbour_9 rfl rfl ?_
      refine r_iconst (pc' := 11) (v := -1) g dX11_harbour_10 rfl rfl ?_
      refine r_callVi (pc' := 14) (As := [.int (-1)]) (rest := []) g dX11_harbour_11 rfl ml_X11_80 mw_X11_refuse mv_X11_refuse (Nat.le_of_ble_eq_true rfl) (c_X11_refuse _ w N (-1) M) rfl lC_0 (eC_0 w _ _) rfl rfl (Nat.le_of_ble_eq_true rfl) (fun r10 M11 => ?_)
      exact r_iret g e3 dX11_harbour_14
def f_X1_note (N : Nat) (a1 : Int32) (a2 : Int32) (M : Mm) : Rs :=
  if inb (M.1 27 2) 40 then
  (lt' (wI M 28 (ix (M.1 27 2)) a1) fun M1 =>
  (if inb (M1.1 27 2) 40 then
  (lt' (wI M1 29 (ix (M1.1 27 2)) a2) fun M2 =>
  (lt' (wI M2 27 2 (((M2.1 27 2) + 1) - ((M2.1 27 2) + 1) / 40 * 40)) fun M3 =>
  (if (M3.1 27 3) < 40 then
    (lt' (wI M3 27 3 ((M3.1 27 3) + 1)) fun M4 =>
    (some (0, M4)))
  else
    (some (0, M3))))) else none)) else none

set_option maxHeartbeats 4000000 in
set_option maxRecDepth 100000 in
theorem c_X1_note (l : Launch) (w : W0) (N : Nat) (a1 : Int32) (a2 : Int32) (M : Mm) : Ct l KC w 0 yX1_note cX1_note 3 none [rf w 27, .int a1, .int a2] M (f_X1_note N a1 a2 M) := by
  refine ct_of [rf w 27, .int a1, .int a2] (by decide) (Nat.le_of_ble_eq_true rfl) rfl (fun Z e1 e2 e3 g => ?_)
  have g : Good KC w Z cX1_note RX1 0 := g
  unfold f_X1_note
  refine r_aload_n (pc' := 1) g dX1_note_0 rfl rfl ?_
  refine r_get (pc' := 4) g dX1_note_1 rfl fl_X1_9 lC_27 (eC_27 w _ _) rfl ?_
  refine r_aload_n (pc' := 5) g dX1_note_4 rfl rfl ?_
  refine r_get (pc' := 8) g dX1_note_5 rfl fl_X1_18 lC_27 (eC_27 w _ _) rfl ?_
  refine r_iload_n (pc' := 9) g dX1_note_8 rfl rfl ?_
  refine r_iast (pc' := 10) g dX1_note_9 rfl lC_28 (fun m => eC_28 w m _) ?_
  refine r_ltM (fun M1 => ?_)
  refine r_aload_n (pc' := 11) g dX1_note_10 rfl rfl ?_
  refine r_get (pc' := 14) g dX1_note_11 rfl fl_X1_15 lC_27 (eC_27 w _ _) rfl ?_
  refine r_aload_n (pc' := 15) g dX1_note_14 rfl rfl ?_
  refine r_get (pc' := 18) g dX1_note_15 rfl fl_X1_18 lC_27 (eC_27 w _ _) rfl ?_
  refine r_iload_n (pc' := 19) g dX1_note_18 rfl rfl ?_
  refine r_iast (pc' := 20) g dX1_note_19 rfl lC_29 (fun m => eC_29 w m _) ?_
  refine r_ltM (fun M2 => ?_)
  refine r_aload_n (pc' := 21) g dX1_note_20 rfl rfl ?_
  refine r_aload_n (pc' := 22) g dX1_note_21 rfl rfl ?_
  refine r_get (pc' := 25) g dX1_note_22 rfl fl_X1_18 lC_27 (eC_27 w _ _) rfl ?_
  refine r_iconst (pc' := 26) (v := 1) g dX1_note_25 rfl rfl ?_
  refine r_iadd (pc' := 27) g dX1_note_26 rfl ?_
  refine r_bipush (pc' := 29) (v := 40) g dX1_note_27 rfl rfl ?_
  refine r_irem (pc' := 30) g dX1_note_29 rfl (by decide) ?_
  refine r_put (pc' := 33) g dX1_note_30 rfl fl_X1_18 rfl lC_27 (eC_27 w _ _) (Nat.le_of_ble_eq_true rfl) (sC_27_2 w _ _ _) ?_
  refine r_ltM (fun M3 => ?_)
  refine r_aload_n (pc' := 34) g dX1_note_33 rfl rfl ?_
  refine r_get (pc' := 37) g dX1_note_34 rfl fl_X1_22 lC_27 (eC_27 w _ _) rfl ?_
  refine r_bipush (pc' := 39) (v := 40) g dX1_note_37 rfl rfl ?_
  refine r_cge (pc' := 42) (tgt := 52) g dX1_note_39 rfl rfl ?_ ?_
  · skip
    exact r_vret g e3 dX1_note_52
  · skip
    refine r_aload_n (pc' := 43) g dX1_note_42 rfl rfl ?_
    refine r_dupa (pc' := 44) g dX1_note_43 rfl ?_
    refine r_get (pc' := 47) g dX1_note_44 rfl fl_X1_22 lC_27 (eC_27 w _ _) rfl ?_
    refine r_iconst (pc' := 48) (v := 1) g dX1_note_47 rfl rfl ?_
    refine r_iadd (pc' := 49) g dX1_note_48 rfl ?_
    refine r_put (pc' := 52) g dX1_note_49 rfl fl_X1_22 rfl lC_27 (eC_27 w _ _) (Nat.le_of_ble_eq_true rfl) (sC_27_3 w _ _ _) ?_
    refine r_ltM (fun M4 => ?_)
    exact r_vret g e3 dX1_note_52
def f_X11_change (N : Nat) (a1 : Int32) (a2 : Int32) (a3 : Int32) (a4 : Int32) (M : Mm) : Rs :=
  if a2 < a3 then
    (bd (f_X11_refuse N (-4) M) fun r8 M9 =>
    (some (r8, M9)))
  else
    (if a4 < a2 then
      (bd (f_X11_refuse N (-6) M) fun r6 M7 =>
      (some (r6, M7)))
    else
      (if inb a1 43 then
      (bd (f_X1_note N a1 (M.1 2 (ix a1)) M) fun r1 M2 =>
      (if inb a1 43 then
      (lt' (wI M2 2 (ix a1) a2) fun M3 =>
      (if a2 = (M.1 2 (ix a1)) then
        (some (M.1 2 (ix a1), M3))
      else
        (if a1 = 42 then
          (some (M.1 2 (ix a1), M3))
        else
          (bd (f_X3_forget N  M3) fun r4 M5 =>
          (some (M.1 2 (ix a1), M5)))))) else none)) else none))

set_option maxHeartbeats 4000000 in
set_option maxRecDepth 100000 in
theorem c_X11_change (l : Launch) (w : W0) (N : Nat) (a1 : Int32) (a2 : Int32) (a3 : Int32) (a4 : Int32) (M : Mm) : Ct l KC w 1 yX11_change cX11_change 6 (some .int) [rf w 0, .int a1, .int a2, .int a3, .int a4] M (f_X11_change N a1 a2 a3 a4 M) := by
  refine ct_of [rf w 0, .int a1, .int a2, .int a3, .int a4, .null] (by decide) (Nat.le_of_ble_eq_true rfl) rfl (fun Z e1 e2 e3 g => ?_)
  have g : Good KC w Z cX11_change RX11 1 := g
  unfold f_X11_change
  have n5 : 5 < Z.2.2.1 := by rw [e2]; decide
  refine r_iload_n (pc' := 1) g dX11_change_0 rfl rfl ?_
  refine r_iload_n (pc' := 2) g dX11_change_1 rfl rfl ?_
  refine r_cge (pc' := 5) (tgt := 12) g dX11_change_2 rfl rfl ?_ ?_
  · skip
    refine r_iload_n (pc' := 13) g dX11_change_12 rfl rfl ?_
    refine r_iload (pc' := 15) g dX11_change_13 rfl rfl ?_
    refine r_cle (pc' := 18) (tgt := 25) g dX11_change_15 rfl rfl ?_ ?_
    · skip
      refine r_aload_n (pc' := 26) g dX11_change_25 rfl rfl ?_
      refine r_get (pc' := 29) g dX11_change_26 rfl fl_X11_12 lC_0 (eC_0 w _ _) rfl ?_
      refine r_get (pc' := 32) g dX11_change_29 rfl fl_X11_110 lC_1 (eC_1 w _ _) rfl ?_
      refine r_iload_n (pc' := 33) g dX11_change_32 rfl rfl ?_
      refine r_iald (pc' := 34) g dX11_change_33 rfl lC_2 (eC_2 w _ _) ?_
      refine r_istore (pc' := 36) (L' := [rf w 0, .int a1, .int a2, .int a3, .int a4, .int (M.1 2 (ix a1))]) g dX11_change_34 rfl n5 rfl rfl ?_
      refine r_aload_n (pc' := 37) g dX11_change_36 rfl rfl ?_
      refine r_get (pc' := 40) g dX11_change_37 rfl fl_X11_26 lC_0 (eC_0 w _ _) rfl ?_
      refine r_iload_n (pc' := 41) g dX11_change_40 rfl rfl ?_
      refine r_iload (pc' := 43) g dX11_change_41 rfl rfl ?_
      refine r_callVv (pc' := 46) (As := [.int a1, .int (M.1 2 (ix a1))]) (rest := []) g dX11_change_43 rfl ml_X11_245 mw_X1_note mv_X1_note (Nat.le_of_ble_eq_true rfl) (c_X1_note _ w N a1 (M.1 2 (ix a1)) M) rfl lC_27 (eC_27 w _ _) rfl rfl (Nat.le_of_ble_eq_true rfl) (fun r1 M2 => ?_)
      refine r_aload_n (pc' := 47) g dX11_change_46 rfl rfl ?_
      refine r_get (pc' := 50) g dX11_change_47 rfl fl_X11_12 lC_0 (eC_0 w _ _) rfl ?_
      refine r_get (pc' := 53) g dX11_change_50 rfl fl_X11_110 lC_1 (eC_1 w _ _) rfl ?_
      refine r_iload_n (pc' := 54) g dX11_change_53 rfl rfl ?_
      refine r_iload_n (pc' := 55) g dX11_change_54 rfl rfl ?_
      refine r_iast (pc' := 56) g dX11_change_55 rfl lC_2 (fun m => eC_2 w m _) ?_
      refine r_ltM (fun M3 => ?_)
      refine r_iload_n (pc' := 57) g dX11_change_56 rfl rfl ?_
      refine r_iload (pc' := 59) g dX11_change_57 rfl rfl ?_
      refine r_ceq (pc' := 62) (tgt := 75) g dX11_change_59 rfl rfl ?_ ?_
      · skip
        refine r_iload (pc' := 77) g dX11_change_75 rfl rfl ?_
        exact r_iret g e3 dX11_change_77
      · skip
        refine r_iload_n (pc' := 63) g dX11_change_62 rfl rfl ?_
        refine r_bipush (pc' := 65) (v := 42) g dX11_change_63 rfl rfl ?_
        refine r_ceq (pc' := 68) (tgt := 75) g dX11_change_65 rfl rfl ?_ ?_
        · skip
          refine r_iload (pc' := 77) g dX11_change_75 rfl rfl ?_
          exact r_iret g e3 dX11_change_77
        · skip
          refine r_aload_n (pc' := 69) g dX11_change_68 rfl rfl ?_
          refine r_get (pc' := 72) g dX11_change_69 rfl fl_X11_60 lC_0 (eC_0 w _ _) rfl ?_
          refine r_callVv (pc' := 75) (As := []) (rest := []) g dX11_change_72 rfl ml_X11_91 mw_X3_forget mv_X3_forget (Nat.le_of_ble_eq_true rfl) (c_X3_forget _ w N  M3) rfl lC_38 (eC_38 w _ _) rfl rfl (Nat.le_of_ble_eq_true rfl) (fun r4 M5 => ?_)
          refine r_iload (pc' := 77) g dX11_change_75 rfl rfl ?_
          exact r_iret g e3 dX11_change_77
    · skip
      refine r_aload_n (pc' := 19) g dX11_change_18 rfl rfl ?_
      refine r_bipush (pc' := 21) (v := -6) g dX11_change_19 rfl rfl ?_
      refine r_callVi (pc' := 24) (As := [.int (-6)]) (rest := []) g dX11_change_21 rfl ml_X11_80 mw_X11_refuse mv_X11_refuse (Nat.le_of_ble_eq_true rfl) (c_X11_refuse _ w N (-6) M) rfl lC_0 (eC_0 w _ _) rfl rfl (Nat.le_of_ble_eq_true rfl) (fun r6 M7 => ?_)
      exact r_iret g e3 dX11_change_24
  · skip
    refine r_aload_n (pc' := 6) g dX11_change_5 rfl rfl ?_
    refine r_bipush (pc' := 8) (v := -4) g dX11_change_6 rfl rfl ?_
    refine r_callVi (pc' := 11) (As := [.int (-4)]) (rest := []) g dX11_change_8 rfl ml_X11_80 mw_X11_refuse mv_X11_refuse (Nat.le_of_ble_eq_true rfl) (c_X11_refuse _ w N (-4) M) rfl lC_0 (eC_0 w _ _) rfl rfl (Nat.le_of_ble_eq_true rfl) (fun r8 M9 => ?_)
    exact r_iret g e3 dX11_change_11
def f_X11_tell (N : Nat) (a1 : Int32) (a2 : Int32) (a3 : Int32) (M : Mm) : Rs :=
  bd (f_X10_isHarbour N a1 M) fun r1 M2 =>
  (if r1 = 0 then
    (bd (f_X11_refuse N (-1) M2) fun r9 M10 =>
    (some (r9, M10)))
  else
    (if a2 < 0 then
      (bd (f_X11_refuse N (-2) M2) fun r3 M4 =>
      (some (r3, M4)))
    else
      (if a2 < 6 then
        (if inb a2 6 then
        (bd (f_X11_change N ((a1 * 6) + a2) a3 0 (g0 (ix a2)) M2) fun r5 M6 =>
        (some (r5, M6))) else none)
      else
        (bd (f_X11_refuse N (-2) M2) fun r7 M8 =>
        (some (r7, M8))))))

set_option maxHeartbeats 4000000 in
set_option maxRecDepth 100000 in
theorem c_X11_tell (l : Launch) (w : W0) (N : Nat) (a1 : Int32) (a2 : Int32) (a3 : Int32) (M : Mm) : Ct l KC w 2 yX11_tell cX11_tell 4 (some .int) [rf w 0, .int a1, .int a2, .int a3] M (f_X11_tell N a1 a2 a3 M) := by
  refine ct_of [rf w 0, .int a1, .int a2, .int a3] (by decide) (Nat.le_of_ble_eq_true rfl) rfl (fun Z e1 e2 e3 g => ?_)
  have g : Good KC w Z cX11_tell RX11 2 := g
  unfold f_X11_tell
  refine r_aload_n (pc' := 1) g dX11_tell_0 rfl rfl ?_
  refine r_get (pc' := 4) g dX11_tell_1 rfl fl_X11_12 lC_0 (eC_0 w _ _) rfl ?_
  refine r_iload_n (pc' := 5) g dX11_tell_4 rfl rfl ?_
  refine r_callVi (pc' := 8) (As := [.int a1]) (rest := []) g dX11_tell_5 rfl ml_X11_84 mw_X10_isHarbour mv_X10_isHarbour (Nat.le_of_ble_eq_true rfl) (c_X10_isHarbour _ w N a1 M) rfl lC_1 (eC_1 w _ _) rfl rfl (Nat.le_of_ble_eq_true rfl) (fun r1 M2 => ?_)
  refine r_ifne (pc' := 11) (tgt := 17) g dX11_tell_8 rfl rfl ?_ ?_
  · skip
    refine r_iload_n (pc' := 18) g dX11_tell_17 rfl rfl ?_
    refine r_iflt (pc' := 21) (tgt := 27) g dX11_tell_18 rfl rfl ?_ ?_
    · skip
      refine r_aload_n (pc' := 28) g dX11_tell_27 rfl rfl ?_
      refine r_bipush (pc' := 30) (v := -2) g dX11_tell_28 rfl rfl ?_
      refine r_callVi (pc' := 33) (As := [.int (-2)]) (rest := []) g dX11_tell_30 rfl ml_X11_80 mw_X11_refuse mv_X11_refuse (Nat.le_of_ble_eq_true rfl) (c_X11_refuse _ w N (-2) M2) rfl lC_0 (eC_0 w _ _) rfl rfl (Nat.le_of_ble_eq_true rfl) (fun r3 M4 => ?_)
      exact r_iret g e3 dX11_tell_33
    · skip
      refine r_iload_n (pc' := 22) g dX11_tell_21 rfl rfl ?_
      refine r_bipush (pc' := 24) (v := 6) g dX11_tell_22 rfl rfl ?_
      refine r_clt (pc' := 27) (tgt := 34) g dX11_tell_24 rfl rfl ?_ ?_
      · skip
        refine r_aload_n (pc' := 35) g dX11_tell_34 rfl rfl ?_
        refine r_iload_n (pc' := 36) g dX11_tell_35 rfl rfl ?_
        refine r_bipush (pc' := 38) (v := 6) g dX11_tell_36 rfl rfl ?_
        refine r_imul (pc' := 39) g dX11_tell_38 rfl ?_
        refine r_iload_n (pc' := 40) g dX11_tell_39 rfl rfl ?_
        refine r_iadd (pc' := 41) g dX11_tell_40 rfl ?_
        refine r_iload_n (pc' := 42) g dX11_tell_41 rfl rfl ?_
        refine r_iconst (pc' := 43) (v := 0) g dX11_tell_42 rfl rfl ?_
        refine r_gets (pc' := 46) g dX11_tell_43 rfl sl_X11_94 (sg_of g).1 ?_
        refine r_iload_n (pc' := 47) g dX11_tell_46 rfl rfl ?_
        refine r_tald (pc' := 48) g dX11_tell_47 rfl (sg_of g).2.1 ?_
        refine r_callVi (pc' := 51) (As := [.int ((a1 * 6) + a2), .int a3, .int 0, .int (g0 (ix a2))]) (rest := []) g dX11_tell_48 rfl ml_X11_97 mw_X11_change mv_X11_change (Nat.le_of_ble_eq_true rfl) (c_X11_change _ w N ((a1 * 6) + a2) a3 0 (g0 (ix a2)) M2) rfl lC_0 (eC_0 w _ _) rfl rfl (Nat.le_of_ble_eq_true rfl) (fun r5 M6 => ?_)
        exact r_iret g e3 dX11_tell_51
      · skip
        refine r_aload_n (pc' := 28) g dX11_tell_27 rfl rfl ?_
        refine r_bipush (pc' := 30) (v := -2) g dX11_tell_28 rfl rfl ?_
        refine r_callVi (pc' := 33) (As := [.int (-2)]) (rest := []) g dX11_tell_30 rfl ml_X11_80 mw_X11_refuse mv_X11_refuse (Nat.le_of_ble_eq_true rfl) (c_X11_refuse _ w N (-2) M2) rfl lC_0 (eC_0 w _ _) rfl rfl (Nat.le_of_ble_eq_true rfl) (fun r7 M8 => ?_)
        exact r_iret g e3 dX11_tell_33
  · skip
    refine r_aload_n (pc' := 12) g dX11_tell_11 rfl rfl ?_
    refine r_iconst (pc' := 13) (v := -1) g dX11_tell_12 rfl rfl ?_
    refine r_callVi (pc' := 16) (As := [.int (-1)]) (rest := []) g dX11_tell_13 rfl ml_X11_80 mw_X11_refuse mv_X11_refuse (Nat.le_of_ble_eq_true rfl) (c_X11_refuse _ w N (-1) M2) rfl lC_0 (eC_0 w _ _) rfl rfl (Nat.le_of_ble_eq_true rfl) (fun r9 M10 => ?_)
    exact r_iret g e3 dX11_tell_16
def f_X11_move (N : Nat) (a1 : Int32) (a2 : Int32) (a3 : Int32) (M : Mm) : Rs :=
  bd (f_X10_isHarbour N a1 M) fun r1 M2 =>
  (if r1 = 0 then
    (bd (f_X11_refuse N (-1) M2) fun r3 M4 =>
    (some (r3, M4)))
  else
    (bd (f_X10_isHarbour N a2 M2) fun r5 M6 =>
    (if r5 = 0 then
      (bd (f_X11_refuse N (-1) M6) fun r7 M8 =>
      (some (r7, M8)))
    else
      (if a1 = a2 then
        (bd (f_X11_refuse N (-1) M6) fun r11 M12 =>
        (some (r11, M12)))
      else
        (bd (f_X11_change N ((24 + (a1 * 4)) + a2) a3 0 99 M6) fun r9 M10 =>
        (some (r9, M10)))))))

set_option maxHeartbeats 4000000 in
set_option maxRecDepth 100000 in
theorem c_X11_move (l : Launch) (w : W0) (N : Nat) (a1 : Int32) (a2 : Int32) (a3 : Int32) (M : Mm) : Ct l KC w 2 yX11_move cX11_move 4 (some .int) [rf w 0, .int a1, .int a2, .int a3] M (f_X11_move N a1 a2 a3 M) := by
  refine ct_of [rf w 0, .int a1, .int a2, .int a3] (by decide) (Nat.le_of_ble_eq_true rfl) rfl (fun Z e1 e2 e3 g => ?_)
  have g : Good KC w Z cX11_move RX11 2 := g
  unfold f_X11_move
  refine r_aload_n (pc' := 1) g dX11_move_0 rfl rfl ?_
  refine r_get (pc' := 4) g dX11_move_1 rfl fl_X11_12 lC_0 (eC_0 w _ _) rfl ?_
  refine r_iload_n (pc' := 5) g dX11_move_4 rfl rfl ?_
  refine r_callVi (pc' := 8) (As := [.int a1]) (rest := []) g dX11_move_5 rfl ml_X11_84 mw_X10_isHarbour mv_X10_isHarbour (Nat.le_of_ble_eq_true rfl) (c_X10_isHarbour _ w N a1 M) rfl lC_1 (eC_1 w _ _) rfl rfl (Nat.le_of_ble_eq_true rfl) (fun r1 M2 => ?_)
  refine r_ifeq (pc' := 11) (tgt := 27) g dX11_move_8 rfl rfl ?_ ?_
  · skip
    refine r_aload_n (pc' := 28) g dX11_move_27 rfl rfl ?_
    refine r_iconst (pc' := 29) (v := -1) g dX11_move_28 rfl rfl ?_
    refine r_callVi (pc' := 32) (As := [.int (-1)]) (rest := []) g dX11_move_29 rfl ml_X11_80 mw_X11_refuse mv_X11_refuse (Nat.le_of_ble_eq_true rfl) (c_X11_refuse _ w N (-1) M2) rfl lC_0 (eC_0 w _ _) rfl rfl (Nat.le_of_ble_eq_true rfl) (fun r3 M4 => ?_)
    exact r_iret g e3 dX11_move_32
  · skip
    refine r_aload_n (pc' := 12) g dX11_move_11 rfl rfl ?_
    refine r_get (pc' := 15) g dX11_move_12 rfl fl_X11_12 lC_0 (eC_0 w _ _) rfl ?_
    refine r_iload_n (pc' := 16) g dX11_move_15 rfl rfl ?_
    refine r_callVi (pc' := 19) (As := [.int a2]) (rest := []) g dX11_move_16 rfl ml_X11_84 mw_X10_isHarbour mv_X10_isHarbour (Nat.le_of_ble_eq_true rfl) (c_X10_isHarbour _ w N a2 M2) rfl lC_1 (eC_1 w _ _) rfl rfl (Nat.le_of_ble_eq_true rfl) (fun r5 M6 => ?_)
    refine r_ifeq (pc' := 22) (tgt := 27) g dX11_move_19 rfl rfl ?_ ?_
    · skip
      refine r_aload_n (pc' := 28) g dX11_move_27 rfl rfl ?_
      refine r_iconst (pc' := 29) (v := -1) g dX11_move_28 rfl rfl ?_
      refine r_callVi (pc' := 32) (As := [.int (-1)]) (rest := []) g dX11_move_29 rfl ml_X11_80 mw_X11_refuse mv_X11_refuse (Nat.le_of_ble_eq_true rfl) (c_X11_refuse _ w N (-1) M6) rfl lC_0 (eC_0 w _ _) rfl rfl (Nat.le_of_ble_eq_true rfl) (fun r7 M8 => ?_)
      exact r_iret g e3 dX11_move_32
    · skip
      refine r_iload_n (pc' := 23) g dX11_move_22 rfl rfl ?_
      refine r_iload_n (pc' := 24) g dX11_move_23 rfl rfl ?_
      refine r_cne (pc' := 27) (tgt := 33) g dX11_move_24 rfl rfl ?_ ?_
      · skip
        refine r_aload_n (pc' := 34) g dX11_move_33 rfl rfl ?_
        refine r_bipush (pc' := 36) (v := 24) g dX11_move_34 rfl rfl ?_
        refine r_iload_n (pc' := 37) g dX11_move_36 rfl rfl ?_
        refine r_iconst (pc' := 38) (v := 4) g dX11_move_37 rfl rfl ?_
        refine r_imul (pc' := 39) g dX11_move_38 rfl ?_
        refine r_iadd (pc' := 40) g dX11_move_39 rfl ?_
        refine r_iload_n (pc' := 41) g dX11_move_40 rfl rfl ?_
        refine r_iadd (pc' := 42) g dX11_move_41 rfl ?_
        refine r_iload_n (pc' := 43) g dX11_move_42 rfl rfl ?_
        refine r_iconst (pc' := 44) (v := 0) g dX11_move_43 rfl rfl ?_
        refine r_bipush (pc' := 46) (v := 99) g dX11_move_44 rfl rfl ?_
        refine r_callVi (pc' := 49) (As := [.int ((24 + (a1 * 4)) + a2), .int a3, .int 0, .int 99]) (rest := []) g dX11_move_46 rfl ml_X11_97 mw_X11_change mv_X11_change (Nat.le_of_ble_eq_true rfl) (c_X11_change _ w N ((24 + (a1 * 4)) + a2) a3 0 99 M6) rfl lC_0 (eC_0 w _ _) rfl rfl (Nat.le_of_ble_eq_true rfl) (fun r9 M10 => ?_)
        exact r_iret g e3 dX11_move_49
      · skip
        refine r_aload_n (pc' := 28) g dX11_move_27 rfl rfl ?_
        refine r_iconst (pc' := 29) (v := -1) g dX11_move_28 rfl rfl ?_
        refine r_callVi (pc' := 32) (As := [.int (-1)]) (rest := []) g dX11_move_29 rfl ml_X11_80 mw_X11_refuse mv_X11_refuse (Nat.le_of_ble_eq_true rfl) (c_X11_refuse _ w N (-1) M6) rfl lC_0 (eC_0 w _ _) rfl rfl (Nat.le_of_ble_eq_true rfl) (fun r11 M12 => ?_)
        exact r_iret g e3 dX11_move_32
def f_X11_set (N : Nat) (a1 : Int32) (a2 : Int32) (M : Mm) : Rs :=
  if a1 < 0 then
    (bd (f_X11_refuse N (-2) M) fun r1 M2 =>
    (some (r1, M2)))
  else
    (if a1 < 3 then
      (if inb a1 3 then
      (if inb a1 3 then
      (bd (f_X11_change N (40 + a1) a2 (g1 (ix a1)) (g2 (ix a1)) M) fun r3 M4 =>
      (some (r3, M4))) else none) else none)
    else
      (bd (f_X11_refuse N (-2) M) fun r5 M6 =>
      (some (r5, M6))))

set_option maxHeartbeats 4000000 in
set_option maxRecDepth 100000 in
theorem c_X11_set (l : Launch) (w : W0) (N : Nat) (a1 : Int32) (a2 : Int32) (M : Mm) : Ct l KC w 2 yX11_set cX11_set 3 (some .int) [rf w 0, .int a1, .int a2] M (f_X11_set N a1 a2 M) := by
  refine ct_of [rf w 0, .int a1, .int a2] (by decide) (Nat.le_of_ble_eq_true rfl) rfl (fun Z e1 e2 e3 g => ?_)
  have g : Good KC w Z cX11_set RX11 2 := g
  unfold f_X11_set
  refine r_iload_n (pc' := 1) g dX11_set_0 rfl rfl ?_
  refine r_iflt (pc' := 4) (tgt := 12) g dX11_set_1 rfl rfl ?_ ?_
  · skip
    refine r_aload_n (pc' := 13) g dX11_set_12 rfl rfl ?_
    refine r_bipush (pc' := 15) (v := -2) g dX11_set_13 rfl rfl ?_
    refine r_callVi (pc' := 18) (As := [.int (-2)]) (rest := []) g dX11_set_15 rfl ml_X11_80 mw_X11_refuse mv_X11_refuse (Nat.le_of_ble_eq_true rfl) (c_X11_refuse _ w N (-2) M) rfl lC_0 (eC_0 w _ _) rfl rfl (Nat.le_of_ble_eq_true rfl) (fun r1 M2 => ?_)
    exact r_iret g e3 dX11_set_18
  · skip
    refine r_iload_n (pc' := 5) g dX11_set_4 rfl rfl ?_
    refine r_gets (pc' := 8) g dX11_set_5 rfl sl_X11_101 (sg_of g).2.2.1 ?_
    refine r_tlen (pc' := 9) (v := 3) g dX11_set_8 rfl (sg_of g).2.2.2.1 rfl ?_
    refine r_clt (pc' := 12) (tgt := 19) g dX11_set_9 rfl rfl ?_ ?_
    · skip
      refine r_aload_n (pc' := 20) g dX11_set_19 rfl rfl ?_
      refine r_bipush (pc' := 22) (v := 40) g dX11_set_20 rfl rfl ?_
      refine r_iload_n (pc' := 23) g dX11_set_22 rfl rfl ?_
      refine r_iadd (pc' := 24) g dX11_set_23 rfl ?_
      refine r_iload_n (pc' := 25) g dX11_set_24 rfl rfl ?_
      refine r_gets (pc' := 28) g dX11_set_25 rfl sl_X11_101 (sg_of g).2.2.1 ?_
      refine r_iload_n (pc' := 29) g dX11_set_28 rfl rfl ?_
      refine r_tald (pc' := 30) g dX11_set_29 rfl (sg_of g).2.2.2.1 ?_
      refine r_gets (pc' := 33) g dX11_set_30 rfl sl_X11_104 (sg_of g).2.2.2.2.1 ?_
      refine r_iload_n (pc' := 34) g dX11_set_33 rfl rfl ?_
      refine r_tald (pc' := 35) g dX11_set_34 rfl (sg_of g).2.2.2.2.2.1 ?_
      refine r_callVi (pc' := 38) (As := [.int (40 + a1), .int a2, .int (g1 (ix a1)), .int (g2 (ix a1))]) (rest := []) g dX11_set_35 rfl ml_X11_97 mw_X11_change mv_X11_change (Nat.le_of_ble_eq_true rfl) (c_X11_change _ w N (40 + a1) a2 (g1 (ix a1)) (g2 (ix a1)) M) rfl lC_0 (eC_0 w _ _) rfl rfl (Nat.le_of_ble_eq_true rfl) (fun r3 M4 => ?_)
      exact r_iret g e3 dX11_set_38
    · skip
      refine r_aload_n (pc' := 13) g dX11_set_12 rfl rfl ?_
      refine r_bipush (pc' := 15) (v := -2) g dX11_set_13 rfl rfl ?_
      refine r_callVi (pc' := 18) (As := [.int (-2)]) (rest := []) g dX11_set_15 rfl ml_X11_80 mw_X11_refuse mv_X11_refuse (Nat.le_of_ble_eq_true rfl) (c_X11_refuse _ w N (-2) M) rfl lC_0 (eC_0 w _ _) rfl rfl (Nat.le_of_ble_eq_true rfl) (fun r5 M6 => ?_)
      exact r_iret g e3 dX11_set_18
def f_X1_takeBack (N : Nat) (M : Mm) : Rs :=
  if (M.1 27 3) = 0 then
    (some (0, M))
  else
    (lt' (wI M 27 2 ((((M.1 27 2) + 40) - 1) - (((M.1 27 2) + 40) - 1) / 40 * 40)) fun M1 =>
    (lt' (wI M1 27 3 ((M1.1 27 3) - 1)) fun M2 =>
    (if inb (M2.1 27 2) 40 then
    (if (M2.1 28 (ix (M2.1 27 2))) < 0 then
      (some (0, M2))
    else
      (if (M2.1 28 (ix (M2.1 27 2))) < 43 then
        (if inb (M2.1 27 2) 40 then
        (if inb (M2.1 28 (ix (M2.1 27 2))) 43 then
        (lt' (wI M2 2 (ix (M2.1 28 (ix (M2.1 27 2)))) (M2.1 29 (ix (M2.1 27 2)))) fun M3 =>
        (some (0, M3))) else none) else none)
      else
        (some (0, M2)))) else none)))

set_option maxHeartbeats 4000000 in
set_option maxRecDepth 100000 in
theorem c_X1_takeBack (l : Launch) (w : W0) (N : Nat) (M : Mm) : Ct l KC w 0 yX1_takeBack cX1_takeBack 3 none [rf w 27, rf w 2] M (f_X1_takeBack N M) := by
  refine ct_of [rf w 27, rf w 2, .null] (by decide) (Nat.le_of_ble_eq_true rfl) rfl (fun Z e1 e2 e3 g => ?_)
  have g : Good KC w Z cX1_takeBack RX1 0 := g
  unfold f_X1_takeBack
  have n2 : 2 < Z.2.2.1 := by rw [e2]; decide
  refine r_aload_n (pc' := 1) g dX1_takeBack_0 rfl rfl ?_
  refine r_get (pc' := 4) g dX1_takeBack_1 rfl fl_X1_22 lC_27 (eC_27 w _ _) rfl ?_
  refine r_ifne (pc' := 7) (tgt := 8) g dX1_takeBack_4 rfl rfl ?_ ?_
  · skip
    refine r_aload_n (pc' := 9) g dX1_takeBack_8 rfl rfl ?_
    refine r_aload_n (pc' := 10) g dX1_takeBack_9 rfl rfl ?_
    refine r_get (pc' := 13) g dX1_takeBack_10 rfl fl_X1_18 lC_27 (eC_27 w _ _) rfl ?_
    refine r_bipush (pc' := 15) (v := 40) g dX1_takeBack_13 rfl rfl ?_
    refine r_iadd (pc' := 16) g dX1_takeBack_15 rfl ?_
    refine r_iconst (pc' := 17) (v := 1) g dX1_takeBack_16 rfl rfl ?_
    refine r_isub (pc' := 18) g dX1_takeBack_17 rfl ?_
    refine r_bipush (pc' := 20) (v := 40) g dX1_takeBack_18 rfl rfl ?_
    refine r_irem (pc' := 21) g dX1_takeBack_20 rfl (by decide) ?_
    refine r_put (pc' := 24) g dX1_takeBack_21 rfl fl_X1_18 rfl lC_27 (eC_27 w _ _) (Nat.le_of_ble_eq_true rfl) (sC_27_2 w _ _ _) ?_
    refine r_ltM (fun M1 => ?_)
    refine r_aload_n (pc' := 25) g dX1_takeBack_24 rfl rfl ?_
    refine r_dupa (pc' := 26) g dX1_takeBack_25 rfl ?_
    refine r_get (pc' := 29) g dX1_takeBack_26 rfl fl_X1_22 lC_27 (eC_27 w _ _) rfl ?_
    refine r_iconst (pc' := 30) (v := 1) g dX1_takeBack_29 rfl rfl ?_
    refine r_isub (pc' := 31) g dX1_takeBack_30 rfl ?_
    refine r_put (pc' := 34) g dX1_takeBack_31 rfl fl_X1_22 rfl lC_27 (eC_27 w _ _) (Nat.le_of_ble_eq_true rfl) (sC_27_3 w _ _ _) ?_
    refine r_ltM (fun M2 => ?_)
    refine r_aload_n (pc' := 35) g dX1_takeBack_34 rfl rfl ?_
    refine r_get (pc' := 38) g dX1_takeBack_35 rfl fl_X1_9 lC_27 (eC_27 w _ _) rfl ?_
    refine r_aload_n (pc' := 39) g dX1_takeBack_38 rfl rfl ?_
    refine r_get (pc' := 42) g dX1_takeBack_39 rfl fl_X1_18 lC_27 (eC_27 w _ _) rfl ?_
    refine r_iald (pc' := 43) g dX1_takeBack_42 rfl lC_28 (eC_28 w _ _) ?_
    refine r_istore_n (pc' := 44) (L' := [rf w 27, rf w 2, .int (M2.1 28 (ix (M2.1 27 2)))]) g dX1_takeBack_43 rfl n2 rfl rfl ?_
    refine r_iload_n (pc' := 45) g dX1_takeBack_44 rfl rfl ?_
    refine r_iflt (pc' := 48) (tgt := 66) g dX1_takeBack_45 rfl rfl ?_ ?_
    · skip
      exact r_vret g e3 dX1_takeBack_66
    · skip
      refine r_iload_n (pc' := 49) g dX1_takeBack_48 rfl rfl ?_
      refine r_aload_n (pc' := 50) g dX1_takeBack_49 rfl rfl ?_
      refine r_alen (pc' := 51) (v := 43) (t := 0) g dX1_takeBack_50 rfl lC_2 (eC_2 w _ _) rfl rfl ?_
      refine r_cge (pc' := 54) (tgt := 66) g dX1_takeBack_51 rfl rfl ?_ ?_
      · skip
        exact r_vret g e3 dX1_takeBack_66
      · skip
        refine r_aload_n (pc' := 55) g dX1_takeBack_54 rfl rfl ?_
        refine r_iload_n (pc' := 56) g dX1_takeBack_55 rfl rfl ?_
        refine r_aload_n (pc' := 57) g dX1_takeBack_56 rfl rfl ?_
        refine r_get (pc' := 60) g dX1_takeBack_57 rfl fl_X1_15 lC_27 (eC_27 w _ _) rfl ?_
        refine r_aload_n (pc' := 61) g dX1_takeBack_60 rfl rfl ?_
        refine r_get (pc' := 64) g dX1_takeBack_61 rfl fl_X1_18 lC_27 (eC_27 w _ _) rfl ?_
        refine r_iald (pc' := 65) g dX1_takeBack_64 rfl lC_29 (eC_29 w _ _) ?_
        refine r_iast (pc' := 66) g dX1_takeBack_65 rfl lC_2 (fun m => eC_2 w m _) ?_
        refine r_ltM (fun M3 => ?_)
        exact r_vret g e3 dX1_takeBack_66
  · skip
    exact r_vret g e3 dX1_takeBack_7
def f_X11_undo (N : Nat) (M : Mm) : Rs :=
  if (M.1 27 3) = 0 then
    (bd (f_X11_refuse N (-3) M) fun r5 M6 =>
    (some (r5, M6)))
  else
    (bd (f_X1_takeBack N  M) fun r1 M2 =>
    (bd (f_X3_forget N  M2) fun r3 M4 =>
    (some (1, M4))))

set_option maxHeartbeats 4000000 in
set_option maxRecDepth 100000 in
theorem c_X11_undo (l : Launch) (w : W0) (N : Nat) (M : Mm) : Ct l KC w 1 yX11_undo cX11_undo 1 (some .int) [rf w 0] M (f_X11_undo N M) := by
  refine ct_of [rf w 0] (by decide) (Nat.le_of_ble_eq_true rfl) rfl (fun Z e1 e2 e3 g => ?_)
  have g : Good KC w Z cX11_undo RX11 1 := g
  unfold f_X11_undo
  refine r_aload_n (pc' := 1) g dX11_undo_0 rfl rfl ?_
  refine r_get (pc' := 4) g dX11_undo_1 rfl fl_X11_26 lC_0 (eC_0 w _ _) rfl ?_
  refine r_get (pc' := 7) g dX11_undo_4 rfl fl_X11_107 lC_27 (eC_27 w _ _) rfl ?_
  refine r_ifne (pc' := 10) (tgt := 17) g dX11_undo_7 rfl rfl ?_ ?_
  · skip
    refine r_aload_n (pc' := 18) g dX11_undo_17 rfl rfl ?_
    refine r_get (pc' := 21) g dX11_undo_18 rfl fl_X11_26 lC_0 (eC_0 w _ _) rfl ?_
    refine r_aload_n (pc' := 22) g dX11_undo_21 rfl rfl ?_
    refine r_get (pc' := 25) g dX11_undo_22 rfl fl_X11_12 lC_0 (eC_0 w _ _) rfl ?_
    refine r_get (pc' := 28) g dX11_undo_25 rfl fl_X11_110 lC_1 (eC_1 w _ _) rfl ?_
    refine r_callVv (pc' := 31) (As := [rf w 2]) (rest := []) g dX11_undo_28 rfl ml_X11_113 mw_X1_takeBack mv_X1_takeBack (Nat.le_of_ble_eq_true rfl) (c_X1_takeBack _ w N  M) rfl lC_27 (eC_27 w _ _) rfl rfl (Nat.le_of_ble_eq_true rfl) (fun r1 M2 => ?_)
    refine r_aload_n (pc' := 32) g dX11_undo_31 rfl rfl ?_
    refine r_get (pc' := 35) g dX11_undo_32 rfl fl_X11_60 lC_0 (eC_0 w _ _) rfl ?_
    refine r_callVv (pc' := 38) (As := []) (rest := []) g dX11_undo_35 rfl ml_X11_91 mw_X3_forget mv_X3_forget (Nat.le_of_ble_eq_true rfl) (c_X3_forget _ w N  M2) rfl lC_38 (eC_38 w _ _) rfl rfl (Nat.le_of_ble_eq_true rfl) (fun r3 M4 => ?_)
    refine r_iconst (pc' := 39) (v := 1) g dX11_undo_38 rfl rfl ?_
    exact r_iret g e3 dX11_undo_39
  · skip
    refine r_aload_n (pc' := 11) g dX11_undo_10 rfl rfl ?_
    refine r_bipush (pc' := 13) (v := -3) g dX11_undo_11 rfl rfl ?_
    refine r_callVi (pc' := 16) (As := [.int (-3)]) (rest := []) g dX11_undo_13 rfl ml_X11_80 mw_X11_refuse mv_X11_refuse (Nat.le_of_ble_eq_true rfl) (c_X11_refuse _ w N (-3) M) rfl lC_0 (eC_0 w _ _) rfl rfl (Nat.le_of_ble_eq_true rfl) (fun r5 M6 => ?_)
    exact r_iret g e3 dX11_undo_16
def B_X9_append_3 (N : Nat) (p1 : Int32) (p2 : Int64) (G : Unit → Mm → Rs) (rec : Int32 → Mm → Rs) (s : Int32) (M : Mm) : Rs :=
  if s < p1 then
      (if (M.1 30 1) < 40 then
        (if inb (M.1 30 1) 40 then
        (lt' (wI M 31 (ix (M.1 30 1)) (((lushr p2 (8 * s)) &&& 255).toInt32)) fun M1 =>
        (lt' (wI M1 30 1 ((M1.1 30 1) + 1)) fun M2 =>
        (rec (s + 1) M2))) else none)
      else
        (G () M))
    else
      (G () M)

def f_X9_append (N : Nat) (a1 : Int32) (b2 : Int64) (M : Mm) : Rs :=
  itr (B_X9_append_3 N a1 b2 fun z3 M4 =>
  (some (0, M4))) N 0 M

set_option maxHeartbeats 4000000 in
set_option maxRecDepth 100000 in
theorem s_X9_append_3 {w : W0} {Z : Zx} (g : Good KC w Z cX9_append RX9 0) (e2 : Z.2.2.1 = 5) (e3 : Z.2.2.2 = none) (N : Nat) (p1 : Int32) (p2 : Int64) (G : Unit → Mm → Rs) (kG : ∀ (x : Unit) (M : Mm), Sim KC w Z 55 [.null, .null, .null, .null, .null] [] M (G x M)) : ∀ (n : Nat) (s : Int32) (M : Mm), Sim KC w Z 3 [rf w 30, .int p1, .long p2, .null, .int s] [] M (itr (B_X9_append_3 N p1 p2 G) n s M) := by
  have n4 : 4 < Z.2.2.1 := by rw [e2]; decide
  refine r_itr (Lf := fun (s : Int32) => [rf w 30, .int p1, .long p2, .null, .int s]) (fun rec hr s M => ?_)
  unfold B_X9_append_3
  refine r_iload (pc' := 5) g dX9_append_3 rfl rfl ?_
  refine r_iload_n (pc' := 6) g dX9_append_5 rfl rfl ?_
  refine r_cge (pc' := 9) (tgt := 55) g dX9_append_6 rfl rfl ?_ ?_
  · skip
    exact r_weak (Ls1 (Ls1 (Ls1 (Ls1 (Ls1 Ls0))))) (kG () M)
  · skip
    refine r_aload_n (pc' := 10) g dX9_append_9 rfl rfl ?_
    refine r_get (pc' := 13) g dX9_append_10 rfl fl_X9_15 lC_30 (eC_30 w _ _) rfl ?_
    refine r_bipush (pc' := 15) (v := 40) g dX9_append_13 rfl rfl ?_
    refine r_cge (pc' := 18) (tgt := 55) g dX9_append_15 rfl rfl ?_ ?_
    · skip
      exact r_weak (Ls1 (Ls1 (Ls1 (Ls1 (Ls1 Ls0))))) (kG () M)
    · skip
      refine r_aload_n (pc' := 19) g dX9_append_18 rfl rfl ?_
      refine r_get (pc' := 22) g dX9_append_19 rfl fl_X9_9 lC_30 (eC_30 w _ _) rfl ?_
      refine r_aload_n (pc' := 23) g dX9_append_22 rfl rfl ?_
      refine r_get (pc' := 26) g dX9_append_23 rfl fl_X9_15 lC_30 (eC_30 w _ _) rfl ?_
      refine r_lload_n (pc' := 27) g dX9_append_26 rfl rfl ?_
      refine r_bipush (pc' := 29) (v := 8) g dX9_append_27 rfl rfl ?_
      refine r_iload (pc' := 31) g dX9_append_29 rfl rfl ?_
      refine r_imul (pc' := 32) g dX9_append_31 rfl ?_
      refine r_lushr (pc' := 33) g dX9_append_32 rfl ?_
      refine r_ldc2 (pc' := 36) g dX9_append_33 rfl kc_X9_25 ?_
      refine r_land (pc' := 37) g dX9_append_36 rfl ?_
      refine r_l2i (pc' := 38) g dX9_append_37 rfl ?_
      refine r_iast (pc' := 39) g dX9_append_38 rfl lC_31 (fun m => eC_31 w m _) ?_
      refine r_ltM (fun M1 => ?_)
      refine r_aload_n (pc' := 40) g dX9_append_39 rfl rfl ?_
      refine r_dupa (pc' := 41) g dX9_append_40 rfl ?_
      refine r_get (pc' := 44) g dX9_append_41 rfl fl_X9_15 lC_30 (eC_30 w _ _) rfl ?_
      refine r_iconst (pc' := 45) (v := 1) g dX9_append_44 rfl rfl ?_
      refine r_iadd (pc' := 46) g dX9_append_45 rfl ?_
      refine r_put (pc' := 49) g dX9_append_46 rfl fl_X9_15 rfl lC_30 (eC_30 w _ _) (Nat.le_of_ble_eq_true rfl) (sC_30_1 w _ _ _) ?_
      refine r_ltM (fun M2 => ?_)
      refine r_iinc (pc' := 52) (b := 1) (L' := [rf w 30, .int p1, .long p2, .null, .int (s + 1)]) g dX9_append_49 rfl rfl rfl n4 rfl rfl ?_
      refine r_goto (tgt := 3) g dX9_append_52 rfl ?_
      exact r_weak (Ls2 (Ls2 (Ls2 (Ls1 (Ls2 Ls0))))) (hr (s + 1) M2)
set_option maxHeartbeats 4000000 in
set_option maxRecDepth 100000 in
theorem c_X9_append (l : Launch) (w : W0) (N : Nat) (a1 : Int32) (b2 : Int64) (M : Mm) : Ct l KC w 0 yX9_append cX9_append 5 none [rf w 30, .int a1, .long b2] M (f_X9_append N a1 b2 M) := by
  refine ct_of [rf w 30, .int a1, .long b2, .null, .null] (by decide) (Nat.le_of_ble_eq_true rfl) rfl (fun Z e1 e2 e3 g => ?_)
  have g : Good KC w Z cX9_append RX9 0 := g
  unfold f_X9_append
  have n4 : 4 < Z.2.2.1 := by rw [e2]; decide
  refine r_iconst (pc' := 1) (v := 0) g dX9_append_0 rfl rfl ?_
  refine r_istore (pc' := 3) (L' := [rf w 30, .int a1, .long b2, .null, .int 0]) g dX9_append_1 rfl n4 rfl rfl ?_
  refine r_weak (Ls2 (Ls2 (Ls2 (Ls1 (Ls2 Ls0))))) (s_X9_append_3 g e2 e3 N a1 b2 _ (fun z3 M4 => ?_) N 0 M)
  exact r_vret g e3 dX9_append_55
def f_X11_feed (N : Nat) (a1 : Int32) (b2 : Int64) (M : Mm) : Rs :=
  if a1 < 1 then
    (bd (f_X11_refuse N (-4) M) fun r7 M8 =>
    (some (r7, M8)))
  else
    (if 8 < a1 then
      (bd (f_X11_refuse N (-6) M) fun r1 M2 =>
      (some (r1, M2)))
    else
      (if 40 < ((M.1 30 1) + a1) then
        (bd (f_X11_refuse N (-6) M) fun r5 M6 =>
        (some (r5, M6)))
      else
        (bd (f_X9_append N a1 b2 M) fun r3 M4 =>
        (some (M4.1 30 1, M4)))))

set_option maxHeartbeats 4000000 in
set_option maxRecDepth 100000 in
theorem c_X11_feed (l : Launch) (w : W0) (N : Nat) (a1 : Int32) (b2 : Int64) (M : Mm) : Ct l KC w 1 yX11_feed cX11_feed 4 (some .int) [rf w 0, .int a1, .long b2] M (f_X11_feed N a1 b2 M) := by
  refine ct_of [rf w 0, .int a1, .long b2, .null] (by decide) (Nat.le_of_ble_eq_true rfl) rfl (fun Z e1 e2 e3 g => ?_)
  have g : Good KC w Z cX11_feed RX11 1 := g
  unfold f_X11_feed
  refine r_iload_n (pc' := 1) g dX11_feed_0 rfl rfl ?_
  refine r_iconst (pc' := 2) (v := 1) g dX11_feed_1 rfl rfl ?_
  refine r_cge (pc' := 5) (tgt := 12) g dX11_feed_2 rfl rfl ?_ ?_
  · skip
    refine r_iload_n (pc' := 13) g dX11_feed_12 rfl rfl ?_
    refine r_bipush (pc' := 15) (v := 8) g dX11_feed_13 rfl rfl ?_
    refine r_cgt (pc' := 18) (tgt := 32) g dX11_feed_15 rfl rfl ?_ ?_
    · skip
      refine r_aload_n (pc' := 33) g dX11_feed_32 rfl rfl ?_
      refine r_bipush (pc' := 35) (v := -6) g dX11_feed_33 rfl rfl ?_
      refine r_callVi (pc' := 38) (As := [.int (-6)]) (rest := []) g dX11_feed_35 rfl ml_X11_80 mw_X11_refuse mv_X11_refuse (Nat.le_of_ble_eq_true rfl) (c_X11_refuse _ w N (-6) M) rfl lC_0 (eC_0 w _ _) rfl rfl (Nat.le_of_ble_eq_true rfl) (fun r1 M2 => ?_)
      exact r_iret g e3 dX11_feed_38
    · skip
      refine r_aload_n (pc' := 19) g dX11_feed_18 rfl rfl ?_
      refine r_get (pc' := 22) g dX11_feed_19 rfl fl_X11_33 lC_0 (eC_0 w _ _) rfl ?_
      refine r_get (pc' := 25) g dX11_feed_22 rfl fl_X11_117 lC_30 (eC_30 w _ _) rfl ?_
      refine r_iload_n (pc' := 26) g dX11_feed_25 rfl rfl ?_
      refine r_iadd (pc' := 27) g dX11_feed_26 rfl ?_
      refine r_bipush (pc' := 29) (v := 40) g dX11_feed_27 rfl rfl ?_
      refine r_cle (pc' := 32) (tgt := 39) g dX11_feed_29 rfl rfl ?_ ?_
      · skip
        refine r_aload_n (pc' := 40) g dX11_feed_39 rfl rfl ?_
        refine r_get (pc' := 43) g dX11_feed_40 rfl fl_X11_33 lC_0 (eC_0 w _ _) rfl ?_
        refine r_iload_n (pc' := 44) g dX11_feed_43 rfl rfl ?_
        refine r_lload_n (pc' := 45) g dX11_feed_44 rfl rfl ?_
        refine r_callVv (pc' := 48) (As := [.int a1, .long b2]) (rest := []) g dX11_feed_45 rfl ml_X11_120 mw_X9_append mv_X9_append (Nat.le_of_ble_eq_true rfl) (c_X9_append _ w N a1 b2 M) rfl lC_30 (eC_30 w _ _) rfl rfl (Nat.le_of_ble_eq_true rfl) (fun r3 M4 => ?_)
        refine r_aload_n (pc' := 49) g dX11_feed_48 rfl rfl ?_
        refine r_get (pc' := 52) g dX11_feed_49 rfl fl_X11_33 lC_0 (eC_0 w _ _) rfl ?_
        refine r_get (pc' := 55) g dX11_feed_52 rfl fl_X11_117 lC_30 (eC_30 w _ _) rfl ?_
        exact r_iret g e3 dX11_feed_55
      · skip
        refine r_aload_n (pc' := 33) g dX11_feed_32 rfl rfl ?_
        refine r_bipush (pc' := 35) (v := -6) g dX11_feed_33 rfl rfl ?_
        refine r_callVi (pc' := 38) (As := [.int (-6)]) (rest := []) g dX11_feed_35 rfl ml_X11_80 mw_X11_refuse mv_X11_refuse (Nat.le_of_ble_eq_true rfl) (c_X11_refuse _ w N (-6) M) rfl lC_0 (eC_0 w _ _) rfl rfl (Nat.le_of_ble_eq_true rfl) (fun r5 M6 => ?_)
        exact r_iret g e3 dX11_feed_38
  · skip
    refine r_aload_n (pc' := 6) g dX11_feed_5 rfl rfl ?_
    refine r_bipush (pc' := 8) (v := -4) g dX11_feed_6 rfl rfl ?_
    refine r_callVi (pc' := 11) (As := [.int (-4)]) (rest := []) g dX11_feed_8 rfl ml_X11_80 mw_X11_refuse mv_X11_refuse (Nat.le_of_ble_eq_true rfl) (c_X11_refuse _ w N (-4) M) rfl lC_0 (eC_0 w _ _) rfl rfl (Nat.le_of_ble_eq_true rfl) (fun r7 M8 => ?_)
    exact r_iret g e3 dX11_feed_11
def f_X9_begin (N : Nat) (M : Mm) : Rs :=
  lt' (wI M 30 2 0) fun M1 =>
  (lt' (wI M1 30 3 (-1)) fun M2 =>
  (some (0, M2)))

set_option maxHeartbeats 4000000 in
set_option maxRecDepth 100000 in
theorem c_X9_begin (l : Launch) (w : W0) (N : Nat) (M : Mm) : Ct l KC w 0 yX9_begin cX9_begin 1 none [rf w 30] M (f_X9_begin N M) := by
  refine ct_of [rf w 30] (by decide) (Nat.le_of_ble_eq_true rfl) rfl (fun Z e1 e2 e3 g => ?_)
  have g : Good KC w Z cX9_begin RX9 0 := g
  unfold f_X9_begin
  refine r_aload_n (pc' := 1) g dX9_begin_0 rfl rfl ?_
  refine r_iconst (pc' := 2) (v := 0) g dX9_begin_1 rfl rfl ?_
  refine r_put (pc' := 5) g dX9_begin_2 rfl fl_X9_19 rfl lC_30 (eC_30 w _ _) (Nat.le_of_ble_eq_true rfl) (sC_30_2 w _ _ _) ?_
  refine r_ltM (fun M1 => ?_)
  refine r_aload_n (pc' := 6) g dX9_begin_5 rfl rfl ?_
  refine r_iconst (pc' := 7) (v := -1) g dX9_begin_6 rfl rfl ?_
  refine r_put (pc' := 10) g dX9_begin_7 rfl fl_X9_22 rfl lC_30 (eC_30 w _ _) (Nat.le_of_ble_eq_true rfl) (sC_30_3 w _ _ _) ?_
  refine r_ltM (fun M2 => ?_)
  exact r_vret g e3 dX9_begin_10
def f_X9_peek (N : Nat) (M : Mm) : Rs :=
  if (M.1 30 3) < 0 then
    (if (M.1 30 2) < 0 then
      (some ((-1), M))
    else
      (if (M.1 30 2) < (M.1 30 1) then
        (if (M.1 30 2) < 40 then
          (if inb (M.1 30 2) 40 then
          (some (M.1 31 (ix (M.1 30 2)), M)) else none)
        else
          (some ((-1), M)))
      else
        (some ((-1), M))))
  else
    (some ((-1), M))

set_option maxHeartbeats 4000000 in
set_option maxRecDepth 100000 in
theorem c_X9_peek (l : Launch) (w : W0) (N : Nat) (M : Mm) : Ct l KC w 0 yX9_peek cX9_peek 1 (some .int) [rf w 30] M (f_X9_peek N M) := by
  refine ct_of [rf w 30] (by decide) (Nat.le_of_ble_eq_true rfl) rfl (fun Z e1 e2 e3 g => ?_)
  have g : Good KC w Z cX9_peek RX9 0 := g
  unfold f_X9_peek
  refine r_aload_n (pc' := 1) g dX9_peek_0 rfl rfl ?_
  refine r_get (pc' := 4) g dX9_peek_1 rfl fl_X9_22 lC_30 (eC_30 w _ _) rfl ?_
  refine r_ifge (pc' := 7) (tgt := 46) g dX9_peek_4 rfl rfl ?_ ?_
  · skip
    refine r_iconst (pc' := 47) (v := -1) g dX9_peek_46 rfl rfl ?_
    exact r_iret g e3 dX9_peek_47
  · skip
    refine r_aload_n (pc' := 8) g dX9_peek_7 rfl rfl ?_
    refine r_get (pc' := 11) g dX9_peek_8 rfl fl_X9_19 lC_30 (eC_30 w _ _) rfl ?_
    refine r_iflt (pc' := 14) (tgt := 46) g dX9_peek_11 rfl rfl ?_ ?_
    · skip
      refine r_iconst (pc' := 47) (v := -1) g dX9_peek_46 rfl rfl ?_
      exact r_iret g e3 dX9_peek_47
    · skip
      refine r_aload_n (pc' := 15) g dX9_peek_14 rfl rfl ?_
      refine r_get (pc' := 18) g dX9_peek_15 rfl fl_X9_19 lC_30 (eC_30 w _ _) rfl ?_
      refine r_aload_n (pc' := 19) g dX9_peek_18 rfl rfl ?_
      refine r_get (pc' := 22) g dX9_peek_19 rfl fl_X9_15 lC_30 (eC_30 w _ _) rfl ?_
      refine r_cge (pc' := 25) (tgt := 46) g dX9_peek_22 rfl rfl ?_ ?_
      · skip
        refine r_iconst (pc' := 47) (v := -1) g dX9_peek_46 rfl rfl ?_
        exact r_iret g e3 dX9_peek_47
      · skip
        refine r_aload_n (pc' := 26) g dX9_peek_25 rfl rfl ?_
        refine r_get (pc' := 29) g dX9_peek_26 rfl fl_X9_19 lC_30 (eC_30 w _ _) rfl ?_
        refine r_bipush (pc' := 31) (v := 40) g dX9_peek_29 rfl rfl ?_
        refine r_cge (pc' := 34) (tgt := 46) g dX9_peek_31 rfl rfl ?_ ?_
        · skip
          refine r_iconst (pc' := 47) (v := -1) g dX9_peek_46 rfl rfl ?_
          exact r_iret g e3 dX9_peek_47
        · skip
          refine r_aload_n (pc' := 35) g dX9_peek_34 rfl rfl ?_
          refine r_get (pc' := 38) g dX9_peek_35 rfl fl_X9_9 lC_30 (eC_30 w _ _) rfl ?_
          refine r_aload_n (pc' := 39) g dX9_peek_38 rfl rfl ?_
          refine r_get (pc' := 42) g dX9_peek_39 rfl fl_X9_19 lC_30 (eC_30 w _ _) rfl ?_
          refine r_iald (pc' := 43) g dX9_peek_42 rfl lC_31 (eC_31 w _ _) ?_
          refine r_goto (tgt := 47) g dX9_peek_43 rfl ?_
          exact r_iret g e3 dX9_peek_47
def f_X9_take (N : Nat) (a1 : Int32) (M : Mm) : Rs :=
  bd (f_X9_peek N  M) fun r1 M2 =>
  (if r1 = a1 then
    (lt' (wI M2 30 2 ((M2.1 30 2) + 1)) fun M3 =>
    (some (1, M3)))
  else
    (some (0, M2)))

set_option maxHeartbeats 4000000 in
set_option maxRecDepth 100000 in
theorem c_X9_take (l : Launch) (w : W0) (N : Nat) (a1 : Int32) (M : Mm) : Ct l KC w 1 yX9_take cX9_take 2 (some .boolean) [rf w 30, .int a1] M (f_X9_take N a1 M) := by
  refine ct_of [rf w 30, .int a1] (by decide) (Nat.le_of_ble_eq_true rfl) rfl (fun Z e1 e2 e3 g => ?_)
  have g : Good KC w Z cX9_take RX9 1 := g
  unfold f_X9_take
  refine r_aload_n (pc' := 1) g dX9_take_0 rfl rfl ?_
  refine r_callVi (pc' := 4) (As := []) (rest := []) g dX9_take_1 rfl ml_X9_27 mw_X9_peek mv_X9_peek (Nat.le_of_ble_eq_true rfl) (c_X9_peek _ w N  M) rfl lC_30 (eC_30 w _ _) rfl rfl (Nat.le_of_ble_eq_true rfl) (fun r1 M2 => ?_)
  refine r_iload_n (pc' := 5) g dX9_take_4 rfl rfl ?_
  refine r_ceq (pc' := 8) (tgt := 10) g dX9_take_5 rfl rfl ?_ ?_
  · skip
    refine r_aload_n (pc' := 11) g dX9_take_10 rfl rfl ?_
    refine r_dupa (pc' := 12) g dX9_take_11 rfl ?_
    refine r_get (pc' := 15) g dX9_take_12 rfl fl_X9_19 lC_30 (eC_30 w _ _) rfl ?_
    refine r_iconst (pc' := 16) (v := 1) g dX9_take_15 rfl rfl ?_
    refine r_iadd (pc' := 17) g dX9_take_16 rfl ?_
    refine r_put (pc' := 20) g dX9_take_17 rfl fl_X9_19 rfl lC_30 (eC_30 w _ _) (Nat.le_of_ble_eq_true rfl) (sC_30_2 w _ _ _) ?_
    refine r_ltM (fun M3 => ?_)
    refine r_iconst (pc' := 21) (v := 1) g dX9_take_20 rfl rfl ?_
    exact r_zretc g e3 rfl dX9_take_21
  · skip
    refine r_iconst (pc' := 9) (v := 0) g dX9_take_8 rfl rfl ?_
    exact r_zretc g e3 rfl dX9_take_9
def f_X9_fail (N : Nat) (a1 : Int32) (M : Mm) : Rs :=
  if (M.1 30 3) < 0 then
    (lt' (wI M 30 3 a1) fun M1 =>
    (some (0, M1)))
  else
    (some (0, M))

set_option maxHeartbeats 4000000 in
set_option maxRecDepth 100000 in
theorem c_X9_fail (l : Launch) (w : W0) (N : Nat) (a1 : Int32) (M : Mm) : Ct l KC w 0 yX9_fail cX9_fail 2 none [rf w 30, .int a1] M (f_X9_fail N a1 M) := by
  refine ct_of [rf w 30, .int a1] (by decide) (Nat.le_of_ble_eq_true rfl) rfl (fun Z e1 e2 e3 g => ?_)
  have g : Good KC w Z cX9_fail RX9 0 := g
  unfold f_X9_fail
  refine r_aload_n (pc' := 1) g dX9_fail_0 rfl rfl ?_
  refine r_get (pc' := 4) g dX9_fail_1 rfl fl_X9_22 lC_30 (eC_30 w _ _) rfl ?_
  refine r_ifge (pc' := 7) (tgt := 12) g dX9_fail_4 rfl rfl ?_ ?_
  · skip
    exact r_vret g e3 dX9_fail_12
  · skip
    refine r_aload_n (pc' := 8) g dX9_fail_7 rfl rfl ?_
    refine r_iload_n (pc' := 9) g dX9_fail_8 rfl rfl ?_
    refine r_put (pc' := 12) g dX9_fail_9 rfl fl_X9_22 rfl lC_30 (eC_30 w _ _) (Nat.le_of_ble_eq_true rfl) (sC_30_3 w _ _ _) ?_
    refine r_ltM (fun M1 => ?_)
    exact r_vret g e3 dX9_fail_12
def f_X9_digit (N : Nat) (M : Mm) : Rs :=
  bd (f_X9_peek N  M) fun r1 M2 =>
  (if r1 < 48 then
    (bd (f_X9_fail N (M2.1 30 2) M2) fun r3 M4 =>
    (some (0, M4)))
  else
    (if 57 < r1 then
      (bd (f_X9_fail N (M2.1 30 2) M2) fun r6 M7 =>
      (some (0, M7)))
    else
      (lt' (wI M2 30 2 ((M2.1 30 2) + 1)) fun M5 =>
      (some (r1 - 48, M5)))))

set_option maxHeartbeats 4000000 in
set_option maxRecDepth 100000 in
theorem c_X9_digit (l : Launch) (w : W0) (N : Nat) (M : Mm) : Ct l KC w 1 yX9_digit cX9_digit 2 (some .int) [rf w 30] M (f_X9_digit N M) := by
  refine ct_of [rf w 30, .null] (by decide) (Nat.le_of_ble_eq_true rfl) rfl (fun Z e1 e2 e3 g => ?_)
  have g : Good KC w Z cX9_digit RX9 1 := g
  unfold f_X9_digit
  have n1 : 1 < Z.2.2.1 := by rw [e2]; decide
  refine r_aload_n (pc' := 1) g dX9_digit_0 rfl rfl ?_
  refine r_callVi (pc' := 4) (As := []) (rest := []) g dX9_digit_1 rfl ml_X9_27 mw_X9_peek mv_X9_peek (Nat.le_of_ble_eq_true rfl) (c_X9_peek _ w N  M) rfl lC_30 (eC_30 w _ _) rfl rfl (Nat.le_of_ble_eq_true rfl) (fun r1 M2 => ?_)
  refine r_istore_n (pc' := 5) (L' := [rf w 30, .int r1]) g dX9_digit_4 rfl n1 rfl rfl ?_
  refine r_iload_n (pc' := 6) g dX9_digit_5 rfl rfl ?_
  refine r_bipush (pc' := 8) (v := 48) g dX9_digit_6 rfl rfl ?_
  refine r_clt (pc' := 11) (tgt := 17) g dX9_digit_8 rfl rfl ?_ ?_
  · skip
    refine r_aload_n (pc' := 18) g dX9_digit_17 rfl rfl ?_
    refine r_aload_n (pc' := 19) g dX9_digit_18 rfl rfl ?_
    refine r_get (pc' := 22) g dX9_digit_19 rfl fl_X9_19 lC_30 (eC_30 w _ _) rfl ?_
    refine r_callVv (pc' := 25) (As := [.int (M2.1 30 2)]) (rest := []) g dX9_digit_22 rfl ml_X9_31 mw_X9_fail mv_X9_fail (Nat.le_of_ble_eq_true rfl) (c_X9_fail _ w N (M2.1 30 2) M2) rfl lC_30 (eC_30 w _ _) rfl rfl (Nat.le_of_ble_eq_true rfl) (fun r3 M4 => ?_)
    refine r_iconst (pc' := 26) (v := 0) g dX9_digit_25 rfl rfl ?_
    exact r_iret g e3 dX9_digit_26
  · skip
    refine r_iload_n (pc' := 12) g dX9_digit_11 rfl rfl ?_
    refine r_bipush (pc' := 14) (v := 57) g dX9_digit_12 rfl rfl ?_
    refine r_cle (pc' := 17) (tgt := 27) g dX9_digit_14 rfl rfl ?_ ?_
    · skip
      refine r_aload_n (pc' := 28) g dX9_digit_27 rfl rfl ?_
      refine r_dupa (pc' := 29) g dX9_digit_28 rfl ?_
      refine r_get (pc' := 32) g dX9_digit_29 rfl fl_X9_19 lC_30 (eC_30 w _ _) rfl ?_
      refine r_iconst (pc' := 33) (v := 1) g dX9_digit_32 rfl rfl ?_
      refine r_iadd (pc' := 34) g dX9_digit_33 rfl ?_
      refine r_put (pc' := 37) g dX9_digit_34 rfl fl_X9_19 rfl lC_30 (eC_30 w _ _) (Nat.le_of_ble_eq_true rfl) (sC_30_2 w _ _ _) ?_
      refine r_ltM (fun M5 => ?_)
      refine r_iload_n (pc' := 38) g dX9_digit_37 rfl rfl ?_
      refine r_bipush (pc' := 40) (v := 48) g dX9_digit_38 rfl rfl ?_
      refine r_isub (pc' := 41) g dX9_digit_40 rfl ?_
      exact r_iret g e3 dX9_digit_41
    · skip
      refine r_aload_n (pc' := 18) g dX9_digit_17 rfl rfl ?_
      refine r_aload_n (pc' := 19) g dX9_digit_18 rfl rfl ?_
      refine r_get (pc' := 22) g dX9_digit_19 rfl fl_X9_19 lC_30 (eC_30 w _ _) rfl ?_
      refine r_callVv (pc' := 25) (As := [.int (M2.1 30 2)]) (rest := []) g dX9_digit_22 rfl ml_X9_31 mw_X9_fail mv_X9_fail (Nat.le_of_ble_eq_true rfl) (c_X9_fail _ w N (M2.1 30 2) M2) rfl lC_30 (eC_30 w _ _) rfl rfl (Nat.le_of_ble_eq_true rfl) (fun r6 M7 => ?_)
      refine r_iconst (pc' := 26) (v := 0) g dX9_digit_25 rfl rfl ?_
      exact r_iret g e3 dX9_digit_26
def B_X11_alike_5 (N : Nat) (p0 : Int32) (p1 : Int32) (p2 : Int32) (G : Int32 → Mm → Rs) (rec : (Int32 × Int32) → Mm → Rs) (s : Int32 × Int32) (M : Mm) : Rs :=
  if s.2 < 16 then
      (if ((s.2 ^^^ p1) &&& p2) = 0 then
        (lt' (s.1 ||| (1 <<< (s.2 &&& 31))) fun x1 =>
        (rec (x1, s.2 + 1) M))
      else
        (rec (s.1, s.2 + 1) M))
    else
      (G s.1 M)

def f_X11_alike (N : Nat) (a0 : Int32) (a1 : Int32) (a2 : Int32) (M : Mm) : Rs :=
  itr (B_X11_alike_5 N a0 a1 a2 fun z2 M3 =>
  (some (a0 &&& z2, M3))) N (0, 0) M

set_option maxHeartbeats 4000000 in
set_option maxRecDepth 100000 in
theorem s_X11_alike_5 {w : W0} {Z : Zx} (g : Good KC w Z cX11_alike RX11 0) (e2 : Z.2.2.1 = 5) (e3 : Z.2.2.2 = (some .int)) (N : Nat) (p0 : Int32) (p1 : Int32) (p2 : Int32) (G : Int32 → Mm → Rs) (kG : ∀ (x : Int32) (M : Mm), Sim KC w Z 34 [.int p0, .null, .null, .int x, .null] [] M (G x M)) : ∀ (n : Nat) (s : Int32 × Int32) (M : Mm), Sim KC w Z 5 [.int p0, .int p1, .int p2, .int s.1, .int s.2] [] M (itr (B_X11_alike_5 N p0 p1 p2 G) n s M) := by
  have n3 : 3 < Z.2.2.1 := by rw [e2]; decide
  have n4 : 4 < Z.2.2.1 := by rw [e2]; decide
  refine r_itr (Lf := fun (s : Int32 × Int32) => [.int p0, .int p1, .int p2, .int s.1, .int s.2]) (fun rec hr s M => ?_)
  unfold B_X11_alike_5
  refine r_iload (pc' := 7) g dX11_alike_5 rfl rfl ?_
  refine r_bipush (pc' := 9) (v := 16) g dX11_alike_7 rfl rfl ?_
  refine r_cge (pc' := 12) (tgt := 34) g dX11_alike_9 rfl rfl ?_ ?_
  · skip
    exact r_weak (Ls2 (Ls1 (Ls1 (Ls2 (Ls1 Ls0))))) (kG s.1 M)
  · skip
    refine r_iload (pc' := 14) g dX11_alike_12 rfl rfl ?_
    refine r_iload_n (pc' := 15) g dX11_alike_14 rfl rfl ?_
    refine r_ixor (pc' := 16) g dX11_alike_15 rfl ?_
    refine r_iload_n (pc' := 17) g dX11_alike_16 rfl rfl ?_
    refine r_iand (pc' := 18) g dX11_alike_17 rfl ?_
    refine r_ifne (pc' := 21) (tgt := 28) g dX11_alike_18 rfl rfl ?_ ?_
    · skip
      refine r_iinc (pc' := 31) (b := 1) (L' := [.int p0, .int p1, .int p2, .int s.1, .int (s.2 + 1)]) g dX11_alike_28 rfl rfl rfl n4 rfl rfl ?_
      refine r_goto (tgt := 5) g dX11_alike_31 rfl ?_
      exact r_weak (Ls2 (Ls2 (Ls2 (Ls2 (Ls2 Ls0))))) (hr (s.1, s.2 + 1) M)
    · skip
      refine r_iload_n (pc' := 22) g dX11_alike_21 rfl rfl ?_
      refine r_iconst (pc' := 23) (v := 1) g dX11_alike_22 rfl rfl ?_
      refine r_iload (pc' := 25) g dX11_alike_23 rfl rfl ?_
      refine r_ishl (pc' := 26) g dX11_alike_25 rfl ?_
      refine r_ior (pc' := 27) g dX11_alike_26 rfl ?_
      refine r_ltI (fun x1 => ?_)
      refine r_istore_n (pc' := 28) (L' := [.int p0, .int p1, .int p2, .int x1, .int s.2]) g dX11_alike_27 rfl n3 rfl rfl ?_
      refine r_iinc (pc' := 31) (b := 1) (L' := [.int p0, .int p1, .int p2, .int x1, .int (s.2 + 1)]) g dX11_alike_28 rfl rfl rfl n4 rfl rfl ?_
      refine r_goto (tgt := 5) g dX11_alike_31 rfl ?_
      exact r_weak (Ls2 (Ls2 (Ls2 (Ls2 (Ls2 Ls0))))) (hr (x1, s.2 + 1) M)
set_option maxHeartbeats 4000000 in
set_option maxRecDepth 100000 in
theorem c_X11_alike (l : Launch) (w : W0) (N : Nat) (a0 : Int32) (a1 : Int32) (a2 : Int32) (M : Mm) : Ct l KC w 0 yX11_alike cX11_alike 5 (some .int) [.int a0, .int a1, .int a2] M (f_X11_alike N a0 a1 a2 M) := by
  refine ct_of [.int a0, .int a1, .int a2, .null, .null] (by decide) (Nat.le_of_ble_eq_true rfl) rfl (fun Z e1 e2 e3 g => ?_)
  have g : Good KC w Z cX11_alike RX11 0 := g
  unfold f_X11_alike
  have n3 : 3 < Z.2.2.1 := by rw [e2]; decide
  have n4 : 4 < Z.2.2.1 := by rw [e2]; decide
  refine r_iconst (pc' := 1) (v := 0) g dX11_alike_0 rfl rfl ?_
  refine r_istore_n (pc' := 2) (L' := [.int a0, .int a1, .int a2, .int 0, .null]) g dX11_alike_1 rfl n3 rfl rfl ?_
  refine r_iconst (pc' := 3) (v := 0) g dX11_alike_2 rfl rfl ?_
  refine r_istore (pc' := 5) (L' := [.int a0, .int a1, .int a2, .int 0, .int 0]) g dX11_alike_3 rfl n4 rfl rfl ?_
  refine r_weak (Ls2 (Ls2 (Ls2 (Ls2 (Ls2 Ls0))))) (s_X11_alike_5 g e2 e3 N a0 a1 a2 _ (fun z2 M3 => ?_) N (0, 0) M)
  refine r_iload_n (pc' := 35) g dX11_alike_34 rfl rfl ?_
  refine r_iload_n (pc' := 36) g dX11_alike_35 rfl rfl ?_
  refine r_iand (pc' := 37) g dX11_alike_36 rfl ?_
  exact r_iret g e3 dX11_alike_37
def f_X5_worldsBad (N : Nat) (a0 : Int32) (M : Mm) : Rs :=
  if a0 < 4 then
    (bd (f_X11_alike N 65535 (1 <<< (a0 &&& 31)) (1 <<< (a0 &&& 31)) M) fun r1 M2 =>
    (some (r1, M2)))
  else
    (some (0, M))

set_option maxHeartbeats 4000000 in
set_option maxRecDepth 100000 in
theorem c_X5_worldsBad (l : Launch) (w : W0) (N : Nat) (a0 : Int32) (M : Mm) : Ct l KC w 1 yX5_worldsBad cX5_worldsBad 1 (some .int) [.int a0] M (f_X5_worldsBad N a0 M) := by
  refine ct_of [.int a0] (by decide) (Nat.le_of_ble_eq_true rfl) rfl (fun Z e1 e2 e3 g => ?_)
  have g : Good KC w Z cX5_worldsBad RX5 1 := g
  unfold f_X5_worldsBad
  refine r_iload_n (pc' := 1) g dX5_worldsBad_0 rfl rfl ?_
  refine r_iconst (pc' := 2) (v := 4) g dX5_worldsBad_1 rfl rfl ?_
  refine r_cge (pc' := 5) (tgt := 19) g dX5_worldsBad_2 rfl rfl ?_ ?_
  · skip
    refine r_iconst (pc' := 20) (v := 0) g dX5_worldsBad_19 rfl rfl ?_
    exact r_iret g e3 dX5_worldsBad_20
  · skip
    refine r_ldc (pc' := 7) g dX5_worldsBad_5 rfl kc_X5_53 ?_
    refine r_iconst (pc' := 8) (v := 1) g dX5_worldsBad_7 rfl rfl ?_
    refine r_iload_n (pc' := 9) g dX5_worldsBad_8 rfl rfl ?_
    refine r_ishl (pc' := 10) g dX5_worldsBad_9 rfl ?_
    refine r_iconst (pc' := 11) (v := 1) g dX5_worldsBad_10 rfl rfl ?_
    refine r_iload_n (pc' := 12) g dX5_worldsBad_11 rfl rfl ?_
    refine r_ishl (pc' := 13) g dX5_worldsBad_12 rfl ?_
    refine r_callNi (pc' := 16) (As := [.int 65535, .int (1 <<< (a0 &&& 31)), .int (1 <<< (a0 &&& 31))]) (rest := []) g dX5_worldsBad_13 rfl (sg_of g).2.2.2.2.2.2 mw_X11_alike ms_X11_alike (Nat.le_of_ble_eq_true rfl) (c_X11_alike _ w N 65535 (1 <<< (a0 &&& 31)) (1 <<< (a0 &&& 31)) M) rfl rfl (Nat.le_of_ble_eq_true rfl) (fun r1 M2 => ?_)
    refine r_goto (tgt := 20) g dX5_worldsBad_16 rfl ?_
    exact r_iret g e3 dX5_worldsBad_20
def f_J6_bitCount_0f7a4 (N : Nat) (a0 : Int32) (M : Mm) : Rs :=
  lt' (a0 - ((ushr a0 1) &&& 1431655765)) fun x1 =>
  (lt' ((x1 &&& 858993459) + ((ushr x1 2) &&& 858993459)) fun x2 =>
  (lt' ((x2 + (ushr x2 4)) &&& 252645135) fun x3 =>
  (lt' (x3 + (ushr x3 8)) fun x4 =>
  (lt' (x4 + (ushr x4 16)) fun x5 =>
  (some (x5 &&& 63, M))))))

set_option maxHeartbeats 4000000 in
set_option maxRecDepth 100000 in
theorem c_J6_bitCount_0f7a4 (l : Launch) (w : W0) (N : Nat) (a0 : Int32) (M : Mm) : Ct l KC w 0 yJ6_bitCount_0f7a4 cJ6_bitCount_0f7a4 1 (some .int) [.int a0] M (f_J6_bitCount_0f7a4 N a0 M) := by
  refine ct_of [.int a0] (by decide) (Nat.le_of_ble_eq_true rfl) rfl (fun Z e1 e2 e3 g => ?_)
  have g : Good KC w Z cJ6_bitCount_0f7a4 RJ6 0 := g
  unfold f_J6_bitCount_0f7a4
  have n0 : 0 < Z.2.2.1 := by rw [e2]; decide
  refine r_iload_n (pc' := 1) g dJ6_bitCount_0f7a4_0 rfl rfl ?_
  refine r_iload_n (pc' := 2) g dJ6_bitCount_0f7a4_1 rfl rfl ?_
  refine r_iconst (pc' := 3) (v := 1) g dJ6_bitCount_0f7a4_2 rfl rfl ?_
  refine r_iushr (pc' := 4) g dJ6_bitCount_0f7a4_3 rfl ?_
  refine r_ldcw (pc' := 7) g dJ6_bitCount_0f7a4_4 rfl kc_J6_265 ?_
  refine r_iand (pc' := 8) g dJ6_bitCount_0f7a4_7 rfl ?_
  refine r_isub (pc' := 9) g dJ6_bitCount_0f7a4_8 rfl ?_
  refine r_ltI (fun x1 => ?_)
  refine r_istore_n (pc' := 10) (L' := [.int x1]) g dJ6_bitCount_0f7a4_9 rfl n0 rfl rfl ?_
  refine r_iload_n (pc' := 11) g dJ6_bitCount_0f7a4_10 rfl rfl ?_
  refine r_ldcw (pc' := 14) g dJ6_bitCount_0f7a4_11 rfl kc_J6_266 ?_
  refine r_iand (pc' := 15) g dJ6_bitCount_0f7a4_14 rfl ?_
  refine r_iload_n (pc' := 16) g dJ6_bitCount_0f7a4_15 rfl rfl ?_
  refine r_iconst (pc' := 17) (v := 2) g dJ6_bitCount_0f7a4_16 rfl rfl ?_
  refine r_iushr (pc' := 18) g dJ6_bitCount_0f7a4_17 rfl ?_
  refine r_ldcw (pc' := 21) g dJ6_bitCount_0f7a4_18 rfl kc_J6_266 ?_
  refine r_iand (pc' := 22) g dJ6_bitCount_0f7a4_21 rfl ?_
  refine r_iadd (pc' := 23) g dJ6_bitCount_0f7a4_22 rfl ?_
  refine r_ltI (fun x2 => ?_)
  refine r_istore_n (pc' := 24) (L' := [.int x2]) g dJ6_bitCount_0f7a4_23 rfl n0 rfl rfl ?_
  refine r_iload_n (pc' := 25) g dJ6_bitCount_0f7a4_24 rfl rfl ?_
  refine r_iload_n (pc' := 26) g dJ6_bitCount_0f7a4_25 rfl rfl ?_
  refine r_iconst (pc' := 27) (v := 4) g dJ6_bitCount_0f7a4_26 rfl rfl ?_
  refine r_iushr (pc' := 28) g dJ6_bitCount_0f7a4_27 rfl ?_
  refine r_iadd (pc' := 29) g dJ6_bitCount_0f7a4_28 rfl ?_
  refine r_ldcw (pc' := 32) g dJ6_bitCount_0f7a4_29 rfl kc_J6_267 ?_
  refine r_iand (pc' := 33) g dJ6_bitCount_0f7a4_32 rfl ?_
  refine r_ltI (fun x3 => ?_)
  refine r_istore_n (pc' := 34) (L' := [.int x3]) g dJ6_bitCount_0f7a4_33 rfl n0 rfl rfl ?_
  refine r_iload_n (pc' := 35) g dJ6_bitCount_0f7a4_34 rfl rfl ?_
  refine r_iload_n (pc' := 36) g dJ6_bitCount_0f7a4_35 rfl rfl ?_
  refine r_bipush (pc' := 38) (v := 8) g dJ6_bitCount_0f7a4_36 rfl rfl ?_
  refine r_iushr (pc' := 39) g dJ6_bitCount_0f7a4_38 rfl ?_
  refine r_iadd (pc' := 40) g dJ6_bitCount_0f7a4_39 rfl ?_
  refine r_ltI (fun x4 => ?_)
  refine r_istore_n (pc' := 41) (L' := [.int x4]) g dJ6_bitCount_0f7a4_40 rfl n0 rfl rfl ?_
  refine r_iload_n (pc' := 42) g dJ6_bitCount_0f7a4_41 rfl rfl ?_
  refine r_iload_n (pc' := 43) g dJ6_bitCount_0f7a4_42 rfl rfl ?_
  refine r_bipush (pc' := 45) (v := 16) g dJ6_bitCount_0f7a4_43 rfl rfl ?_
  refine r_iushr (pc' := 46) g dJ6_bitCount_0f7a4_45 rfl ?_
  refine r_iadd (pc' := 47) g dJ6_bitCount_0f7a4_46 rfl ?_
  refine r_ltI (fun x5 => ?_)
  refine r_istore_n (pc' := 48) (L' := [.int x5]) g dJ6_bitCount_0f7a4_47 rfl n0 rfl rfl ?_
  refine r_iload_n (pc' := 49) g dJ6_bitCount_0f7a4_48 rfl rfl ?_
  refine r_bipush (pc' := 51) (v := 63) g dJ6_bitCount_0f7a4_49 rfl rfl ?_
  refine r_iand (pc' := 52) g dJ6_bitCount_0f7a4_51 rfl ?_
  exact r_iret g e3 dJ6_bitCount_0f7a4_52
def B_X5_readCount_49 (N : Nat) (p1 : Int32) (p2 : Int32) (G : Int32 → Mm → Rs) (rec : (Int32 × Int32) → Mm → Rs) (s : Int32 × Int32) (M : Mm) : Rs :=
  if s.2 < 16 then
      (bd (f_J6_bitCount_0f7a4 N s.2 M) fun r10 M11 =>
      (lt' (fun (s12 : Int32) (M13 : Mm) =>
        ((if s12 = 0 then
          (rec (s.1, s.2 + 1) M13)
        else
          (lt' (s.1 ||| (1 <<< (s.2 &&& 31))) fun x15 =>
          (rec (x15, s.2 + 1) M13))) : Rs)) fun jn14 =>
      (if p1 = 60 then
        (if r10 < p2 then
          (jn14 1 M11)
        else
          (jn14 0 M11))
      else
        (if p1 = 62 then
          (if p2 < r10 then
            (jn14 1 M11)
          else
            (jn14 0 M11))
        else
          (if r10 = p2 then
            (jn14 1 M11)
          else
            (jn14 0 M11))))))
    else
      (G s.1 M)

def f_X5_readCount (N : Nat) (M : Mm) : Rs :=
  bd (f_X9_peek N  M) fun r1 M2 =>
  (lt' (fun (s3 : Unit) (M4 : Mm) =>
    ((bd (f_X9_take N r1 M4) fun r6 M7 =>
    (bd (f_X9_digit N  M7) fun r8 M9 =>
    (itr (B_X5_readCount_49 N r1 r8 fun z16 M17 =>
    (some (z16, M17))) N (0, 0) M9))) : Rs)) fun jn5 =>
  (if r1 = 60 then
    (jn5 () M2)
  else
    (if r1 = 61 then
      (jn5 () M2)
    else
      (if r1 = 62 then
        (jn5 () M2)
      else
        (bd (f_X9_fail N (M2.1 30 2) M2) fun r18 M19 =>
        (some (0, M19)))))))

set_option maxHeartbeats 4000000 in
set_option maxRecDepth 100000 in
theorem s_X5_readCount_49 {w : W0} {Z : Zx} (g : Good KC w Z cX5_readCount RX5 2) (e2 : Z.2.2.1 = 7) (e3 : Z.2.2.2 = (some .int)) (N : Nat) (p1 : Int32) (p2 : Int32) (G : Int32 → Mm → Rs) (kG : ∀ (x : Int32) (M : Mm), Sim KC w Z 134 [.null, .null, .null, .int x, .null, .null, .null] [] M (G x M)) : ∀ (n : Nat) (s : Int32 × Int32) (M : Mm), Sim KC w Z 49 [.null, .int p1, .int p2, .int s.1, .int s.2, .null, .null] [] M (itr (B_X5_readCount_49 N p1 p2 G) n s M) := by
  have n3 : 3 < Z.2.2.1 := by rw [e2]; decide
  have n4 : 4 < Z.2.2.1 := by rw [e2]; decide
  have n5 : 5 < Z.2.2.1 := by rw [e2]; decide
  have n6 : 6 < Z.2.2.1 := by rw [e2]; decide
  refine r_itr (Lf := fun (s : Int32 × Int32) => [.null, .int p1, .int p2, .int s.1, .int s.2, .null, .null]) (fun rec hr s M => ?_)
  unfold B_X5_readCount_49
  refine r_iload (pc' := 51) g dX5_readCount_49 rfl rfl ?_
  refine r_bipush (pc' := 53) (v := 16) g dX5_readCount_51 rfl rfl ?_
  refine r_cge (pc' := 56) (tgt := 134) g dX5_readCount_53 rfl rfl ?_ ?_
  · skip
    exact r_weak (Ls1 (Ls1 (Ls1 (Ls2 (Ls1 (Ls1 (Ls1 Ls0))))))) (kG s.1 M)
  · skip
    refine r_iload (pc' := 58) g dX5_readCount_56 rfl rfl ?_
    refine r_callSi (pc' := 61) (As := [.int s.2]) (rest := []) g dX5_readCount_58 rfl ml_X5_57 mw_J6_bitCount_0f7a4 ms_J6_bitCount_0f7a4 (Nat.le_of_ble_eq_true rfl) (c_J6_bitCount_0f7a4 _ w N s.2 M) rfl rfl (Nat.le_of_ble_eq_true rfl) (fun r10 M11 => ?_)
    refine r_istore (pc' := 63) (L' := [.null, .int p1, .int p2, .int s.1, .int s.2, .int r10, .null]) g dX5_readCount_61 rfl n5 rfl rfl ?_
    refine r_iload_n (pc' := 64) g dX5_readCount_63 rfl rfl ?_
    refine r_bipush (pc' := 66) (v := 60) g dX5_readCount_64 rfl rfl ?_
    refine r_jn (pj := 114) (Lj := fun (s12 : Int32) => [.null, .int p1, .int p2, .int s.1, .int s.2, .null, .null]) (stj := fun (s12 : Int32) => [.int s12]) (fun s12 M13 => ?_) (fun jn14 hjn14 => ?_)
    · skip
      refine r_istore (pc' := 116) (L' := [.null, .int p1, .int p2, .int s.1, .int s.2, .null, .int s12]) g dX5_readCount_114 rfl n6 rfl rfl ?_
      refine r_iload (pc' := 118) g dX5_readCount_116 rfl rfl ?_
      refine r_ifeq (pc' := 121) (tgt := 128) g dX5_readCount_118 rfl rfl ?_ ?_
      · skip
        refine r_iinc (pc' := 131) (b := 1) (L' := [.null, .int p1, .int p2, .int s.1, .int (s.2 + 1), .null, .int s12]) g dX5_readCount_128 rfl rfl rfl n4 rfl rfl ?_
        refine r_goto (tgt := 49) g dX5_readCount_131 rfl ?_
        exact r_weak (Ls1 (Ls2 (Ls2 (Ls2 (Ls2 (Ls1 (Ls1 Ls0))))))) (hr (s.1, s.2 + 1) M13)
      · skip
        refine r_iload_n (pc' := 122) g dX5_readCount_121 rfl rfl ?_
        refine r_iconst (pc' := 123) (v := 1) g dX5_readCount_122 rfl rfl ?_
        refine r_iload (pc' := 125) g dX5_readCount_123 rfl rfl ?_
        refine r_ishl (pc' := 126) g dX5_readCount_125 rfl ?_
        refine r_ior (pc' := 127) g dX5_readCount_126 rfl ?_
        refine r_ltI (fun x15 => ?_)
        refine r_istore_n (pc' := 128) (L' := [.null, .int p1, .int p2, .int x15, .int s.2, .null, .int s12]) g dX5_readCount_127 rfl n3 rfl rfl ?_
        refine r_iinc (pc' := 131) (b := 1) (L' := [.null, .int p1, .int p2, .int x15, .int (s.2 + 1), .null, .int s12]) g dX5_readCount_128 rfl rfl rfl n4 rfl rfl ?_
        refine r_goto (tgt := 49) g dX5_readCount_131 rfl ?_
        exact r_weak (Ls1 (Ls2 (Ls2 (Ls2 (Ls2 (Ls1 (Ls1 Ls0))))))) (hr (x15, s.2 + 1) M13)
    refine r_cne (pc' := 69) (tgt := 83) g dX5_readCount_66 rfl rfl ?_ ?_
    · skip
      refine r_iload_n (pc' := 84) g dX5_readCount_83 rfl rfl ?_
      refine r_bipush (pc' := 86) (v := 62) g dX5_readCount_84 rfl rfl ?_
      refine r_cne (pc' := 89) (tgt := 103) g dX5_readCount_86 rfl rfl ?_ ?_
      · skip
        refine r_iload (pc' := 105) g dX5_readCount_103 rfl rfl ?_
        refine r_iload_n (pc' := 106) g dX5_readCount_105 rfl rfl ?_
        refine r_cne (pc' := 109) (tgt := 113) g dX5_readCount_106 rfl rfl ?_ ?_
        · skip
          refine r_iconst (pc' := 114) (v := 0) g dX5_readCount_113 rfl rfl ?_
          exact r_weak (Ls1 (Ls2 (Ls2 (Ls2 (Ls2 (Ls1 (Ls1 Ls0))))))) (hjn14 0 M11)
        · skip
          refine r_iconst (pc' := 110) (v := 1) g dX5_readCount_109 rfl rfl ?_
          refine r_goto (tgt := 114) g dX5_readCount_110 rfl ?_
          exact r_weak (Ls1 (Ls2 (Ls2 (Ls2 (Ls2 (Ls1 (Ls1 Ls0))))))) (hjn14 1 M11)
      · skip
        refine r_iload (pc' := 91) g dX5_readCount_89 rfl rfl ?_
        refine r_iload_n (pc' := 92) g dX5_readCount_91 rfl rfl ?_
        refine r_cle (pc' := 95) (tgt := 99) g dX5_readCount_92 rfl rfl ?_ ?_
        · skip
          refine r_iconst (pc' := 100) (v := 0) g dX5_readCount_99 rfl rfl ?_
          refine r_goto (tgt := 114) g dX5_readCount_100 rfl ?_
          exact r_weak (Ls1 (Ls2 (Ls2 (Ls2 (Ls2 (Ls1 (Ls1 Ls0))))))) (hjn14 0 M11)
        · skip
          refine r_iconst (pc' := 96) (v := 1) g dX5_readCount_95 rfl rfl ?_
          refine r_goto (tgt := 114) g dX5_readCount_96 rfl ?_
          exact r_weak (Ls1 (Ls2 (Ls2 (Ls2 (Ls2 (Ls1 (Ls1 Ls0))))))) (hjn14 1 M11)
    · skip
      refine r_iload (pc' := 71) g dX5_readCount_69 rfl rfl ?_
      refine r_iload_n (pc' := 72) g dX5_readCount_71 rfl rfl ?_
      refine r_cge (pc' := 75) (tgt := 79) g dX5_readCount_72 rfl rfl ?_ ?_
      · skip
        refine r_iconst (pc' := 80) (v := 0) g dX5_readCount_79 rfl rfl ?_
        refine r_goto (tgt := 114) g dX5_readCount_80 rfl ?_
        exact r_weak (Ls1 (Ls2 (Ls2 (Ls2 (Ls2 (Ls1 (Ls1 Ls0))))))) (hjn14 0 M11)
      · skip
        refine r_iconst (pc' := 76) (v := 1) g dX5_readCount_75 rfl rfl ?_
        refine r_goto (tgt := 114) g dX5_readCount_76 rfl ?_
        exact r_weak (Ls1 (Ls2 (Ls2 (Ls2 (Ls2 (Ls1 (Ls1 Ls0))))))) (hjn14 1 M11)
set_option maxHeartbeats 4000000 in
set_option maxRecDepth 100000 in
theorem c_X5_readCount (l : Launch) (w : W0) (N : Nat) (M : Mm) : Ct l KC w 2 yX5_readCount cX5_readCount 7 (some .int) [rf w 30] M (f_X5_readCount N M) := by
  refine ct_of [rf w 30, .null, .null, .null, .null, .null, .null] (by decide) (Nat.le_of_ble_eq_true rfl) rfl (fun Z e1 e2 e3 g => ?_)
  have g : Good KC w Z cX5_readCount RX5 2 := g
  unfold f_X5_readCount
  have n1 : 1 < Z.2.2.1 := by rw [e2]; decide
  have n2 : 2 < Z.2.2.1 := by rw [e2]; decide
  have n3 : 3 < Z.2.2.1 := by rw [e2]; decide
  have n4 : 4 < Z.2.2.1 := by rw [e2]; decide
  refine r_aload_n (pc' := 1) g dX5_readCount_0 rfl rfl ?_
  refine r_callVi (pc' := 4) (As := []) (rest := []) g dX5_readCount_1 rfl ml_X5_54 mw_X9_peek mv_X9_peek (Nat.le_of_ble_eq_true rfl) (c_X9_peek _ w N  M) rfl lC_30 (eC_30 w _ _) rfl rfl (Nat.le_of_ble_eq_true rfl) (fun r1 M2 => ?_)
  refine r_istore_n (pc' := 5) (L' := [rf w 30, .int r1, .null, .null, .null, .null, .null]) g dX5_readCount_4 rfl n1 rfl rfl ?_
  refine r_iload_n (pc' := 6) g dX5_readCount_5 rfl rfl ?_
  refine r_bipush (pc' := 8) (v := 60) g dX5_readCount_6 rfl rfl ?_
  refine r_jn (pj := 33) (Lj := fun (s3 : Unit) => [rf w 30, .int r1, .null, .null, .null, .null, .null]) (stj := fun (s3 : Unit) => []) (fun s3 M4 => ?_) (fun jn5 hjn5 => ?_)
  · skip
    refine r_aload_n (pc' := 34) g dX5_readCount_33 rfl rfl ?_
    refine r_iload_n (pc' := 35) g dX5_readCount_34 rfl rfl ?_
    refine r_callVi (pc' := 38) (As := [.int r1]) (rest := []) g dX5_readCount_35 rfl ml_X5_26 mw_X9_take mv_X9_take (Nat.le_of_ble_eq_true rfl) (c_X9_take _ w N r1 M4) rfl lC_30 (eC_30 w _ _) rfl rfl (Nat.le_of_ble_eq_true rfl) (fun r6 M7 => ?_)
    refine r_pop (pc' := 39) g dX5_readCount_38 rfl ?_
    refine r_aload_n (pc' := 40) g dX5_readCount_39 rfl rfl ?_
    refine r_callVi (pc' := 43) (As := []) (rest := []) g dX5_readCount_40 rfl ml_X5_37 mw_X9_digit mv_X9_digit (Nat.le_of_ble_eq_true rfl) (c_X9_digit _ w N  M7) rfl lC_30 (eC_30 w _ _) rfl rfl (Nat.le_of_ble_eq_true rfl) (fun r8 M9 => ?_)
    refine r_istore_n (pc' := 44) (L' := [rf w 30, .int r1, .int r8, .null, .null, .null, .null]) g dX5_readCount_43 rfl n2 rfl rfl ?_
    refine r_iconst (pc' := 45) (v := 0) g dX5_readCount_44 rfl rfl ?_
    refine r_istore_n (pc' := 46) (L' := [rf w 30, .int r1, .int r8, .int 0, .null, .null, .null]) g dX5_readCount_45 rfl n3 rfl rfl ?_
    refine r_iconst (pc' := 47) (v := 0) g dX5_readCount_46 rfl rfl ?_
    refine r_istore (pc' := 49) (L' := [rf w 30, .int r1, .int r8, .int 0, .int 0, .null, .null]) g dX5_readCount_47 rfl n4 rfl rfl ?_
    refine r_weak (Ls1 (Ls2 (Ls2 (Ls2 (Ls2 (Ls1 (Ls1 Ls0))))))) (s_X5_readCount_49 g e2 e3 N r1 r8 _ (fun z16 M17 => ?_) N (0, 0) M9)
    refine r_iload_n (pc' := 135) g dX5_readCount_134 rfl rfl ?_
    exact r_iret g e3 dX5_readCount_135
  refine r_ceq (pc' := 11) (tgt := 33) g dX5_readCount_8 rfl rfl ?_ ?_
  · skip
    exact r_weak (Ls2 (Ls2 (Ls1 (Ls1 (Ls1 (Ls1 (Ls1 Ls0))))))) (hjn5 () M2)
  · skip
    refine r_iload_n (pc' := 12) g dX5_readCount_11 rfl rfl ?_
    refine r_bipush (pc' := 14) (v := 61) g dX5_readCount_12 rfl rfl ?_
    refine r_ceq (pc' := 17) (tgt := 33) g dX5_readCount_14 rfl rfl ?_ ?_
    · skip
      exact r_weak (Ls2 (Ls2 (Ls1 (Ls1 (Ls1 (Ls1 (Ls1 Ls0))))))) (hjn5 () M2)
    · skip
      refine r_iload_n (pc' := 18) g dX5_readCount_17 rfl rfl ?_
      refine r_bipush (pc' := 20) (v := 62) g dX5_readCount_18 rfl rfl ?_
      refine r_ceq (pc' := 23) (tgt := 33) g dX5_readCount_20 rfl rfl ?_ ?_
      · skip
        exact r_weak (Ls2 (Ls2 (Ls1 (Ls1 (Ls1 (Ls1 (Ls1 Ls0))))))) (hjn5 () M2)
      · skip
        refine r_aload_n (pc' := 24) g dX5_readCount_23 rfl rfl ?_
        refine r_aload_n (pc' := 25) g dX5_readCount_24 rfl rfl ?_
        refine r_get (pc' := 28) g dX5_readCount_25 rfl fl_X5_33 lC_30 (eC_30 w _ _) rfl ?_
        refine r_callVv (pc' := 31) (As := [.int (M2.1 30 2)]) (rest := []) g dX5_readCount_28 rfl ml_X5_49 mw_X9_fail mv_X9_fail (Nat.le_of_ble_eq_true rfl) (c_X9_fail _ w N (M2.1 30 2) M2) rfl lC_30 (eC_30 w _ _) rfl rfl (Nat.le_of_ble_eq_true rfl) (fun r18 M19 => ?_)
        refine r_iconst (pc' := 32) (v := 0) g dX5_readCount_31 rfl rfl ?_
        exact r_iret g e3 dX5_readCount_32
def B_X5_readTest_8 (N : Nat) (c0 : Int32 → Mm → Rs) (c1 : Int32 → Mm → Rs) (c2 : Int32 → Mm → Rs) (p1 : Int32) (G : Int32 → Mm → Rs) (rec : (Int32 × Int32) → Mm → Rs) (s : Int32 × Int32) (M : Mm) : Rs :=
  if s.2 < 40 then
      (bd (f_X9_take N 124 M) fun r3 M4 =>
      (if r3 = 0 then
        (G s.1 M4)
      else
        (bd (c1 p1 M4) fun r5 M6 =>
        (lt' (s.1 ||| r5) fun x7 =>
        (rec (x7, s.2 + 1) M6)))))
    else
      (G s.1 M)

def b_X5_readTest (N : Nat) (c0 : Int32 → Mm → Rs) (c1 : Int32 → Mm → Rs) (c2 : Int32 → Mm → Rs) (a1 : Int32) (M : Mm) : Rs :=
  bd (c1 a1 M) fun r1 M2 =>
  (itr (B_X5_readTest_8 N c0 c1 c2 a1 fun z8 M9 =>
  (some (z8, M9))) N (r1, 0) M2)

set_option maxHeartbeats 4000000 in
set_option maxRecDepth 100000 in
theorem s_X5_readTest_8 {w : W0} {Z : Zx} {n : Nat} (g : Good KC w Z cX5_readTest RX5 (n + 1 + 2)) (e2 : Z.2.2.1 = 4) (e3 : Z.2.2.2 = (some .int)) (N : Nat) (c0 : Int32 → Mm → Rs) (c1 : Int32 → Mm → Rs) (c2 : Int32 → Mm → Rs) (h0 : ∀ (l : Launch) (a : Int32) (M : Mm), Ct l KC w (n + 2) yX5_readTest cX5_readTest 4 (some .int) [rf w 30, .int a] M (c0 a M)) (h1 : ∀ (l : Launch) (a : Int32) (M : Mm), Ct l KC w (n + 2) yX5_readTerm cX5_readTerm 4 (some .int) [rf w 30, .int a] M (c1 a M)) (h2 : ∀ (l : Launch) (a : Int32) (M : Mm), Ct l KC w (n + 2) yX5_readPart cX5_readPart 5 (some .int) [rf w 30, .int a] M (c2 a M)) (p1 : Int32) (G : Int32 → Mm → Rs) (kG : ∀ (x : Int32) (M : Mm), Sim KC w Z 37 [.null, .null, .int x, .null] [] M (G x M)) : ∀ (n : Nat) (s : Int32 × Int32) (M : Mm), Sim KC w Z 8 [rf w 30, .int p1, .int s.1, .int s.2] [] M (itr (B_X5_readTest_8 N c0 c1 c2 p1 G) n s M) := by
  have n2 : 2 < Z.2.2.1 := by rw [e2]; decide
  have n3 : 3 < Z.2.2.1 := by rw [e2]; decide
  refine r_itr (Lf := fun (s : Int32 × Int32) => [rf w 30, .int p1, .int s.1, .int s.2]) (fun rec hr s M => ?_)
  unfold B_X5_readTest_8
  refine r_iload_n (pc' := 9) g dX5_readTest_8 rfl rfl ?_
  refine r_bipush (pc' := 11) (v := 40) g dX5_readTest_9 rfl rfl ?_
  refine r_cge (pc' := 14) (tgt := 37) g dX5_readTest_11 rfl rfl ?_ ?_
  · skip
    exact r_weak (Ls1 (Ls1 (Ls2 (Ls1 Ls0)))) (kG s.1 M)
  · skip
    refine r_aload_n (pc' := 15) g dX5_readTest_14 rfl rfl ?_
    refine r_bipush (pc' := 17) (v := 124) g dX5_readTest_15 rfl rfl ?_
    refine r_callVi (pc' := 20) (As := [.int 124]) (rest := []) g dX5_readTest_17 rfl ml_X5_26 mw_X9_take mv_X9_take (by omega) (c_X9_take _ w N 124 M) rfl lC_30 (eC_30 w _ _) rfl rfl (Nat.le_of_ble_eq_true rfl) (fun r3 M4 => ?_)
    refine r_ifeq (pc' := 23) (tgt := 37) g dX5_readTest_20 rfl rfl ?_ ?_
    · skip
      exact r_weak (Ls1 (Ls1 (Ls2 (Ls1 Ls0)))) (kG s.1 M4)
    · skip
      refine r_iload_n (pc' := 24) g dX5_readTest_23 rfl rfl ?_
      refine r_aload_n (pc' := 25) g dX5_readTest_24 rfl rfl ?_
      refine r_iload_n (pc' := 26) g dX5_readTest_25 rfl rfl ?_
      refine r_callSi (pc' := 29) (As := [rf w 30, .int p1]) (rest := [.int s.1]) g dX5_readTest_26 rfl ml_X5_23 mw_X5_readTerm ms_X5_readTerm (by omega) (h1 _ p1 M4) rfl rfl (Nat.le_of_ble_eq_true rfl) (fun r5 M6 => ?_)
      refine r_ior (pc' := 30) g dX5_readTest_29 rfl ?_
      refine r_ltI (fun x7 => ?_)
      refine r_istore_n (pc' := 31) (L' := [rf w 30, .int p1, .int x7, .int s.2]) g dX5_readTest_30 rfl n2 rfl rfl ?_
      refine r_iinc (pc' := 34) (b := 1) (L' := [rf w 30, .int p1, .int x7, .int (s.2 + 1)]) g dX5_readTest_31 rfl rfl rfl n3 rfl rfl ?_
      refine r_goto (tgt := 8) g dX5_readTest_34 rfl ?_
      exact r_weak (Ls2 (Ls2 (Ls2 (Ls2 Ls0)))) (hr (x7, s.2 + 1) M6)
set_option maxHeartbeats 4000000 in
set_option maxRecDepth 100000 in
theorem cb_X5_readTest (w : W0) (N n : Nat) (c0 : Int32 → Mm → Rs) (c1 : Int32 → Mm → Rs) (c2 : Int32 → Mm → Rs) (h0 : ∀ (l : Launch) (a : Int32) (M : Mm), Ct l KC w (n + 2) yX5_readTest cX5_readTest 4 (some .int) [rf w 30, .int a] M (c0 a M)) (h1 : ∀ (l : Launch) (a : Int32) (M : Mm), Ct l KC w (n + 2) yX5_readTerm cX5_readTerm 4 (some .int) [rf w 30, .int a] M (c1 a M)) (h2 : ∀ (l : Launch) (a : Int32) (M : Mm), Ct l KC w (n + 2) yX5_readPart cX5_readPart 5 (some .int) [rf w 30, .int a] M (c2 a M)) (l : Launch) (a : Int32) (M : Mm) : Ct l KC w (n + 1 + 2) yX5_readTest cX5_readTest 4 (some .int) [rf w 30, .int a] M (b_X5_readTest N c0 c1 c2 a M) := by
  refine ct_of [rf w 30, .int a, .null, .null] (by decide) (Nat.le_of_ble_eq_true rfl) rfl (fun Z e1 e2 e3 g => ?_)
  have g : Good KC w Z cX5_readTest RX5 (n + 1 + 2) := g
  unfold b_X5_readTest
  have n2 : 2 < Z.2.2.1 := by rw [e2]; decide
  have n3 : 3 < Z.2.2.1 := by rw [e2]; decide
  refine r_aload_n (pc' := 1) g dX5_readTest_0 rfl rfl ?_
  refine r_iload_n (pc' := 2) g dX5_readTest_1 rfl rfl ?_
  refine r_callSi (pc' := 5) (As := [rf w 30, .int a]) (rest := []) g dX5_readTest_2 rfl ml_X5_23 mw_X5_readTerm ms_X5_readTerm (by omega) (h1 _ a M) rfl rfl (Nat.le_of_ble_eq_true rfl) (fun r1 M2 => ?_)
  refine r_istore_n (pc' := 6) (L' := [rf w 30, .int a, .int r1, .null]) g dX5_readTest_5 rfl n2 rfl rfl ?_
  refine r_iconst (pc' := 7) (v := 0) g dX5_readTest_6 rfl rfl ?_
  refine r_istore_n (pc' := 8) (L' := [rf w 30, .int a, .int r1, .int 0]) g dX5_readTest_7 rfl n3 rfl rfl ?_
  refine r_weak (Ls2 (Ls2 (Ls2 (Ls2 Ls0)))) (s_X5_readTest_8 g e2 e3 N c0 c1 c2 h0 h1 h2 a _ (fun z8 M9 => ?_) N (r1, 0) M2)
  refine r_iload_n (pc' := 38) g dX5_readTest_37 rfl rfl ?_
  exact r_iret g e3 dX5_readTest_38
def B_X5_readTerm_8 (N : Nat) (c0 : Int32 → Mm → Rs) (c1 : Int32 → Mm → Rs) (c2 : Int32 → Mm → Rs) (p1 : Int32) (G : Int32 → Mm → Rs) (rec : (Int32 × Int32) → Mm → Rs) (s : Int32 × Int32) (M : Mm) : Rs :=
  if s.2 < 40 then
      (bd (f_X9_take N 38 M) fun r3 M4 =>
      (if r3 = 0 then
        (G s.1 M4)
      else
        (bd (c2 p1 M4) fun r5 M6 =>
        (lt' (s.1 &&& r5) fun x7 =>
        (rec (x7, s.2 + 1) M6)))))
    else
      (G s.1 M)

def b_X5_readTerm (N : Nat) (c0 : Int32 → Mm → Rs) (c1 : Int32 → Mm → Rs) (c2 : Int32 → Mm → Rs) (a1 : Int32) (M : Mm) : Rs :=
  bd (c2 a1 M) fun r1 M2 =>
  (itr (B_X5_readTerm_8 N c0 c1 c2 a1 fun z8 M9 =>
  (some (z8, M9))) N (r1, 0) M2)

set_option maxHeartbeats 4000000 in
set_option maxRecDepth 100000 in
theorem s_X5_readTerm_8 {w : W0} {Z : Zx} {n : Nat} (g : Good KC w Z cX5_readTerm RX5 (n + 1 + 2)) (e2 : Z.2.2.1 = 4) (e3 : Z.2.2.2 = (some .int)) (N : Nat) (c0 : Int32 → Mm → Rs) (c1 : Int32 → Mm → Rs) (c2 : Int32 → Mm → Rs) (h0 : ∀ (l : Launch) (a : Int32) (M : Mm), Ct l KC w (n + 2) yX5_readTest cX5_readTest 4 (some .int) [rf w 30, .int a] M (c0 a M)) (h1 : ∀ (l : Launch) (a : Int32) (M : Mm), Ct l KC w (n + 2) yX5_readTerm cX5_readTerm 4 (some .int) [rf w 30, .int a] M (c1 a M)) (h2 : ∀ (l : Launch) (a : Int32) (M : Mm), Ct l KC w (n + 2) yX5_readPart cX5_readPart 5 (some .int) [rf w 30, .int a] M (c2 a M)) (p1 : Int32) (G : Int32 → Mm → Rs) (kG : ∀ (x : Int32) (M : Mm), Sim KC w Z 37 [.null, .null, .int x, .null] [] M (G x M)) : ∀ (n : Nat) (s : Int32 × Int32) (M : Mm), Sim KC w Z 8 [rf w 30, .int p1, .int s.1, .int s.2] [] M (itr (B_X5_readTerm_8 N c0 c1 c2 p1 G) n s M) := by
  have n2 : 2 < Z.2.2.1 := by rw [e2]; decide
  have n3 : 3 < Z.2.2.1 := by rw [e2]; decide
  refine r_itr (Lf := fun (s : Int32 × Int32) => [rf w 30, .int p1, .int s.1, .int s.2]) (fun rec hr s M => ?_)
  unfold B_X5_readTerm_8
  refine r_iload_n (pc' := 9) g dX5_readTerm_8 rfl rfl ?_
  refine r_bipush (pc' := 11) (v := 40) g dX5_readTerm_9 rfl rfl ?_
  refine r_cge (pc' := 14) (tgt := 37) g dX5_readTerm_11 rfl rfl ?_ ?_
  · skip
    exact r_weak (Ls1 (Ls1 (Ls2 (Ls1 Ls0)))) (kG s.1 M)
  · skip
    refine r_aload_n (pc' := 15) g dX5_readTerm_14 rfl rfl ?_
    refine r_bipush (pc' := 17) (v := 38) g dX5_readTerm_15 rfl rfl ?_
    refine r_callVi (pc' := 20) (As := [.int 38]) (rest := []) g dX5_readTerm_17 rfl ml_X5_26 mw_X9_take mv_X9_take (by omega) (c_X9_take _ w N 38 M) rfl lC_30 (eC_30 w _ _) rfl rfl (Nat.le_of_ble_eq_true rfl) (fun r3 M4 => ?_)
    refine r_ifeq (pc' := 23) (tgt := 37) g dX5_readTerm_20 rfl rfl ?_ ?_
    · skip
      exact r_weak (Ls1 (Ls1 (Ls2 (Ls1 Ls0)))) (kG s.1 M4)
    · skip
      refine r_iload_n (pc' := 24) g dX5_readTerm_23 rfl rfl ?_
      refine r_aload_n (pc' := 25) g dX5_readTerm_24 rfl rfl ?_
      refine r_iload_n (pc' := 26) g dX5_readTerm_25 rfl rfl ?_
      refine r_callSi (pc' := 29) (As := [rf w 30, .int p1]) (rest := [.int s.1]) g dX5_readTerm_26 rfl ml_X5_30 mw_X5_readPart ms_X5_readPart (by omega) (h2 _ p1 M4) rfl rfl (Nat.le_of_ble_eq_true rfl) (fun r5 M6 => ?_)
      refine r_iand (pc' := 30) g dX5_readTerm_29 rfl ?_
      refine r_ltI (fun x7 => ?_)
      refine r_istore_n (pc' := 31) (L' := [rf w 30, .int p1, .int x7, .int s.2]) g dX5_readTerm_30 rfl n2 rfl rfl ?_
      refine r_iinc (pc' := 34) (b := 1) (L' := [rf w 30, .int p1, .int x7, .int (s.2 + 1)]) g dX5_readTerm_31 rfl rfl rfl n3 rfl rfl ?_
      refine r_goto (tgt := 8) g dX5_readTerm_34 rfl ?_
      exact r_weak (Ls2 (Ls2 (Ls2 (Ls2 Ls0)))) (hr (x7, s.2 + 1) M6)
set_option maxHeartbeats 4000000 in
set_option maxRecDepth 100000 in
theorem cb_X5_readTerm (w : W0) (N n : Nat) (c0 : Int32 → Mm → Rs) (c1 : Int32 → Mm → Rs) (c2 : Int32 → Mm → Rs) (h0 : ∀ (l : Launch) (a : Int32) (M : Mm), Ct l KC w (n + 2) yX5_readTest cX5_readTest 4 (some .int) [rf w 30, .int a] M (c0 a M)) (h1 : ∀ (l : Launch) (a : Int32) (M : Mm), Ct l KC w (n + 2) yX5_readTerm cX5_readTerm 4 (some .int) [rf w 30, .int a] M (c1 a M)) (h2 : ∀ (l : Launch) (a : Int32) (M : Mm), Ct l KC w (n + 2) yX5_readPart cX5_readPart 5 (some .int) [rf w 30, .int a] M (c2 a M)) (l : Launch) (a : Int32) (M : Mm) : Ct l KC w (n + 1 + 2) yX5_readTerm cX5_readTerm 4 (some .int) [rf w 30, .int a] M (b_X5_readTerm N c0 c1 c2 a M) := by
  refine ct_of [rf w 30, .int a, .null, .null] (by decide) (Nat.le_of_ble_eq_true rfl) rfl (fun Z e1 e2 e3 g => ?_)
  have g : Good KC w Z cX5_readTerm RX5 (n + 1 + 2) := g
  unfold b_X5_readTerm
  have n2 : 2 < Z.2.2.1 := by rw [e2]; decide
  have n3 : 3 < Z.2.2.1 := by rw [e2]; decide
  refine r_aload_n (pc' := 1) g dX5_readTerm_0 rfl rfl ?_
  refine r_iload_n (pc' := 2) g dX5_readTerm_1 rfl rfl ?_
  refine r_callSi (pc' := 5) (As := [rf w 30, .int a]) (rest := []) g dX5_readTerm_2 rfl ml_X5_30 mw_X5_readPart ms_X5_readPart (by omega) (h2 _ a M) rfl rfl (Nat.le_of_ble_eq_true rfl) (fun r1 M2 => ?_)
  refine r_istore_n (pc' := 6) (L' := [rf w 30, .int a, .int r1, .null]) g dX5_readTerm_5 rfl n2 rfl rfl ?_
  refine r_iconst (pc' := 7) (v := 0) g dX5_readTerm_6 rfl rfl ?_
  refine r_istore_n (pc' := 8) (L' := [rf w 30, .int a, .int r1, .int 0]) g dX5_readTerm_7 rfl n3 rfl rfl ?_
  refine r_weak (Ls2 (Ls2 (Ls2 (Ls2 Ls0)))) (s_X5_readTerm_8 g e2 e3 N c0 c1 c2 h0 h1 h2 a _ (fun z8 M9 => ?_) N (r1, 0) M2)
  refine r_iload_n (pc' := 38) g dX5_readTerm_37 rfl rfl ?_
  exact r_iret g e3 dX5_readTerm_38
def b_X5_readPart (N : Nat) (c0 : Int32 → Mm → Rs) (c1 : Int32 → Mm → Rs) (c2 : Int32 → Mm → Rs) (a1 : Int32) (M : Mm) : Rs :=
  bd (f_X9_take N 98 M) fun r1 M2 =>
  (if r1 = 0 then
    (bd (f_X9_take N 110 M2) fun r3 M4 =>
    (if r3 = 0 then
      (bd (f_X9_take N 33 M4) fun r5 M6 =>
      (lt' (fun (s7 : Unit) (M8 : Mm) =>
        ((if a1 < 4 then
          (if r5 = 0 then
            (bd (c0 (a1 + 1) M8) fun r10 M11 =>
            (bd (f_X9_take N 41 M11) fun r12 M13 =>
            (if r12 = 0 then
              (bd (f_X9_fail N (M13.1 30 2) M13) fun r14 M15 =>
              (some (r10, M15)))
            else
              (some (r10, M13)))))
          else
            (bd (c2 (a1 + 1) M8) fun r16 M17 =>
            (some (65535 &&& (r16 ^^^ (-1)), M17))))
        else
          (bd (f_X9_fail N (M.1 30 2) M8) fun r18 M19 =>
          (some (0, M19)))) : Rs)) fun jn9 =>
      (if r5 = 0 then
        (bd (f_X9_take N 40 M6) fun r20 M21 =>
        (if r20 = 0 then
          (bd (f_X9_fail N (M.1 30 2) M21) fun r22 M23 =>
          (some (0, M23)))
        else
          (jn9 () M21)))
      else
        (jn9 () M6))))
    else
      (bd (f_X5_readCount N  M4) fun r24 M25 =>
      (some (r24, M25)))))
  else
    (bd (f_X9_digit N  M2) fun r26 M27 =>
    (bd (f_X5_worldsBad N r26 M27) fun r28 M29 =>
    (some (r28, M29)))))

set_option maxHeartbeats 4000000 in
set_option maxRecDepth 100000 in
theorem cb_X5_readPart (w : W0) (N n : Nat) (c0 : Int32 → Mm → Rs) (c1 : Int32 → Mm → Rs) (c2 : Int32 → Mm → Rs) (h0 : ∀ (l : Launch) (a : Int32) (M : Mm), Ct l KC w (n + 2) yX5_readTest cX5_readTest 4 (some .int) [rf w 30, .int a] M (c0 a M)) (h1 : ∀ (l : Launch) (a : Int32) (M : Mm), Ct l KC w (n + 2) yX5_readTerm cX5_readTerm 4 (some .int) [rf w 30, .int a] M (c1 a M)) (h2 : ∀ (l : Launch) (a : Int32) (M : Mm), Ct l KC w (n + 2) yX5_readPart cX5_readPart 5 (some .int) [rf w 30, .int a] M (c2 a M)) (l : Launch) (a : Int32) (M : Mm) : Ct l KC w (n + 1 + 2) yX5_readPart cX5_readPart 5 (some .int) [rf w 30, .int a] M (b_X5_readPart N c0 c1 c2 a M) := by
  refine ct_of [rf w 30, .int a, .null, .null, .null] (by decide) (Nat.le_of_ble_eq_true rfl) rfl (fun Z e1 e2 e3 g => ?_)
  have g : Good KC w Z cX5_readPart RX5 (n + 1 + 2) := g
  unfold b_X5_readPart
  have n2 : 2 < Z.2.2.1 := by rw [e2]; decide
  have n3 : 3 < Z.2.2.1 := by rw [e2]; decide
  have n4 : 4 < Z.2.2.1 := by rw [e2]; decide
  refine r_aload_n (pc' := 1) g dX5_readPart_0 rfl rfl ?_
  refine r_get (pc' := 4) g dX5_readPart_1 rfl fl_X5_33 lC_30 (eC_30 w _ _) rfl ?_
  refine r_istore_n (pc' := 5) (L' := [rf w 30, .int a, .int (M.1 30 2), .null, .null]) g dX5_readPart_4 rfl n2 rfl rfl ?_
  refine r_aload_n (pc' := 6) g dX5_readPart_5 rfl rfl ?_
  refine r_bipush (pc' := 8) (v := 98) g dX5_readPart_6 rfl rfl ?_
  refine r_callVi (pc' := 11) (As := [.int 98]) (rest := []) g dX5_readPart_8 rfl ml_X5_26 mw_X9_take mv_X9_take (by omega) (c_X9_take _ w N 98 M) rfl lC_30 (eC_30 w _ _) rfl rfl (Nat.le_of_ble_eq_true rfl) (fun r1 M2 => ?_)
  refine r_ifeq (pc' := 14) (tgt := 22) g dX5_readPart_11 rfl rfl ?_ ?_
  · skip
    refine r_aload_n (pc' := 23) g dX5_readPart_22 rfl rfl ?_
    refine r_bipush (pc' := 25) (v := 110) g dX5_readPart_23 rfl rfl ?_
    refine r_callVi (pc' := 28) (As := [.int 110]) (rest := []) g dX5_readPart_25 rfl ml_X5_26 mw_X9_take mv_X9_take (by omega) (c_X9_take _ w N 110 M2) rfl lC_30 (eC_30 w _ _) rfl rfl (Nat.le_of_ble_eq_true rfl) (fun r3 M4 => ?_)
    refine r_ifeq (pc' := 31) (tgt := 36) g dX5_readPart_28 rfl rfl ?_ ?_
    · skip
      refine r_aload_n (pc' := 37) g dX5_readPart_36 rfl rfl ?_
      refine r_bipush (pc' := 39) (v := 33) g dX5_readPart_37 rfl rfl ?_
      refine r_callVi (pc' := 42) (As := [.int 33]) (rest := []) g dX5_readPart_39 rfl ml_X5_26 mw_X9_take mv_X9_take (by omega) (c_X9_take _ w N 33 M4) rfl lC_30 (eC_30 w _ _) rfl rfl (Nat.le_of_ble_eq_true rfl) (fun r5 M6 => ?_)
      refine r_istore_n (pc' := 43) (L' := [rf w 30, .int a, .int (M.1 30 2), .int r5, .null]) g dX5_readPart_42 rfl n3 rfl rfl ?_
      refine r_iload_n (pc' := 44) g dX5_readPart_43 rfl rfl ?_
      refine r_jn (pj := 56) (Lj := fun (s7 : Unit) => [rf w 30, .int a, .int (M.1 30 2), .int r5, .null]) (stj := fun (s7 : Unit) => []) (fun s7 M8 => ?_) (fun jn9 hjn9 => ?_)
      · skip
        refine r_iload_n (pc' := 57) g dX5_readPart_56 rfl rfl ?_
        refine r_iconst (pc' := 58) (v := 4) g dX5_readPart_57 rfl rfl ?_
        refine r_clt (pc' := 61) (tgt := 68) g dX5_readPart_58 rfl rfl ?_ ?_
        · skip
          refine r_iload_n (pc' := 69) g dX5_readPart_68 rfl rfl ?_
          refine r_ifeq (pc' := 72) (tgt := 85) g dX5_readPart_69 rfl rfl ?_ ?_
          · skip
            refine r_aload_n (pc' := 86) g dX5_readPart_85 rfl rfl ?_
            refine r_iload_n (pc' := 87) g dX5_readPart_86 rfl rfl ?_
            refine r_iconst (pc' := 88) (v := 1) g dX5_readPart_87 rfl rfl ?_
            refine r_iadd (pc' := 89) g dX5_readPart_88 rfl ?_
            refine r_callSi (pc' := 92) (As := [rf w 30, .int (a + 1)]) (rest := []) g dX5_readPart_89 rfl ml_X5_14 mw_X5_readTest ms_X5_readTest (by omega) (h0 _ (a + 1) M8) rfl rfl (Nat.le_of_ble_eq_true rfl) (fun r10 M11 => ?_)
            refine r_istore (pc' := 94) (L' := [rf w 30, .int a, .int (M.1 30 2), .int r5, .int r10]) g dX5_readPart_92 rfl n4 rfl rfl ?_
            refine r_aload_n (pc' := 95) g dX5_readPart_94 rfl rfl ?_
            refine r_bipush (pc' := 97) (v := 41) g dX5_readPart_95 rfl rfl ?_
            refine r_callVi (pc' := 100) (As := [.int 41]) (rest := []) g dX5_readPart_97 rfl ml_X5_26 mw_X9_take mv_X9_take (by omega) (c_X9_take _ w N 41 M11) rfl lC_30 (eC_30 w _ _) rfl rfl (Nat.le_of_ble_eq_true rfl) (fun r12 M13 => ?_)
            refine r_ifne (pc' := 103) (tgt := 111) g dX5_readPart_100 rfl rfl ?_ ?_
            · skip
              refine r_iload (pc' := 113) g dX5_readPart_111 rfl rfl ?_
              exact r_iret g e3 dX5_readPart_113
            · skip
              refine r_aload_n (pc' := 104) g dX5_readPart_103 rfl rfl ?_
              refine r_aload_n (pc' := 105) g dX5_readPart_104 rfl rfl ?_
              refine r_get (pc' := 108) g dX5_readPart_105 rfl fl_X5_33 lC_30 (eC_30 w _ _) rfl ?_
              refine r_callVv (pc' := 111) (As := [.int (M13.1 30 2)]) (rest := []) g dX5_readPart_108 rfl ml_X5_49 mw_X9_fail mv_X9_fail (by omega) (c_X9_fail _ w N (M13.1 30 2) M13) rfl lC_30 (eC_30 w _ _) rfl rfl (Nat.le_of_ble_eq_true rfl) (fun r14 M15 => ?_)
              refine r_iload (pc' := 113) g dX5_readPart_111 rfl rfl ?_
              exact r_iret g e3 dX5_readPart_113
          · skip
            refine r_ldc (pc' := 74) g dX5_readPart_72 rfl kc_X5_53 ?_
            refine r_aload_n (pc' := 75) g dX5_readPart_74 rfl rfl ?_
            refine r_iload_n (pc' := 76) g dX5_readPart_75 rfl rfl ?_
            refine r_iconst (pc' := 77) (v := 1) g dX5_readPart_76 rfl rfl ?_
            refine r_iadd (pc' := 78) g dX5_readPart_77 rfl ?_
            refine r_callSi (pc' := 81) (As := [rf w 30, .int (a + 1)]) (rest := [.int 65535]) g dX5_readPart_78 rfl ml_X5_30 mw_X5_readPart ms_X5_readPart (by omega) (h2 _ (a + 1) M8) rfl rfl (Nat.le_of_ble_eq_true rfl) (fun r16 M17 => ?_)
            refine r_iconst (pc' := 82) (v := -1) g dX5_readPart_81 rfl rfl ?_
            refine r_ixor (pc' := 83) g dX5_readPart_82 rfl ?_
            refine r_iand (pc' := 84) g dX5_readPart_83 rfl ?_
            exact r_iret g e3 dX5_readPart_84
        · skip
          refine r_aload_n (pc' := 62) g dX5_readPart_61 rfl rfl ?_
          refine r_iload_n (pc' := 63) g dX5_readPart_62 rfl rfl ?_
          refine r_callVv (pc' := 66) (As := [.int (M.1 30 2)]) (rest := []) g dX5_readPart_63 rfl ml_X5_49 mw_X9_fail mv_X9_fail (by omega) (c_X9_fail _ w N (M.1 30 2) M8) rfl lC_30 (eC_30 w _ _) rfl rfl (Nat.le_of_ble_eq_true rfl) (fun r18 M19 => ?_)
          refine r_iconst (pc' := 67) (v := 0) g dX5_readPart_66 rfl rfl ?_
          exact r_iret g e3 dX5_readPart_67
      refine r_ifne (pc' := 47) (tgt := 56) g dX5_readPart_44 rfl rfl ?_ ?_
      · skip
        exact r_weak (Ls2 (Ls2 (Ls2 (Ls2 (Ls1 Ls0))))) (hjn9 () M6)
      · skip
        refine r_aload_n (pc' := 48) g dX5_readPart_47 rfl rfl ?_
        refine r_bipush (pc' := 50) (v := 40) g dX5_readPart_48 rfl rfl ?_
        refine r_callVi (pc' := 53) (As := [.int 40]) (rest := []) g dX5_readPart_50 rfl ml_X5_26 mw_X9_take mv_X9_take (by omega) (c_X9_take _ w N 40 M6) rfl lC_30 (eC_30 w _ _) rfl rfl (Nat.le_of_ble_eq_true rfl) (fun r20 M21 => ?_)
        refine r_ifeq (pc' := 56) (tgt := 61) g dX5_readPart_53 rfl rfl ?_ ?_
        · skip
          refine r_aload_n (pc' := 62) g dX5_readPart_61 rfl rfl ?_
          refine r_iload_n (pc' := 63) g dX5_readPart_62 rfl rfl ?_
          refine r_callVv (pc' := 66) (As := [.int (M.1 30 2)]) (rest := []) g dX5_readPart_63 rfl ml_X5_49 mw_X9_fail mv_X9_fail (by omega) (c_X9_fail _ w N (M.1 30 2) M21) rfl lC_30 (eC_30 w _ _) rfl rfl (Nat.le_of_ble_eq_true rfl) (fun r22 M23 => ?_)
          refine r_iconst (pc' := 67) (v := 0) g dX5_readPart_66 rfl rfl ?_
          exact r_iret g e3 dX5_readPart_67
        · skip
          exact r_weak (Ls2 (Ls2 (Ls2 (Ls2 (Ls1 Ls0))))) (hjn9 () M21)
    · skip
      refine r_aload_n (pc' := 32) g dX5_readPart_31 rfl rfl ?_
      refine r_callSi (pc' := 35) (As := [rf w 30]) (rest := []) g dX5_readPart_32 rfl ml_X5_45 mw_X5_readCount ms_X5_readCount (by omega) (c_X5_readCount _ w N  M4) rfl rfl (Nat.le_of_ble_eq_true rfl) (fun r24 M25 => ?_)
      exact r_iret g e3 dX5_readPart_35
  · skip
    refine r_aload_n (pc' := 15) g dX5_readPart_14 rfl rfl ?_
    refine r_callVi (pc' := 18) (As := []) (rest := []) g dX5_readPart_15 rfl ml_X5_37 mw_X9_digit mv_X9_digit (by omega) (c_X9_digit _ w N  M2) rfl lC_30 (eC_30 w _ _) rfl rfl (Nat.le_of_ble_eq_true rfl) (fun r26 M27 => ?_)
    refine r_callSi (pc' := 21) (As := [.int r26]) (rest := []) g dX5_readPart_18 rfl ml_X5_41 mw_X5_worldsBad ms_X5_worldsBad (by omega) (c_X5_worldsBad _ w N r26 M27) rfl rfl (Nat.le_of_ble_eq_true rfl) (fun r28 M29 => ?_)
    exact r_iret g e3 dX5_readPart_21
def gr_laws (N : Nat) : Nat → (Int32 → Mm → Rs) × (Int32 → Mm → Rs) × (Int32 → Mm → Rs)
  | 0 => (fun _ _ => none, fun _ _ => none, fun _ _ => none)
  | n + 1 => (b_X5_readTest N (gr_laws N n).1 (gr_laws N n).2.1 (gr_laws N n).2.2, b_X5_readTerm N (gr_laws N n).1 (gr_laws N n).2.1 (gr_laws N n).2.2, b_X5_readPart N (gr_laws N n).1 (gr_laws N n).2.1 (gr_laws N n).2.2)
theorem cg_laws (w : W0) (N : Nat) : ∀ n : Nat, (∀ (l : Launch) (a : Int32) (M : Mm), Ct l KC w (n + 2) yX5_readTest cX5_readTest 4 (some .int) [rf w 30, .int a] M ((gr_laws N n).1 a M)) ∧ (∀ (l : Launch) (a : Int32) (M : Mm), Ct l KC w (n + 2) yX5_readTerm cX5_readTerm 4 (some .int) [rf w 30, .int a] M ((gr_laws N n).2.1 a M)) ∧ (∀ (l : Launch) (a : Int32) (M : Mm), Ct l KC w (n + 2) yX5_readPart cX5_readPart 5 (some .int) [rf w 30, .int a] M ((gr_laws N n).2.2 a M)) := by
  intro n
  induction n with
  | zero => exact ⟨fun l a M r M' h => (by cases h), fun l a M r M' h => (by cases h), fun l a M r M' h => (by cases h)⟩
  | succ n ih => exact ⟨fun l a M => cb_X5_readTest w N n _ _ _ ih.1 ih.2.1 ih.2.2 l a M, fun l a M => cb_X5_readTerm w N n _ _ _ ih.1 ih.2.1 ih.2.2 l a M, fun l a M => cb_X5_readPart w N n _ _ _ ih.1 ih.2.1 ih.2.2 l a M⟩
def f_X9_end (N : Nat) (M : Mm) : Rs :=
  if (M.1 30 2) < (M.1 30 1) then
    (bd (f_X9_fail N (M.1 30 2) M) fun r2 M3 =>
    (lt' (wI M3 30 1 0) fun M4 =>
    (some (0, M4))))
  else
    (lt' (wI M 30 1 0) fun M1 =>
    (some (0, M1)))

set_option maxHeartbeats 4000000 in
set_option maxRecDepth 100000 in
theorem c_X9_end (l : Launch) (w : W0) (N : Nat) (M : Mm) : Ct l KC w 1 yX9_end cX9_end 1 none [rf w 30] M (f_X9_end N M) := by
  refine ct_of [rf w 30] (by decide) (Nat.le_of_ble_eq_true rfl) rfl (fun Z e1 e2 e3 g => ?_)
  have g : Good KC w Z cX9_end RX9 1 := g
  unfold f_X9_end
  refine r_aload_n (pc' := 1) g dX9_end_0 rfl rfl ?_
  refine r_get (pc' := 4) g dX9_end_1 rfl fl_X9_19 lC_30 (eC_30 w _ _) rfl ?_
  refine r_aload_n (pc' := 5) g dX9_end_4 rfl rfl ?_
  refine r_get (pc' := 8) g dX9_end_5 rfl fl_X9_15 lC_30 (eC_30 w _ _) rfl ?_
  refine r_cge (pc' := 11) (tgt := 19) g dX9_end_8 rfl rfl ?_ ?_
  · skip
    refine r_aload_n (pc' := 20) g dX9_end_19 rfl rfl ?_
    refine r_iconst (pc' := 21) (v := 0) g dX9_end_20 rfl rfl ?_
    refine r_put (pc' := 24) g dX9_end_21 rfl fl_X9_15 rfl lC_30 (eC_30 w _ _) (Nat.le_of_ble_eq_true rfl) (sC_30_1 w _ _ _) ?_
    refine r_ltM (fun M1 => ?_)
    exact r_vret g e3 dX9_end_24
  · skip
    refine r_aload_n (pc' := 12) g dX9_end_11 rfl rfl ?_
    refine r_aload_n (pc' := 13) g dX9_end_12 rfl rfl ?_
    refine r_get (pc' := 16) g dX9_end_13 rfl fl_X9_19 lC_30 (eC_30 w _ _) rfl ?_
    refine r_callVv (pc' := 19) (As := [.int (M.1 30 2)]) (rest := []) g dX9_end_16 rfl ml_X9_31 mw_X9_fail mv_X9_fail (Nat.le_of_ble_eq_true rfl) (c_X9_fail _ w N (M.1 30 2) M) rfl lC_30 (eC_30 w _ _) rfl rfl (Nat.le_of_ble_eq_true rfl) (fun r2 M3 => ?_)
    refine r_aload_n (pc' := 20) g dX9_end_19 rfl rfl ?_
    refine r_iconst (pc' := 21) (v := 0) g dX9_end_20 rfl rfl ?_
    refine r_put (pc' := 24) g dX9_end_21 rfl fl_X9_15 rfl lC_30 (eC_30 w _ _) (Nat.le_of_ble_eq_true rfl) (sC_30_1 w _ _ _) ?_
    refine r_ltM (fun M4 => ?_)
    exact r_vret g e3 dX9_end_24
