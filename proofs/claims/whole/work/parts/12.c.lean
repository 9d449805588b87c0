def f_X5_worldsOf (N : Nat) (M : Mm) : Rs :=
  bd (f_X9_begin N  M) fun r1 M2 =>
  (bd ((gr_laws N 20).1 0 M2) fun r3 M4 =>
  (bd (f_X9_end N  M4) fun r5 M6 =>
  (some (r3, M6))))

set_option maxHeartbeats 4000000 in
set_option maxRecDepth 100000 in
theorem c_X5_worldsOf (l : Launch) (w : W0) (N : Nat) (M : Mm) : Ct l KC w 23 yX5_worldsOf cX5_worldsOf 2 (some .int) [rf w 30] M (f_X5_worldsOf N M) := by
  refine ct_of [rf w 30, .null] (by decide) (Nat.le_of_ble_eq_true rfl) rfl (fun Z e1 e2 e3 g => ?_)
  have g : Good KC w Z cX5_worldsOf RX5 23 := g
  unfold f_X5_worldsOf
  have n1 : 1 < Z.2.2.1 := by rw [e2]; decide
  refine r_aload_n (pc' := 1) g dX5_worldsOf_0 rfl rfl ?_
  refine r_callVv (pc' := 4) (As := []) (rest := []) g dX5_worldsOf_1 rfl ml_X5_9 mw_X9_begin mv_X9_begin (Nat.le_of_ble_eq_true rfl) (c_X9_begin _ w N  M) rfl lC_30 (eC_30 w _ _) rfl rfl (Nat.le_of_ble_eq_true rfl) (fun r1 M2 => ?_)
  refine r_aload_n (pc' := 5) g dX5_worldsOf_4 rfl rfl ?_
  refine r_iconst (pc' := 6) (v := 0) g dX5_worldsOf_5 rfl rfl ?_
  refine r_callSi (pc' := 9) (As := [rf w 30, .int 0]) (rest := []) g dX5_worldsOf_6 rfl ml_X5_14 mw_X5_readTest ms_X5_readTest (Nat.le_of_ble_eq_true rfl) ((cg_laws w N 20).1 _ 0 M2) rfl rfl (Nat.le_of_ble_eq_true rfl) (fun r3 M4 => ?_)
  refine r_istore_n (pc' := 10) (L' := [rf w 30, .int r3]) g dX5_worldsOf_9 rfl n1 rfl rfl ?_
  refine r_aload_n (pc' := 11) g dX5_worldsOf_10 rfl rfl ?_
  refine r_callVv (pc' := 14) (As := []) (rest := []) g dX5_worldsOf_11 rfl ml_X5_20 mw_X9_end mv_X9_end (Nat.le_of_ble_eq_true rfl) (c_X9_end _ w N  M4) rfl lC_30 (eC_30 w _ _) rfl rfl (Nat.le_of_ble_eq_true rfl) (fun r5 M6 => ?_)
  refine r_iload_n (pc' := 15) g dX5_worldsOf_14 rfl rfl ?_
  exact r_iret g e3 dX5_worldsOf_15
def f_X10_addLaw (N : Nat) (a1 : Int32) (M : Mm) : Rs :=
  if (M.1 1 2) < 12 then
    (if inb (M.1 1 2) 12 then
    (lt' (wI M 3 (ix (M.1 1 2)) a1) fun M1 =>
    (lt' (wI M1 1 3 ((M1.1 1 3) ||| (1 <<< ((M1.1 1 2) &&& 31)))) fun M2 =>
    (lt' (wI M2 1 2 ((M2.1 1 2) + 1)) fun M3 =>
    (some ((M3.1 1 2) - 1, M3))))) else none)
  else
    (some ((-9), M))

set_option maxHeartbeats 4000000 in
set_option maxRecDepth 100000 in
theorem c_X10_addLaw (l : Launch) (w : W0) (N : Nat) (a1 : Int32) (M : Mm) : Ct l KC w 0 yX10_addLaw cX10_addLaw 2 (some .int) [rf w 1, .int a1] M (f_X10_addLaw N a1 M) := by
  refine ct_of [rf w 1, .int a1] (by decide) (Nat.le_of_ble_eq_true rfl) rfl (fun Z e1 e2 e3 g => ?_)
  have g : Good KC w Z cX10_addLaw RX10 0 := g
  unfold f_X10_addLaw
  refine r_aload_n (pc' := 1) g dX10_addLaw_0 rfl rfl ?_
  refine r_get (pc' := 4) g dX10_addLaw_1 rfl fl_X10_19 lC_1 (eC_1 w _ _) rfl ?_
  refine r_bipush (pc' := 6) (v := 12) g dX10_addLaw_4 rfl rfl ?_
  refine r_clt (pc' := 9) (tgt := 12) g dX10_addLaw_6 rfl rfl ?_ ?_
  · skip
    refine r_aload_n (pc' := 13) g dX10_addLaw_12 rfl rfl ?_
    refine r_get (pc' := 16) g dX10_addLaw_13 rfl fl_X10_25 lC_1 (eC_1 w _ _) rfl ?_
    refine r_aload_n (pc' := 17) g dX10_addLaw_16 rfl rfl ?_
    refine r_get (pc' := 20) g dX10_addLaw_17 rfl fl_X10_19 lC_1 (eC_1 w _ _) rfl ?_
    refine r_iload_n (pc' := 21) g dX10_addLaw_20 rfl rfl ?_
    refine r_iast (pc' := 22) g dX10_addLaw_21 rfl lC_3 (fun m => eC_3 w m _) ?_
    refine r_ltM (fun M1 => ?_)
    refine r_aload_n (pc' := 23) g dX10_addLaw_22 rfl rfl ?_
    refine r_dupa (pc' := 24) g dX10_addLaw_23 rfl ?_
    refine r_get (pc' := 27) g dX10_addLaw_24 rfl fl_X10_22 lC_1 (eC_1 w _ _) rfl ?_
    refine r_iconst (pc' := 28) (v := 1) g dX10_addLaw_27 rfl rfl ?_
    refine r_aload_n (pc' := 29) g dX10_addLaw_28 rfl rfl ?_
    refine r_get (pc' := 32) g dX10_addLaw_29 rfl fl_X10_19 lC_1 (eC_1 w _ _) rfl ?_
    refine r_ishl (pc' := 33) g dX10_addLaw_32 rfl ?_
    refine r_ior (pc' := 34) g dX10_addLaw_33 rfl ?_
    refine r_put (pc' := 37) g dX10_addLaw_34 rfl fl_X10_22 rfl lC_1 (eC_1 w _ _) (Nat.le_of_ble_eq_true rfl) (sC_1_3 w _ _ _) ?_
    refine r_ltM (fun M2 => ?_)
    refine r_aload_n (pc' := 38) g dX10_addLaw_37 rfl rfl ?_
    refine r_dupa (pc' := 39) g dX10_addLaw_38 rfl ?_
    refine r_get (pc' := 42) g dX10_addLaw_39 rfl fl_X10_19 lC_1 (eC_1 w _ _) rfl ?_
    refine r_iconst (pc' := 43) (v := 1) g dX10_addLaw_42 rfl rfl ?_
    refine r_iadd (pc' := 44) g dX10_addLaw_43 rfl ?_
    refine r_put (pc' := 47) g dX10_addLaw_44 rfl fl_X10_19 rfl lC_1 (eC_1 w _ _) (Nat.le_of_ble_eq_true rfl) (sC_1_2 w _ _ _) ?_
    refine r_ltM (fun M3 => ?_)
    refine r_aload_n (pc' := 48) g dX10_addLaw_47 rfl rfl ?_
    refine r_get (pc' := 51) g dX10_addLaw_48 rfl fl_X10_19 lC_1 (eC_1 w _ _) rfl ?_
    refine r_iconst (pc' := 52) (v := 1) g dX10_addLaw_51 rfl rfl ?_
    refine r_isub (pc' := 53) g dX10_addLaw_52 rfl ?_
    exact r_iret g e3 dX10_addLaw_53
  · skip
    refine r_bipush (pc' := 11) (v := -9) g dX10_addLaw_9 rfl rfl ?_
    exact r_iret g e3 dX10_addLaw_11
def f_X11_law (N : Nat) (M : Mm) : Rs :=
  if (M.1 1 2) < 12 then
    (bd (f_X5_worldsOf N  M) fun r1 M2 =>
    (if (M2.1 30 3) < 0 then
      (bd (f_X10_addLaw N r1 M2) fun r3 M4 =>
      (some (r3, M4)))
    else
      (some ((-20) - (M2.1 30 3), M2))))
  else
    (bd (f_X11_refuse N (-6) M) fun r5 M6 =>
    (some (r5, M6)))

set_option maxHeartbeats 4000000 in
set_option maxRecDepth 100000 in
theorem c_X11_law (l : Launch) (w : W0) (N : Nat) (M : Mm) : Ct l KC w 24 yX11_law cX11_law 2 (some .int) [rf w 0] M (f_X11_law N M) := by
  refine ct_of [rf w 0, .null] (by decide) (Nat.le_of_ble_eq_true rfl) rfl (fun Z e1 e2 e3 g => ?_)
  have g : Good KC w Z cX11_law RX11 24 := g
  unfold f_X11_law
  have n1 : 1 < Z.2.2.1 := by rw [e2]; decide
  refine r_aload_n (pc' := 1) g dX11_law_0 rfl rfl ?_
  refine r_get (pc' := 4) g dX11_law_1 rfl fl_X11_12 lC_0 (eC_0 w _ _) rfl ?_
  refine r_get (pc' := 7) g dX11_law_4 rfl fl_X11_124 lC_1 (eC_1 w _ _) rfl ?_
  refine r_bipush (pc' := 9) (v := 12) g dX11_law_7 rfl rfl ?_
  refine r_clt (pc' := 12) (tgt := 19) g dX11_law_9 rfl rfl ?_ ?_
  · skip
    refine r_aload_n (pc' := 20) g dX11_law_19 rfl rfl ?_
    refine r_get (pc' := 23) g dX11_law_20 rfl fl_X11_33 lC_0 (eC_0 w _ _) rfl ?_
    refine r_callSi (pc' := 26) (As := [rf w 30]) (rest := []) g dX11_law_23 rfl ml_X11_127 mw_X5_worldsOf ms_X5_worldsOf (Nat.le_of_ble_eq_true rfl) (c_X5_worldsOf _ w N  M) rfl rfl (Nat.le_of_ble_eq_true rfl) (fun r1 M2 => ?_)
    refine r_istore_n (pc' := 27) (L' := [rf w 0, .int r1]) g dX11_law_26 rfl n1 rfl rfl ?_
    refine r_aload_n (pc' := 28) g dX11_law_27 rfl rfl ?_
    refine r_get (pc' := 31) g dX11_law_28 rfl fl_X11_33 lC_0 (eC_0 w _ _) rfl ?_
    refine r_get (pc' := 34) g dX11_law_31 rfl fl_X11_133 lC_30 (eC_30 w _ _) rfl ?_
    refine r_iflt (pc' := 37) (tgt := 50) g dX11_law_34 rfl rfl ?_ ?_
    · skip
      refine r_aload_n (pc' := 51) g dX11_law_50 rfl rfl ?_
      refine r_get (pc' := 54) g dX11_law_51 rfl fl_X11_12 lC_0 (eC_0 w _ _) rfl ?_
      refine r_iload_n (pc' := 55) g dX11_law_54 rfl rfl ?_
      refine r_callVi (pc' := 58) (As := [.int r1]) (rest := []) g dX11_law_55 rfl ml_X11_136 mw_X10_addLaw mv_X10_addLaw (Nat.le_of_ble_eq_true rfl) (c_X10_addLaw _ w N r1 M2) rfl lC_1 (eC_1 w _ _) rfl rfl (Nat.le_of_ble_eq_true rfl) (fun r3 M4 => ?_)
      exact r_iret g e3 dX11_law_58
    · skip
      refine r_bipush (pc' := 39) (v := -20) g dX11_law_37 rfl rfl ?_
      refine r_aload_n (pc' := 40) g dX11_law_39 rfl rfl ?_
      refine r_get (pc' := 43) g dX11_law_40 rfl fl_X11_33 lC_0 (eC_0 w _ _) rfl ?_
      refine r_get (pc' := 46) g dX11_law_43 rfl fl_X11_133 lC_30 (eC_30 w _ _) rfl ?_
      refine r_isub (pc' := 47) g dX11_law_46 rfl ?_
      refine r_goto (tgt := 58) g dX11_law_47 rfl ?_
      exact r_iret g e3 dX11_law_58
  · skip
    refine r_aload_n (pc' := 13) g dX11_law_12 rfl rfl ?_
    refine r_bipush (pc' := 15) (v := -6) g dX11_law_13 rfl rfl ?_
    refine r_callVi (pc' := 18) (As := [.int (-6)]) (rest := []) g dX11_law_15 rfl ml_X11_80 mw_X11_refuse mv_X11_refuse (Nat.le_of_ble_eq_true rfl) (c_X11_refuse _ w N (-6) M) rfl lC_0 (eC_0 w _ _) rfl rfl (Nat.le_of_ble_eq_true rfl) (fun r5 M6 => ?_)
    exact r_iret g e3 dX11_law_18
def f_X11_holds (N : Nat) (a1 : Int32) (a2 : Int32) (M : Mm) : Rs :=
  if a1 < 0 then
    (bd (f_X11_refuse N (-1) M) fun r1 M2 =>
    (some (r1, M2)))
  else
    (if a1 < (M.1 1 2) then
      (lt' (fun (s3 : Int32) (M4 : Mm) =>
        ((if s3 = a2 then
          (some (0, M4))
        else
          (lt' (wI M4 1 3 ((M4.1 1 3) ^^^ (1 <<< (a1 &&& 31)))) fun M6 =>
          (some (1, M6)))) : Rs)) fun jn5 =>
      (if (((M.1 1 3) >>> (a1 &&& 31)) &&& 1) = 1 then
        (jn5 1 M)
      else
        (jn5 0 M)))
    else
      (bd (f_X11_refuse N (-1) M) fun r7 M8 =>
      (some (r7, M8))))

set_option maxHeartbeats 4000000 in
set_option maxRecDepth 100000 in
theorem c_X11_holds (l : Launch) (w : W0) (N : Nat) (a1 : Int32) (a2 : Int32) (M : Mm) : Ct l KC w 1 yX11_holds cX11_holds 4 (some .int) [rf w 0, .int a1, .int a2] M (f_X11_holds N a1 a2 M) := by
  refine ct_of [rf w 0, .int a1, .int a2, .null] (by decide) (Nat.le_of_ble_eq_true rfl) rfl (fun Z e1 e2 e3 g => ?_)
  have g : Good KC w Z cX11_holds RX11 1 := g
  unfold f_X11_holds
  have n3 : 3 < Z.2.2.1 := by rw [e2]; decide
  refine r_iload_n (pc' := 1) g dX11_holds_0 rfl rfl ?_
  refine r_iflt (pc' := 4) (tgt := 15) g dX11_holds_1 rfl rfl ?_ ?_
  · skip
    refine r_aload_n (pc' := 16) g dX11_holds_15 rfl rfl ?_
    refine r_iconst (pc' := 17) (v := -1) g dX11_holds_16 rfl rfl ?_
    refine r_callVi (pc' := 20) (As := [.int (-1)]) (rest := []) g dX11_holds_17 rfl ml_X11_80 mw_X11_refuse mv_X11_refuse (Nat.le_of_ble_eq_true rfl) (c_X11_refuse _ w N (-1) M) rfl lC_0 (eC_0 w _ _) rfl rfl (Nat.le_of_ble_eq_true rfl) (fun r1 M2 => ?_)
    exact r_iret g e3 dX11_holds_20
  · skip
    refine r_iload_n (pc' := 5) g dX11_holds_4 rfl rfl ?_
    refine r_aload_n (pc' := 6) g dX11_holds_5 rfl rfl ?_
    refine r_get (pc' := 9) g dX11_holds_6 rfl fl_X11_12 lC_0 (eC_0 w _ _) rfl ?_
    refine r_get (pc' := 12) g dX11_holds_9 rfl fl_X11_124 lC_1 (eC_1 w _ _) rfl ?_
    refine r_clt (pc' := 15) (tgt := 21) g dX11_holds_12 rfl rfl ?_ ?_
    · skip
      refine r_aload_n (pc' := 22) g dX11_holds_21 rfl rfl ?_
      refine r_get (pc' := 25) g dX11_holds_22 rfl fl_X11_12 lC_0 (eC_0 w _ _) rfl ?_
      refine r_get (pc' := 28) g dX11_holds_25 rfl fl_X11_139 lC_1 (eC_1 w _ _) rfl ?_
      refine r_iload_n (pc' := 29) g dX11_holds_28 rfl rfl ?_
      refine r_ishr (pc' := 30) g dX11_holds_29 rfl ?_
      refine r_iconst (pc' := 31) (v := 1) g dX11_holds_30 rfl rfl ?_
      refine r_iand (pc' := 32) g dX11_holds_31 rfl ?_
      refine r_iconst (pc' := 33) (v := 1) g dX11_holds_32 rfl rfl ?_
      refine r_jn (pj := 41) (Lj := fun (s3 : Int32) => [rf w 0, .int a1, .int a2, .null]) (stj := fun (s3 : Int32) => [.int s3]) (fun s3 M4 => ?_) (fun jn5 hjn5 => ?_)
      · skip
        refine r_istore_n (pc' := 42) (L' := [rf w 0, .int a1, .int a2, .int s3]) g dX11_holds_41 rfl n3 rfl rfl ?_
        refine r_iload_n (pc' := 43) g dX11_holds_42 rfl rfl ?_
        refine r_iload_n (pc' := 44) g dX11_holds_43 rfl rfl ?_
        refine r_cne (pc' := 47) (tgt := 49) g dX11_holds_44 rfl rfl ?_ ?_
        · skip
          refine r_aload_n (pc' := 50) g dX11_holds_49 rfl rfl ?_
          refine r_get (pc' := 53) g dX11_holds_50 rfl fl_X11_12 lC_0 (eC_0 w _ _) rfl ?_
          refine r_dupa (pc' := 54) g dX11_holds_53 rfl ?_
          refine r_get (pc' := 57) g dX11_holds_54 rfl fl_X11_139 lC_1 (eC_1 w _ _) rfl ?_
          refine r_iconst (pc' := 58) (v := 1) g dX11_holds_57 rfl rfl ?_
          refine r_iload_n (pc' := 59) g dX11_holds_58 rfl rfl ?_
          refine r_ishl (pc' := 60) g dX11_holds_59 rfl ?_
          refine r_ixor (pc' := 61) g dX11_holds_60 rfl ?_
          refine r_put (pc' := 64) g dX11_holds_61 rfl fl_X11_139 rfl lC_1 (eC_1 w _ _) (Nat.le_of_ble_eq_true rfl) (sC_1_3 w _ _ _) ?_
          refine r_ltM (fun M6 => ?_)
          refine r_iconst (pc' := 65) (v := 1) g dX11_holds_64 rfl rfl ?_
          exact r_iret g e3 dX11_holds_65
        · skip
          refine r_iconst (pc' := 48) (v := 0) g dX11_holds_47 rfl rfl ?_
          exact r_iret g e3 dX11_holds_48
      refine r_cne (pc' := 36) (tgt := 40) g dX11_holds_33 rfl rfl ?_ ?_
      · skip
        refine r_iconst (pc' := 41) (v := 0) g dX11_holds_40 rfl rfl ?_
        exact r_weak (Ls2 (Ls2 (Ls2 (Ls1 Ls0)))) (hjn5 0 M)
      · skip
        refine r_iconst (pc' := 37) (v := 1) g dX11_holds_36 rfl rfl ?_
        refine r_goto (tgt := 41) g dX11_holds_37 rfl ?_
        exact r_weak (Ls2 (Ls2 (Ls2 (Ls1 Ls0)))) (hjn5 1 M)
    · skip
      refine r_aload_n (pc' := 16) g dX11_holds_15 rfl rfl ?_
      refine r_iconst (pc' := 17) (v := -1) g dX11_holds_16 rfl rfl ?_
      refine r_callVi (pc' := 20) (As := [.int (-1)]) (rest := []) g dX11_holds_17 rfl ml_X11_80 mw_X11_refuse mv_X11_refuse (Nat.le_of_ble_eq_true rfl) (c_X11_refuse _ w N (-1) M) rfl lC_0 (eC_0 w _ _) rfl rfl (Nat.le_of_ble_eq_true rfl) (fun r7 M8 => ?_)
      exact r_iret g e3 dX11_holds_20
def B_X10_seenBy_4 (N : Nat) (p1 : Int32) (G : Int32 → Mm → Rs) (rec : (Int32 × Int32) → Mm → Rs) (s : Int32 × Int32) (M : Mm) : Rs :=
  if s.2 < 4 then
      (if inb ((s.2 * 6) + 5) 43 then
      (if p1 < (M.1 2 (ix ((s.2 * 6) + 5))) then
        (rec (s.1, s.2 + 1) M)
      else
        (lt' (s.1 ||| (1 <<< (s.2 &&& 31))) fun x1 =>
        (rec (x1, s.2 + 1) M))) else none)
    else
      (G s.1 M)

def f_X10_seenBy (N : Nat) (a1 : Int32) (M : Mm) : Rs :=
  itr (B_X10_seenBy_4 N a1 fun z2 M3 =>
  (some (z2 &&& (M3.1 1 0), M3))) N (0, 0) M

set_option maxHeartbeats 4000000 in
set_option maxRecDepth 100000 in
theorem s_X10_seenBy_4 {w : W0} {Z : Zx} (g : Good KC w Z cX10_seenBy RX10 0) (e2 : Z.2.2.1 = 4) (e3 : Z.2.2.2 = (some .int)) (N : Nat) (p1 : Int32) (G : Int32 → Mm → Rs) (kG : ∀ (x : Int32) (M : Mm), Sim KC w Z 36 [rf w 1, .null, .int x, .null] [] M (G x M)) : ∀ (n : Nat) (s : Int32 × Int32) (M : Mm), Sim KC w Z 4 [rf w 1, .int p1, .int s.1, .int s.2] [] M (itr (B_X10_seenBy_4 N p1 G) n s M) := by
  have n2 : 2 < Z.2.2.1 := by rw [e2]; decide
  have n3 : 3 < Z.2.2.1 := by rw [e2]; decide
  refine r_itr (Lf := fun (s : Int32 × Int32) => [rf w 1, .int p1, .int s.1, .int s.2]) (fun rec hr s M => ?_)
  unfold B_X10_seenBy_4
  refine r_iload_n (pc' := 5) g dX10_seenBy_4 rfl rfl ?_
  refine r_iconst (pc' := 6) (v := 4) g dX10_seenBy_5 rfl rfl ?_
  refine r_cge (pc' := 9) (tgt := 36) g dX10_seenBy_6 rfl rfl ?_ ?_
  · skip
    exact r_weak (Ls2 (Ls1 (Ls2 (Ls1 Ls0)))) (kG s.1 M)
  · skip
    refine r_aload_n (pc' := 10) g dX10_seenBy_9 rfl rfl ?_
    refine r_get (pc' := 13) g dX10_seenBy_10 rfl fl_X10_15 lC_1 (eC_1 w _ _) rfl ?_
    refine r_iload_n (pc' := 14) g dX10_seenBy_13 rfl rfl ?_
    refine r_bipush (pc' := 16) (v := 6) g dX10_seenBy_14 rfl rfl ?_
    refine r_imul (pc' := 17) g dX10_seenBy_16 rfl ?_
    refine r_iconst (pc' := 18) (v := 5) g dX10_seenBy_17 rfl rfl ?_
    refine r_iadd (pc' := 19) g dX10_seenBy_18 rfl ?_
    refine r_iald (pc' := 20) g dX10_seenBy_19 rfl lC_2 (eC_2 w _ _) ?_
    refine r_iload_n (pc' := 21) g dX10_seenBy_20 rfl rfl ?_
    refine r_cgt (pc' := 24) (tgt := 30) g dX10_seenBy_21 rfl rfl ?_ ?_
    · skip
      refine r_iinc (pc' := 33) (b := 1) (L' := [rf w 1, .int p1, .int s.1, .int (s.2 + 1)]) g dX10_seenBy_30 rfl rfl rfl n3 rfl rfl ?_
      refine r_goto (tgt := 4) g dX10_seenBy_33 rfl ?_
      exact r_weak (Ls2 (Ls2 (Ls2 (Ls2 Ls0)))) (hr (s.1, s.2 + 1) M)
    · skip
      refine r_iload_n (pc' := 25) g dX10_seenBy_24 rfl rfl ?_
      refine r_iconst (pc' := 26) (v := 1) g dX10_seenBy_25 rfl rfl ?_
      refine r_iload_n (pc' := 27) g dX10_seenBy_26 rfl rfl ?_
      refine r_ishl (pc' := 28) g dX10_seenBy_27 rfl ?_
      refine r_ior (pc' := 29) g dX10_seenBy_28 rfl ?_
      refine r_ltI (fun x1 => ?_)
      refine r_istore_n (pc' := 30) (L' := [rf w 1, .int p1, .int x1, .int s.2]) g dX10_seenBy_29 rfl n2 rfl rfl ?_
      refine r_iinc (pc' := 33) (b := 1) (L' := [rf w 1, .int p1, .int x1, .int (s.2 + 1)]) g dX10_seenBy_30 rfl rfl rfl n3 rfl rfl ?_
      refine r_goto (tgt := 4) g dX10_seenBy_33 rfl ?_
      exact r_weak (Ls2 (Ls2 (Ls2 (Ls2 Ls0)))) (hr (x1, s.2 + 1) M)
set_option maxHeartbeats 4000000 in
set_option maxRecDepth 100000 in
theorem c_X10_seenBy (l : Launch) (w : W0) (N : Nat) (a1 : Int32) (M : Mm) : Ct l KC w 0 yX10_seenBy cX10_seenBy 4 (some .int) [rf w 1, .int a1] M (f_X10_seenBy N a1 M) := by
  refine ct_of [rf w 1, .int a1, .null, .null] (by decide) (Nat.le_of_ble_eq_true rfl) rfl (fun Z e1 e2 e3 g => ?_)
  have g : Good KC w Z cX10_seenBy RX10 0 := g
  unfold f_X10_seenBy
  have n2 : 2 < Z.2.2.1 := by rw [e2]; decide
  have n3 : 3 < Z.2.2.1 := by rw [e2]; decide
  refine r_iconst (pc' := 1) (v := 0) g dX10_seenBy_0 rfl rfl ?_
  refine r_istore_n (pc' := 2) (L' := [rf w 1, .int a1, .int 0, .null]) g dX10_seenBy_1 rfl n2 rfl rfl ?_
  refine r_iconst (pc' := 3) (v := 0) g dX10_seenBy_2 rfl rfl ?_
  refine r_istore_n (pc' := 4) (L' := [rf w 1, .int a1, .int 0, .int 0]) g dX10_seenBy_3 rfl n3 rfl rfl ?_
  refine r_weak (Ls2 (Ls2 (Ls2 (Ls2 Ls0)))) (s_X10_seenBy_4 g e2 e3 N a1 _ (fun z2 M3 => ?_) N (0, 0) M)
  refine r_iload_n (pc' := 37) g dX10_seenBy_36 rfl rfl ?_
  refine r_aload_n (pc' := 38) g dX10_seenBy_37 rfl rfl ?_
  refine r_get (pc' := 41) g dX10_seenBy_38 rfl fl_X10_9 lC_1 (eC_1 w _ _) rfl ?_
  refine r_iand (pc' := 42) g dX10_seenBy_41 rfl ?_
  exact r_iret g e3 dX10_seenBy_42
def f_X7_add (N : Nat) (a1 : Int32) (M : Mm) : Rs :=
  if (M.1 35 1) < 40 then
    (if inb (M.1 35 1) 40 then
    (lt' (wI M 36 (ix (M.1 35 1)) a1) fun M1 =>
    (lt' (wI M1 35 1 ((M1.1 35 1) + 1)) fun M2 =>
    (some (0, M2)))) else none)
  else
    (some (0, M))

set_option maxHeartbeats 4000000 in
set_option maxRecDepth 100000 in
theorem c_X7_add (l : Launch) (w : W0) (N : Nat) (a1 : Int32) (M : Mm) : Ct l KC w 0 yX7_add cX7_add 2 none [rf w 35, .int a1] M (f_X7_add N a1 M) := by
  refine ct_of [rf w 35, .int a1] (by decide) (Nat.le_of_ble_eq_true rfl) rfl (fun Z e1 e2 e3 g => ?_)
  have g : Good KC w Z cX7_add RX7 0 := g
  unfold f_X7_add
  refine r_aload_n (pc' := 1) g dX7_add_0 rfl rfl ?_
  refine r_get (pc' := 4) g dX7_add_1 rfl fl_X7_15 lC_35 (eC_35 w _ _) rfl ?_
  refine r_bipush (pc' := 6) (v := 40) g dX7_add_4 rfl rfl ?_
  refine r_clt (pc' := 9) (tgt := 10) g dX7_add_6 rfl rfl ?_ ?_
  · skip
    refine r_aload_n (pc' := 11) g dX7_add_10 rfl rfl ?_
    refine r_get (pc' := 14) g dX7_add_11 rfl fl_X7_9 lC_35 (eC_35 w _ _) rfl ?_
    refine r_aload_n (pc' := 15) g dX7_add_14 rfl rfl ?_
    refine r_get (pc' := 18) g dX7_add_15 rfl fl_X7_15 lC_35 (eC_35 w _ _) rfl ?_
    refine r_iload_n (pc' := 19) g dX7_add_18 rfl rfl ?_
    refine r_iast (pc' := 20) g dX7_add_19 rfl lC_36 (fun m => eC_36 w m _) ?_
    refine r_ltM (fun M1 => ?_)
    refine r_aload_n (pc' := 21) g dX7_add_20 rfl rfl ?_
    refine r_dupa (pc' := 22) g dX7_add_21 rfl ?_
    refine r_get (pc' := 25) g dX7_add_22 rfl fl_X7_15 lC_35 (eC_35 w _ _) rfl ?_
    refine r_iconst (pc' := 26) (v := 1) g dX7_add_25 rfl rfl ?_
    refine r_iadd (pc' := 27) g dX7_add_26 rfl ?_
    refine r_put (pc' := 30) g dX7_add_27 rfl fl_X7_15 rfl lC_35 (eC_35 w _ _) (Nat.le_of_ble_eq_true rfl) (sC_35_1 w _ _ _) ?_
    refine r_ltM (fun M2 => ?_)
    exact r_vret g e3 dX7_add_30
  · skip
    exact r_vret g e3 dX7_add_9
def f_X9_atDigit (N : Nat) (M : Mm) : Rs :=
  bd (f_X9_peek N  M) fun r1 M2 =>
  (if r1 < 48 then
    (some (0, M2))
  else
    (if 57 < r1 then
      (some (0, M2))
    else
      (some (1, M2))))

set_option maxHeartbeats 4000000 in
set_option maxRecDepth 100000 in
theorem c_X9_atDigit (l : Launch) (w : W0) (N : Nat) (M : Mm) : Ct l KC w 1 yX9_atDigit cX9_atDigit 2 (some .boolean) [rf w 30] M (f_X9_atDigit N M) := by
  refine ct_of [rf w 30, .null] (by decide) (Nat.le_of_ble_eq_true rfl) rfl (fun Z e1 e2 e3 g => ?_)
  have g : Good KC w Z cX9_atDigit RX9 1 := g
  unfold f_X9_atDigit
  have n1 : 1 < Z.2.2.1 := by rw [e2]; decide
  refine r_aload_n (pc' := 1) g dX9_atDigit_0 rfl rfl ?_
  refine r_callVi (pc' := 4) (As := []) (rest := []) g dX9_atDigit_1 rfl ml_X9_27 mw_X9_peek mv_X9_peek (Nat.le_of_ble_eq_true rfl) (c_X9_peek _ w N  M) rfl lC_30 (eC_30 w _ _) rfl rfl (Nat.le_of_ble_eq_true rfl) (fun r1 M2 => ?_)
  refine r_istore_n (pc' := 5) (L' := [rf w 30, .int r1]) g dX9_atDigit_4 rfl n1 rfl rfl ?_
  refine r_iload_n (pc' := 6) g dX9_atDigit_5 rfl rfl ?_
  refine r_bipush (pc' := 8) (v := 48) g dX9_atDigit_6 rfl rfl ?_
  refine r_clt (pc' := 11) (tgt := 21) g dX9_atDigit_8 rfl rfl ?_ ?_
  · skip
    refine r_iconst (pc' := 22) (v := 0) g dX9_atDigit_21 rfl rfl ?_
    exact r_zretc g e3 rfl dX9_atDigit_22
  · skip
    refine r_iload_n (pc' := 12) g dX9_atDigit_11 rfl rfl ?_
    refine r_bipush (pc' := 14) (v := 57) g dX9_atDigit_12 rfl rfl ?_
    refine r_cgt (pc' := 17) (tgt := 21) g dX9_atDigit_14 rfl rfl ?_ ?_
    · skip
      refine r_iconst (pc' := 22) (v := 0) g dX9_atDigit_21 rfl rfl ?_
      exact r_zretc g e3 rfl dX9_atDigit_22
    · skip
      refine r_iconst (pc' := 18) (v := 1) g dX9_atDigit_17 rfl rfl ?_
      refine r_goto (tgt := 22) g dX9_atDigit_18 rfl ?_
      exact r_zretc g e3 rfl dX9_atDigit_22
def B_X8_readNumber_4 (N : Nat) (G : Int32 → Mm → Rs) (rec : (Int32 × Int32) → Mm → Rs) (s : Int32 × Int32) (M : Mm) : Rs :=
  if s.2 < 3 then
      (bd (f_X9_atDigit N  M) fun r1 M2 =>
      (if r1 = 0 then
        (G s.1 M2)
      else
        (bd (f_X9_digit N  M2) fun r3 M4 =>
        (lt' ((s.1 * 10) + r3) fun x5 =>
        (rec (x5, s.2 + 1) M4)))))
    else
      (G s.1 M)

def f_X8_readNumber (N : Nat) (M : Mm) : Rs :=
  itr (B_X8_readNumber_4 N fun z6 M7 =>
  (bd (f_X7_add N z6 M7) fun r8 M9 =>
  (some (0, M9)))) N (0, 0) M

set_option maxHeartbeats 4000000 in
set_option maxRecDepth 100000 in
theorem s_X8_readNumber_4 {w : W0} {Z : Zx} (g : Good KC w Z cX8_readNumber RX8 2) (e2 : Z.2.2.1 = 4) (e3 : Z.2.2.2 = none) (N : Nat) (G : Int32 → Mm → Rs) (kG : ∀ (x : Int32) (M : Mm), Sim KC w Z 32 [rf w 34, .null, .int x, .null] [] M (G x M)) : ∀ (n : Nat) (s : Int32 × Int32) (M : Mm), Sim KC w Z 4 [rf w 34, rf w 30, .int s.1, .int s.2] [] M (itr (B_X8_readNumber_4 N G) n s M) := by
  have n2 : 2 < Z.2.2.1 := by rw [e2]; decide
  have n3 : 3 < Z.2.2.1 := by rw [e2]; decide
  refine r_itr (Lf := fun (s : Int32 × Int32) => [rf w 34, rf w 30, .int s.1, .int s.2]) (fun rec hr s M => ?_)
  unfold B_X8_readNumber_4
  refine r_iload_n (pc' := 5) g dX8_readNumber_4 rfl rfl ?_
  refine r_iconst (pc' := 6) (v := 3) g dX8_readNumber_5 rfl rfl ?_
  refine r_cge (pc' := 9) (tgt := 32) g dX8_readNumber_6 rfl rfl ?_ ?_
  · skip
    exact r_weak (Ls2 (Ls1 (Ls2 (Ls1 Ls0)))) (kG s.1 M)
  · skip
    refine r_aload_n (pc' := 10) g dX8_readNumber_9 rfl rfl ?_
    refine r_callVi (pc' := 13) (As := []) (rest := []) g dX8_readNumber_10 rfl ml_X8_106 mw_X9_atDigit mv_X9_atDigit (Nat.le_of_ble_eq_true rfl) (c_X9_atDigit _ w N  M) rfl lC_30 (eC_30 w _ _) rfl rfl (Nat.le_of_ble_eq_true rfl) (fun r1 M2 => ?_)
    refine r_ifeq (pc' := 16) (tgt := 32) g dX8_readNumber_13 rfl rfl ?_ ?_
    · skip
      exact r_weak (Ls2 (Ls1 (Ls2 (Ls1 Ls0)))) (kG s.1 M2)
    · skip
      refine r_iload_n (pc' := 17) g dX8_readNumber_16 rfl rfl ?_
      refine r_bipush (pc' := 19) (v := 10) g dX8_readNumber_17 rfl rfl ?_
      refine r_imul (pc' := 20) g dX8_readNumber_19 rfl ?_
      refine r_aload_n (pc' := 21) g dX8_readNumber_20 rfl rfl ?_
      refine r_callVi (pc' := 24) (As := []) (rest := [.int (s.1 * 10)]) g dX8_readNumber_21 rfl ml_X8_114 mw_X9_digit mv_X9_digit (Nat.le_of_ble_eq_true rfl) (c_X9_digit _ w N  M2) rfl lC_30 (eC_30 w _ _) rfl rfl (Nat.le_of_ble_eq_true rfl) (fun r3 M4 => ?_)
      refine r_iadd (pc' := 25) g dX8_readNumber_24 rfl ?_
      refine r_ltI (fun x5 => ?_)
      refine r_istore_n (pc' := 26) (L' := [rf w 34, rf w 30, .int x5, .int s.2]) g dX8_readNumber_25 rfl n2 rfl rfl ?_
      refine r_iinc (pc' := 29) (b := 1) (L' := [rf w 34, rf w 30, .int x5, .int (s.2 + 1)]) g dX8_readNumber_26 rfl rfl rfl n3 rfl rfl ?_
      refine r_goto (tgt := 4) g dX8_readNumber_29 rfl ?_
      exact r_weak (Ls2 (Ls2 (Ls2 (Ls2 Ls0)))) (hr (x5, s.2 + 1) M4)
set_option maxHeartbeats 4000000 in
set_option maxRecDepth 100000 in
theorem c_X8_readNumber (l : Launch) (w : W0) (N : Nat) (M : Mm) : Ct l KC w 2 yX8_readNumber cX8_readNumber 4 none [rf w 34, rf w 30] M (f_X8_readNumber N M) := by
  refine ct_of [rf w 34, rf w 30, .null, .null] (by decide) (Nat.le_of_ble_eq_true rfl) rfl (fun Z e1 e2 e3 g => ?_)
  have g : Good KC w Z cX8_readNumber RX8 2 := g
  unfold f_X8_readNumber
  have n2 : 2 < Z.2.2.1 := by rw [e2]; decide
  have n3 : 3 < Z.2.2.1 := by rw [e2]; decide
  refine r_iconst (pc' := 1) (v := 0) g dX8_readNumber_0 rfl rfl ?_
  refine r_istore_n (pc' := 2) (L' := [rf w 34, rf w 30, .int 0, .null]) g dX8_readNumber_1 rfl n2 rfl rfl ?_
  refine r_iconst (pc' := 3) (v := 0) g dX8_readNumber_2 rfl rfl ?_
  refine r_istore_n (pc' := 4) (L' := [rf w 34, rf w 30, .int 0, .int 0]) g dX8_readNumber_3 rfl n3 rfl rfl ?_
  refine r_weak (Ls2 (Ls2 (Ls2 (Ls2 Ls0)))) (s_X8_readNumber_4 g e2 e3 N _ (fun z6 M7 => ?_) N (0, 0) M)
  refine r_aload_n (pc' := 33) g dX8_readNumber_32 rfl rfl ?_
  refine r_get (pc' := 36) g dX8_readNumber_33 rfl fl_X8_12 lC_34 (eC_34 w _ _) rfl ?_
  refine r_iload_n (pc' := 37) g dX8_readNumber_36 rfl rfl ?_
  refine r_callVv (pc' := 40) (As := [.int z6]) (rest := []) g dX8_readNumber_37 rfl ml_X8_96 mw_X7_add mv_X7_add (Nat.le_of_ble_eq_true rfl) (c_X7_add _ w N z6 M7) rfl lC_35 (eC_35 w _ _) rfl rfl (Nat.le_of_ble_eq_true rfl) (fun r8 M9 => ?_)
  exact r_vret g e3 dX8_readNumber_40
def f_X8_readSeen (N : Nat) (M : Mm) : Rs :=
  bd (f_X9_digit N  M) fun r1 M2 =>
  (lt' (fun (s3 : Unit) (M4 : Mm) =>
    ((bd (f_X9_fail N (M.1 30 2) M4) fun r6 M7 =>
    (bd (f_X7_add N (1010 + r1) M7) fun r8 M9 =>
    (some (0, M9)))) : Rs)) fun jn5 =>
  (if r1 < 4 then
    (if (((M2.1 34 3) >>> (r1 &&& 31)) &&& 1) = 0 then
      (jn5 () M2)
    else
      (bd (f_X7_add N (1010 + r1) M2) fun r10 M11 =>
      (some (0, M11))))
  else
    (jn5 () M2)))

set_option maxHeartbeats 4000000 in
set_option maxRecDepth 100000 in
theorem c_X8_readSeen (l : Launch) (w : W0) (N : Nat) (M : Mm) : Ct l KC w 2 yX8_readSeen cX8_readSeen 4 none [rf w 34, rf w 30] M (f_X8_readSeen N M) := by
  refine ct_of [rf w 34, rf w 30, .null, .null] (by decide) (Nat.le_of_ble_eq_true rfl) rfl (fun Z e1 e2 e3 g => ?_)
  have g : Good KC w Z cX8_readSeen RX8 2 := g
  unfold f_X8_readSeen
  have n2 : 2 < Z.2.2.1 := by rw [e2]; decide
  have n3 : 3 < Z.2.2.1 := by rw [e2]; decide
  refine r_aload_n (pc' := 1) g dX8_readSeen_0 rfl rfl ?_
  refine r_get (pc' := 4) g dX8_readSeen_1 rfl fl_X8_103 lC_30 (eC_30 w _ _) rfl ?_
  refine r_istore_n (pc' := 5) (L' := [rf w 34, rf w 30, .int (M.1 30 2), .null]) g dX8_readSeen_4 rfl n2 rfl rfl ?_
  refine r_aload_n (pc' := 6) g dX8_readSeen_5 rfl rfl ?_
  refine r_callVi (pc' := 9) (As := []) (rest := []) g dX8_readSeen_6 rfl ml_X8_114 mw_X9_digit mv_X9_digit (Nat.le_of_ble_eq_true rfl) (c_X9_digit _ w N  M) rfl lC_30 (eC_30 w _ _) rfl rfl (Nat.le_of_ble_eq_true rfl) (fun r1 M2 => ?_)
  refine r_istore_n (pc' := 10) (L' := [rf w 34, rf w 30, .int (M.1 30 2), .int r1]) g dX8_readSeen_9 rfl n3 rfl rfl ?_
  refine r_iload_n (pc' := 11) g dX8_readSeen_10 rfl rfl ?_
  refine r_iconst (pc' := 12) (v := 4) g dX8_readSeen_11 rfl rfl ?_
  refine r_jn (pj := 26) (Lj := fun (s3 : Unit) => [rf w 34, rf w 30, .int (M.1 30 2), .int r1]) (stj := fun (s3 : Unit) => []) (fun s3 M4 => ?_) (fun jn5 hjn5 => ?_)
  · skip
    refine r_aload_n (pc' := 27) g dX8_readSeen_26 rfl rfl ?_
    refine r_iload_n (pc' := 28) g dX8_readSeen_27 rfl rfl ?_
    refine r_callVv (pc' := 31) (As := [.int (M.1 30 2)]) (rest := []) g dX8_readSeen_28 rfl ml_X8_120 mw_X9_fail mv_X9_fail (Nat.le_of_ble_eq_true rfl) (c_X9_fail _ w N (M.1 30 2) M4) rfl lC_30 (eC_30 w _ _) rfl rfl (Nat.le_of_ble_eq_true rfl) (fun r6 M7 => ?_)
    refine r_aload_n (pc' := 32) g dX8_readSeen_31 rfl rfl ?_
    refine r_get (pc' := 35) g dX8_readSeen_32 rfl fl_X8_12 lC_34 (eC_34 w _ _) rfl ?_
    refine r_sipush (pc' := 38) (v := 1010) g dX8_readSeen_35 rfl rfl ?_
    refine r_iload_n (pc' := 39) g dX8_readSeen_38 rfl rfl ?_
    refine r_iadd (pc' := 40) g dX8_readSeen_39 rfl ?_
    refine r_callVv (pc' := 43) (As := [.int (1010 + r1)]) (rest := []) g dX8_readSeen_40 rfl ml_X8_96 mw_X7_add mv_X7_add (Nat.le_of_ble_eq_true rfl) (c_X7_add _ w N (1010 + r1) M7) rfl lC_35 (eC_35 w _ _) rfl rfl (Nat.le_of_ble_eq_true rfl) (fun r8 M9 => ?_)
    exact r_vret g e3 dX8_readSeen_43
  refine r_cge (pc' := 15) (tgt := 26) g dX8_readSeen_12 rfl rfl ?_ ?_
  · skip
    exact r_weak (Ls2 (Ls2 (Ls2 (Ls2 Ls0)))) (hjn5 () M2)
  · skip
    refine r_aload_n (pc' := 16) g dX8_readSeen_15 rfl rfl ?_
    refine r_get (pc' := 19) g dX8_readSeen_16 rfl fl_X8_22 lC_34 (eC_34 w _ _) rfl ?_
    refine r_iload_n (pc' := 20) g dX8_readSeen_19 rfl rfl ?_
    refine r_ishr (pc' := 21) g dX8_readSeen_20 rfl ?_
    refine r_iconst (pc' := 22) (v := 1) g dX8_readSeen_21 rfl rfl ?_
    refine r_iand (pc' := 23) g dX8_readSeen_22 rfl ?_
    refine r_ifne (pc' := 26) (tgt := 31) g dX8_readSeen_23 rfl rfl ?_ ?_
    · skip
      refine r_aload_n (pc' := 32) g dX8_readSeen_31 rfl rfl ?_
      refine r_get (pc' := 35) g dX8_readSeen_32 rfl fl_X8_12 lC_34 (eC_34 w _ _) rfl ?_
      refine r_sipush (pc' := 38) (v := 1010) g dX8_readSeen_35 rfl rfl ?_
      refine r_iload_n (pc' := 39) g dX8_readSeen_38 rfl rfl ?_
      refine r_iadd (pc' := 40) g dX8_readSeen_39 rfl ?_
      refine r_callVv (pc' := 43) (As := [.int (1010 + r1)]) (rest := []) g dX8_readSeen_40 rfl ml_X8_96 mw_X7_add mv_X7_add (Nat.le_of_ble_eq_true rfl) (c_X7_add _ w N (1010 + r1) M2) rfl lC_35 (eC_35 w _ _) rfl rfl (Nat.le_of_ble_eq_true rfl) (fun r10 M11 => ?_)
      exact r_vret g e3 dX8_readSeen_43
    · skip
      exact r_weak (Ls2 (Ls2 (Ls2 (Ls2 Ls0)))) (hjn5 () M2)
def B_X8_readSum_8 (N : Nat) (c0 : Int32 → Mm → Rs) (c1 : Int32 → Mm → Rs) (c2 : Int32 → Mm → Rs) (p2 : Int32) (G : Unit → Mm → Rs) (rec : Int32 → Mm → Rs) (s : Int32) (M : Mm) : Rs :=
  if s < 40 then
      (bd (f_X9_peek N  M) fun r3 M4 =>
      (bd (f_X9_take N 43 M4) fun r5 M6 =>
      (lt' (fun (s7 : Unit) (M8 : Mm) =>
        ((bd (c1 p2 M8) fun r10 M11 =>
        (if r3 = 43 then
          (bd (f_X7_add N 1020 M11) fun r14 M15 =>
          (rec (s + 1) M15))
        else
          (bd (f_X7_add N 1021 M11) fun r12 M13 =>
          (rec (s + 1) M13)))) : Rs)) fun jn9 =>
      (if r5 = 0 then
        (bd (f_X9_take N 45 M6) fun r16 M17 =>
        (if r16 = 0 then
          (G () M17)
        else
          (jn9 () M17)))
      else
        (jn9 () M6)))))
    else
      (G () M)

def b_X8_readSum (N : Nat) (c0 : Int32 → Mm → Rs) (c1 : Int32 → Mm → Rs) (c2 : Int32 → Mm → Rs) (a2 : Int32) (M : Mm) : Rs :=
  bd (c1 a2 M) fun r1 M2 =>
  (itr (B_X8_readSum_8 N c0 c1 c2 a2 fun z18 M19 =>
  (some (0, M19))) N 0 M2)

set_option maxHeartbeats 4000000 in
set_option maxRecDepth 100000 in
theorem s_X8_readSum_8 {w : W0} {Z : Zx} {n : Nat} (g : Good KC w Z cX8_readSum RX8 (n + 1 + 2)) (e2 : Z.2.2.1 = 5) (e3 : Z.2.2.2 = none) (N : Nat) (c0 : Int32 → Mm → Rs) (c1 : Int32 → Mm → Rs) (c2 : Int32 → Mm → Rs) (h0 : ∀ (l : Launch) (a : Int32) (M : Mm), Ct l KC w (n + 2) yX8_readSum cX8_readSum 5 none [rf w 34, rf w 30, .int a] M (c0 a M)) (h1 : ∀ (l : Launch) (a : Int32) (M : Mm), Ct l KC w (n + 2) yX8_readProduct cX8_readProduct 4 none [rf w 34, rf w 30, .int a] M (c1 a M)) (h2 : ∀ (l : Launch) (a : Int32) (M : Mm), Ct l KC w (n + 2) yX8_readUnit cX8_readUnit 5 none [rf w 34, rf w 30, .int a] M (c2 a M)) (p2 : Int32) (G : Unit → Mm → Rs) (kG : ∀ (x : Unit) (M : Mm), Sim KC w Z 76 [.null, .null, .null, .null, .null] [] M (G x M)) : ∀ (n : Nat) (s : Int32) (M : Mm), Sim KC w Z 8 [rf w 34, rf w 30, .int p2, .int s, .null] [] M (itr (B_X8_readSum_8 N c0 c1 c2 p2 G) n s M) := by
  have n3 : 3 < Z.2.2.1 := by rw [e2]; decide
  have n4 : 4 < Z.2.2.1 := by rw [e2]; decide
  refine r_itr (Lf := fun (s : Int32) => [rf w 34, rf w 30, .int p2, .int s, .null]) (fun rec hr s M => ?_)
  unfold B_X8_readSum_8
  refine r_iload_n (pc' := 9) g dX8_readSum_8 rfl rfl ?_
  refine r_bipush (pc' := 11) (v := 40) g dX8_readSum_9 rfl rfl ?_
  refine r_cge (pc' := 14) (tgt := 76) g dX8_readSum_11 rfl rfl ?_ ?_
  · skip
    exact r_weak (Ls1 (Ls1 (Ls1 (Ls1 (Ls1 Ls0))))) (kG () M)
  · skip
    refine r_aload_n (pc' := 15) g dX8_readSum_14 rfl rfl ?_
    refine r_callVi (pc' := 18) (As := []) (rest := []) g dX8_readSum_15 rfl ml_X8_88 mw_X9_peek mv_X9_peek (by omega) (c_X9_peek _ w N  M) rfl lC_30 (eC_30 w _ _) rfl rfl (Nat.le_of_ble_eq_true rfl) (fun r3 M4 => ?_)
    refine r_istore (pc' := 20) (L' := [rf w 34, rf w 30, .int p2, .int s, .int r3]) g dX8_readSum_18 rfl n4 rfl rfl ?_
    refine r_aload_n (pc' := 21) g dX8_readSum_20 rfl rfl ?_
    refine r_bipush (pc' := 23) (v := 43) g dX8_readSum_21 rfl rfl ?_
    refine r_callVi (pc' := 26) (As := [.int 43]) (rest := []) g dX8_readSum_23 rfl ml_X8_92 mw_X9_take mv_X9_take (by omega) (c_X9_take _ w N 43 M4) rfl lC_30 (eC_30 w _ _) rfl rfl (Nat.le_of_ble_eq_true rfl) (fun r5 M6 => ?_)
    refine r_jn (pj := 41) (Lj := fun (s7 : Unit) => [rf w 34, rf w 30, .int p2, .int s, .int r3]) (stj := fun (s7 : Unit) => []) (fun s7 M8 => ?_) (fun jn9 hjn9 => ?_)
    · skip
      refine r_aload_n (pc' := 42) g dX8_readSum_41 rfl rfl ?_
      refine r_aload_n (pc' := 43) g dX8_readSum_42 rfl rfl ?_
      refine r_iload_n (pc' := 44) g dX8_readSum_43 rfl rfl ?_
      refine r_callVv (pc' := 47) (As := [rf w 30, .int p2]) (rest := []) g dX8_readSum_44 rfl ml_X8_85 mw_X8_readProduct mv_X8_readProduct (by omega) (h1 _ p2 M8) rfl lC_34 (eC_34 w _ _) rfl rfl (Nat.le_of_ble_eq_true rfl) (fun r10 M11 => ?_)
      refine r_aload_n (pc' := 48) g dX8_readSum_47 rfl rfl ?_
      refine r_get (pc' := 51) g dX8_readSum_48 rfl fl_X8_12 lC_34 (eC_34 w _ _) rfl ?_
      refine r_iload (pc' := 53) g dX8_readSum_51 rfl rfl ?_
      refine r_bipush (pc' := 55) (v := 43) g dX8_readSum_53 rfl rfl ?_
      refine r_cne (pc' := 58) (tgt := 64) g dX8_readSum_55 rfl rfl ?_ ?_
      · skip
        refine r_sipush (pc' := 67) (v := 1021) g dX8_readSum_64 rfl rfl ?_
        refine r_callVv (pc' := 70) (As := [.int 1021]) (rest := []) g dX8_readSum_67 rfl ml_X8_96 mw_X7_add mv_X7_add (by omega) (c_X7_add _ w N 1021 M11) rfl lC_35 (eC_35 w _ _) rfl rfl (Nat.le_of_ble_eq_true rfl) (fun r12 M13 => ?_)
        refine r_iinc (pc' := 73) (b := 1) (L' := [rf w 34, rf w 30, .int p2, .int (s + 1), .int r3]) g dX8_readSum_70 rfl rfl rfl n3 rfl rfl ?_
        refine r_goto (tgt := 8) g dX8_readSum_73 rfl ?_
        exact r_weak (Ls2 (Ls2 (Ls2 (Ls2 (Ls1 Ls0))))) (hr (s + 1) M13)
      · skip
        refine r_sipush (pc' := 61) (v := 1020) g dX8_readSum_58 rfl rfl ?_
        refine r_goto (tgt := 67) g dX8_readSum_61 rfl ?_
        refine r_callVv (pc' := 70) (As := [.int 1020]) (rest := []) g dX8_readSum_67 rfl ml_X8_96 mw_X7_add mv_X7_add (by omega) (c_X7_add _ w N 1020 M11) rfl lC_35 (eC_35 w _ _) rfl rfl (Nat.le_of_ble_eq_true rfl) (fun r14 M15 => ?_)
        refine r_iinc (pc' := 73) (b := 1) (L' := [rf w 34, rf w 30, .int p2, .int (s + 1), .int r3]) g dX8_readSum_70 rfl rfl rfl n3 rfl rfl ?_
        refine r_goto (tgt := 8) g dX8_readSum_73 rfl ?_
        exact r_weak (Ls2 (Ls2 (Ls2 (Ls2 (Ls1 Ls0))))) (hr (s + 1) M15)
    refine r_ifne (pc' := 29) (tgt := 41) g dX8_readSum_26 rfl rfl ?_ ?_
    · skip
      exact r_weak (Ls2 (Ls2 (Ls2 (Ls2 (Ls2 Ls0))))) (hjn9 () M6)
    · skip
      refine r_aload_n (pc' := 30) g dX8_readSum_29 rfl rfl ?_
      refine r_bipush (pc' := 32) (v := 45) g dX8_readSum_30 rfl rfl ?_
      refine r_callVi (pc' := 35) (As := [.int 45]) (rest := []) g dX8_readSum_32 rfl ml_X8_92 mw_X9_take mv_X9_take (by omega) (c_X9_take _ w N 45 M6) rfl lC_30 (eC_30 w _ _) rfl rfl (Nat.le_of_ble_eq_true rfl) (fun r16 M17 => ?_)
      refine r_ifne (pc' := 38) (tgt := 41) g dX8_readSum_35 rfl rfl ?_ ?_
      · skip
        exact r_weak (Ls2 (Ls2 (Ls2 (Ls2 (Ls2 Ls0))))) (hjn9 () M17)
      · skip
        refine r_goto (tgt := 76) g dX8_readSum_38 rfl ?_
        exact r_weak (Ls1 (Ls1 (Ls1 (Ls1 (Ls1 Ls0))))) (kG () M17)
set_option maxHeartbeats 4000000 in
set_option maxRecDepth 100000 in
theorem cb_X8_readSum (w : W0) (N n : Nat) (c0 : Int32 → Mm → Rs) (c1 : Int32 → Mm → Rs) (c2 : Int32 → Mm → Rs) (h0 : ∀ (l : Launch) (a : Int32) (M : Mm), Ct l KC w (n + 2) yX8_readSum cX8_readSum 5 none [rf w 34, rf w 30, .int a] M (c0 a M)) (h1 : ∀ (l : Launch) (a : Int32) (M : Mm), Ct l KC w (n + 2) yX8_readProduct cX8_readProduct 4 none [rf w 34, rf w 30, .int a] M (c1 a M)) (h2 : ∀ (l : Launch) (a : Int32) (M : Mm), Ct l KC w (n + 2) yX8_readUnit cX8_readUnit 5 none [rf w 34, rf w 30, .int a] M (c2 a M)) (l : Launch) (a : Int32) (M : Mm) : Ct l KC w (n + 1 + 2) yX8_readSum cX8_readSum 5 none [rf w 34, rf w 30, .int a] M (b_X8_readSum N c0 c1 c2 a M) := by
  refine ct_of [rf w 34, rf w 30, .int a, .null, .null] (by decide) (Nat.le_of_ble_eq_true rfl) rfl (fun Z e1 e2 e3 g => ?_)
  have g : Good KC w Z cX8_readSum RX8 (n + 1 + 2) := g
  unfold b_X8_readSum
  have n3 : 3 < Z.2.2.1 := by rw [e2]; decide
  refine r_aload_n (pc' := 1) g dX8_readSum_0 rfl rfl ?_
  refine r_aload_n (pc' := 2) g dX8_readSum_1 rfl rfl ?_
  refine r_iload_n (pc' := 3) g dX8_readSum_2 rfl rfl ?_
  refine r_callVv (pc' := 6) (As := [rf w 30, .int a]) (rest := []) g dX8_readSum_3 rfl ml_X8_85 mw_X8_readProduct mv_X8_readProduct (by omega) (h1 _ a M) rfl lC_34 (eC_34 w _ _) rfl rfl (Nat.le_of_ble_eq_true rfl) (fun r1 M2 => ?_)
  refine r_iconst (pc' := 7) (v := 0) g dX8_readSum_6 rfl rfl ?_
  refine r_istore_n (pc' := 8) (L' := [rf w 34, rf w 30, .int a, .int 0, .null]) g dX8_readSum_7 rfl n3 rfl rfl ?_
  refine r_weak (Ls2 (Ls2 (Ls2 (Ls2 (Ls1 Ls0))))) (s_X8_readSum_8 g e2 e3 N c0 c1 c2 h0 h1 h2 a _ (fun z18 M19 => ?_) N 0 M2)
  exact r_vret g e3 dX8_readSum_76
def B_X8_readProduct_8 (N : Nat) (c0 : Int32 → Mm → Rs) (c1 : Int32 → Mm → Rs) (c2 : Int32 → Mm → Rs) (p2 : Int32) (G : Unit → Mm → Rs) (rec : Int32 → Mm → Rs) (s : Int32) (M : Mm) : Rs :=
  if s < 40 then
      (bd (f_X9_take N 42 M) fun r3 M4 =>
      (if r3 = 0 then
        (G () M4)
      else
        (bd (c2 p2 M4) fun r5 M6 =>
        (bd (f_X7_add N 1022 M6) fun r7 M8 =>
        (rec (s + 1) M8)))))
    else
      (G () M)

def b_X8_readProduct (N : Nat) (c0 : Int32 → Mm → Rs) (c1 : Int32 → Mm → Rs) (c2 : Int32 → Mm → Rs) (a2 : Int32) (M : Mm) : Rs :=
  bd (c2 a2 M) fun r1 M2 =>
  (itr (B_X8_readProduct_8 N c0 c1 c2 a2 fun z9 M10 =>
  (some (0, M10))) N 0 M2)

set_option maxHeartbeats 4000000 in
set_option maxRecDepth 100000 in
theorem s_X8_readProduct_8 {w : W0} {Z : Zx} {n : Nat} (g : Good KC w Z cX8_readProduct RX8 (n + 1 + 2)) (e2 : Z.2.2.1 = 4) (e3 : Z.2.2.2 = none) (N : Nat) (c0 : Int32 → Mm → Rs) (c1 : Int32 → Mm → Rs) (c2 : Int32 → Mm → Rs) (h0 : ∀ (l : Launch) (a : Int32) (M : Mm), Ct l KC w (n + 2) yX8_readSum cX8_readSum 5 none [rf w 34, rf w 30, .int a] M (c0 a M)) (h1 : ∀ (l : Launch) (a : Int32) (M : Mm), Ct l KC w (n + 2) yX8_readProduct cX8_readProduct 4 none [rf w 34, rf w 30, .int a] M (c1 a M)) (h2 : ∀ (l : Launch) (a : Int32) (M : Mm), Ct l KC w (n + 2) yX8_readUnit cX8_readUnit 5 none [rf w 34, rf w 30, .int a] M (c2 a M)) (p2 : Int32) (G : Unit → Mm → Rs) (kG : ∀ (x : Unit) (M : Mm), Sim KC w Z 45 [.null, .null, .null, .null] [] M (G x M)) : ∀ (n : Nat) (s : Int32) (M : Mm), Sim KC w Z 8 [rf w 34, rf w 30, .int p2, .int s] [] M (itr (B_X8_readProduct_8 N c0 c1 c2 p2 G) n s M) := by
  have n3 : 3 < Z.2.2.1 := by rw [e2]; decide
  refine r_itr (Lf := fun (s : Int32) => [rf w 34, rf w 30, .int p2, .int s]) (fun rec hr s M => ?_)
  unfold B_X8_readProduct_8
  refine r_iload_n (pc' := 9) g dX8_readProduct_8 rfl rfl ?_
  refine r_bipush (pc' := 11) (v := 40) g dX8_readProduct_9 rfl rfl ?_
  refine r_cge (pc' := 14) (tgt := 45) g dX8_readProduct_11 rfl rfl ?_ ?_
  · skip
    exact r_weak (Ls1 (Ls1 (Ls1 (Ls1 Ls0)))) (kG () M)
  · skip
    refine r_aload_n (pc' := 15) g dX8_readProduct_14 rfl rfl ?_
    refine r_bipush (pc' := 17) (v := 42) g dX8_readProduct_15 rfl rfl ?_
    refine r_callVi (pc' := 20) (As := [.int 42]) (rest := []) g dX8_readProduct_17 rfl ml_X8_92 mw_X9_take mv_X9_take (by omega) (c_X9_take _ w N 42 M) rfl lC_30 (eC_30 w _ _) rfl rfl (Nat.le_of_ble_eq_true rfl) (fun r3 M4 => ?_)
    refine r_ifeq (pc' := 23) (tgt := 45) g dX8_readProduct_20 rfl rfl ?_ ?_
    · skip
      exact r_weak (Ls1 (Ls1 (Ls1 (Ls1 Ls0)))) (kG () M4)
    · skip
      refine r_aload_n (pc' := 24) g dX8_readProduct_23 rfl rfl ?_
      refine r_aload_n (pc' := 25) g dX8_readProduct_24 rfl rfl ?_
      refine r_iload_n (pc' := 26) g dX8_readProduct_25 rfl rfl ?_
      refine r_callVv (pc' := 29) (As := [rf w 30, .int p2]) (rest := []) g dX8_readProduct_26 rfl ml_X8_100 mw_X8_readUnit mv_X8_readUnit (by omega) (h2 _ p2 M4) rfl lC_34 (eC_34 w _ _) rfl rfl (Nat.le_of_ble_eq_true rfl) (fun r5 M6 => ?_)
      refine r_aload_n (pc' := 30) g dX8_readProduct_29 rfl rfl ?_
      refine r_get (pc' := 33) g dX8_readProduct_30 rfl fl_X8_12 lC_34 (eC_34 w _ _) rfl ?_
      refine r_sipush (pc' := 36) (v := 1022) g dX8_readProduct_33 rfl rfl ?_
      refine r_callVv (pc' := 39) (As := [.int 1022]) (rest := []) g dX8_readProduct_36 rfl ml_X8_96 mw_X7_add mv_X7_add (by omega) (c_X7_add _ w N 1022 M6) rfl lC_35 (eC_35 w _ _) rfl rfl (Nat.le_of_ble_eq_true rfl) (fun r7 M8 => ?_)
      refine r_iinc (pc' := 42) (b := 1) (L' := [rf w 34, rf w 30, .int p2, .int (s + 1)]) g dX8_readProduct_39 rfl rfl rfl n3 rfl rfl ?_
      refine r_goto (tgt := 8) g dX8_readProduct_42 rfl ?_
      exact r_weak (Ls2 (Ls2 (Ls2 (Ls2 Ls0)))) (hr (s + 1) M8)
set_option maxHeartbeats 4000000 in
set_option maxRecDepth 100000 in
theorem cb_X8_readProduct (w : W0) (N n : Nat) (c0 : Int32 → Mm → Rs) (c1 : Int32 → Mm → Rs) (c2 : Int32 → Mm → Rs) (h0 : ∀ (l : Launch) (a : Int32) (M : Mm), Ct l KC w (n + 2) yX8_readSum cX8_readSum 5 none [rf w 34, rf w 30, .int a] M (c0 a M)) (h1 : ∀ (l : Launch) (a : Int32) (M : Mm), Ct l KC w (n + 2) yX8_readProduct cX8_readProduct 4 none [rf w 34, rf w 30, .int a] M (c1 a M)) (h2 : ∀ (l : Launch) (a : Int32) (M : Mm), Ct l KC w (n + 2) yX8_readUnit cX8_readUnit 5 none [rf w 34, rf w 30, .int a] M (c2 a M)) (l : Launch) (a : Int32) (M : Mm) : Ct l KC w (n + 1 + 2) yX8_readProduct cX8_readProduct 4 none [rf w 34, rf w 30, .int a] M (b_X8_readProduct N c0 c1 c2 a M) := by
  refine ct_of [rf w 34, rf w 30, .int a, .null] (by decide) (Nat.le_of_ble_eq_true rfl) rfl (fun Z e1 e2 e3 g => ?_)
  have g : Good KC w Z cX8_readProduct RX8 (n + 1 + 2) := g
  unfold b_X8_readProduct
  have n3 : 3 < Z.2.2.1 := by rw [e2]; decide
  refine r_aload_n (pc' := 1) g dX8_readProduct_0 rfl rfl ?_
  refine r_aload_n (pc' := 2) g dX8_readProduct_1 rfl rfl ?_
  refine r_iload_n (pc' := 3) g dX8_readProduct_2 rfl rfl ?_
  refine r_callVv (pc' := 6) (As := [rf w 30, .int a]) (rest := []) g dX8_readProduct_3 rfl ml_X8_100 mw_X8_readUnit mv_X8_readUnit (by omega) (h2 _ a M) rfl lC_34 (eC_34 w _ _) rfl rfl (Nat.le_of_ble_eq_true rfl) (fun r1 M2 => ?_)
  refine r_iconst (pc' := 7) (v := 0) g dX8_readProduct_6 rfl rfl ?_
  refine r_istore_n (pc' := 8) (L' := [rf w 34, rf w 30, .int a, .int 0]) g dX8_readProduct_7 rfl n3 rfl rfl ?_
  refine r_weak (Ls2 (Ls2 (Ls2 (Ls2 Ls0)))) (s_X8_readProduct_8 g e2 e3 N c0 c1 c2 h0 h1 h2 a _ (fun z9 M10 => ?_) N 0 M2)
  exact r_vret g e3 dX8_readProduct_45
def b_X8_readUnit (N : Nat) (c0 : Int32 → Mm → Rs) (c1 : Int32 → Mm → Rs) (c2 : Int32 → Mm → Rs) (a2 : Int32) (M : Mm) : Rs :=
  bd (f_X9_atDigit N  M) fun r1 M2 =>
  (if r1 = 0 then
    (bd (f_X9_take N 120 M2) fun r3 M4 =>
    (if r3 = 0 then
      (bd (f_X9_take N 115 M4) fun r5 M6 =>
      (if r5 = 0 then
        (bd (f_X9_take N 40 M6) fun r7 M8 =>
        (if r7 = 0 then
          (bd (f_X9_fail N (M.1 30 2) M8) fun r9 M10 =>
          (some (0, M10)))
        else
          (if a2 < 4 then
            (bd (c0 (a2 + 1) M8) fun r13 M14 =>
            (bd (f_X9_take N 41 M14) fun r15 M16 =>
            (if r15 = 0 then
              (bd (f_X9_fail N (M16.1 30 2) M16) fun r17 M18 =>
              (some (0, M18)))
            else
              (some (0, M16)))))
          else
            (bd (f_X9_fail N (M.1 30 2) M8) fun r11 M12 =>
            (some (0, M12))))))
      else
        (bd (f_X8_readSeen N  M6) fun r19 M20 =>
        (some (0, M20)))))
    else
      (bd (f_X9_digit N  M4) fun r21 M22 =>
      (if r21 < 4 then
        (bd (f_X7_add N (1000 + r21) M22) fun r25 M26 =>
        (some (0, M26)))
      else
        (bd (f_X7_add N 0 M22) fun r23 M24 =>
        (some (0, M24)))))))
  else
    (bd (f_X8_readNumber N  M2) fun r27 M28 =>
    (some (0, M28))))

set_option maxHeartbeats 4000000 in
set_option maxRecDepth 100000 in
theorem cb_X8_readUnit (w : W0) (N n : Nat) (c0 : Int32 → Mm → Rs) (c1 : Int32 → Mm → Rs) (c2 : Int32 → Mm → Rs) (h0 : ∀ (l : Launch) (a : Int32) (M : Mm), Ct l KC w (n + 2) yX8_readSum cX8_readSum 5 none [rf w 34, rf w 30, .int a] M (c0 a M)) (h1 : ∀ (l : Launch) (a : Int32) (M : Mm), Ct l KC w (n + 2) yX8_readProduct cX8_readProduct 4 none [rf w 34, rf w 30, .int a] M (c1 a M)) (h2 : ∀ (l : Launch) (a : Int32) (M : Mm), Ct l KC w (n + 2) yX8_readUnit cX8_readUnit 5 none [rf w 34, rf w 30, .int a] M (c2 a M)) (l : Launch) (a : Int32) (M : Mm) : Ct l KC w (n + 1 + 2) yX8_readUnit cX8_readUnit 5 none [rf w 34, rf w 30, .int a] M (b_X8_readUnit N c0 c1 c2 a M) := by
  refine ct_of [rf w 34, rf w 30, .int a, .null, .null] (by decide) (Nat.le_of_ble_eq_true rfl) rfl (fun Z e1 e2 e3 g => ?_)
  have g : Good KC w Z cX8_readUnit RX8 (n + 1 + 2) := g
  unfold b_X8_readUnit
  have n3 : 3 < Z.2.2.1 := by rw [e2]; decide
  have n4 : 4 < Z.2.2.1 := by rw [e2]; decide
  refine r_aload_n (pc' := 1) g dX8_readUnit_0 rfl rfl ?_
  refine r_get (pc' := 4) g dX8_readUnit_1 rfl fl_X8_103 lC_30 (eC_30 w _ _) rfl ?_
  refine r_istore_n (pc' := 5) (L' := [rf w 34, rf w 30, .int a, .int (M.1 30 2), .null]) g dX8_readUnit_4 rfl n3 rfl rfl ?_
  refine r_aload_n (pc' := 6) g dX8_readUnit_5 rfl rfl ?_
  refine r_callVi (pc' := 9) (As := []) (rest := []) g dX8_readUnit_6 rfl ml_X8_106 mw_X9_atDigit mv_X9_atDigit (by omega) (c_X9_atDigit _ w N  M) rfl lC_30 (eC_30 w _ _) rfl rfl (Nat.le_of_ble_eq_true rfl) (fun r1 M2 => ?_)
  refine r_ifeq (pc' := 12) (tgt := 20) g dX8_readUnit_9 rfl rfl ?_ ?_
  · skip
    refine r_aload_n (pc' := 21) g dX8_readUnit_20 rfl rfl ?_
    refine r_bipush (pc' := 23) (v := 120) g dX8_readUnit_21 rfl rfl ?_
    refine r_callVi (pc' := 26) (As := [.int 120]) (rest := []) g dX8_readUnit_23 rfl ml_X8_92 mw_X9_take mv_X9_take (by omega) (c_X9_take _ w N 120 M2) rfl lC_30 (eC_30 w _ _) rfl rfl (Nat.le_of_ble_eq_true rfl) (fun r3 M4 => ?_)
    refine r_ifeq (pc' := 29) (tgt := 61) g dX8_readUnit_26 rfl rfl ?_ ?_
    · skip
      refine r_aload_n (pc' := 62) g dX8_readUnit_61 rfl rfl ?_
      refine r_bipush (pc' := 64) (v := 115) g dX8_readUnit_62 rfl rfl ?_
      refine r_callVi (pc' := 67) (As := [.int 115]) (rest := []) g dX8_readUnit_64 rfl ml_X8_92 mw_X9_take mv_X9_take (by omega) (c_X9_take _ w N 115 M4) rfl lC_30 (eC_30 w _ _) rfl rfl (Nat.le_of_ble_eq_true rfl) (fun r5 M6 => ?_)
      refine r_ifeq (pc' := 70) (tgt := 78) g dX8_readUnit_67 rfl rfl ?_ ?_
      · skip
        refine r_aload_n (pc' := 79) g dX8_readUnit_78 rfl rfl ?_
        refine r_bipush (pc' := 81) (v := 40) g dX8_readUnit_79 rfl rfl ?_
        refine r_callVi (pc' := 84) (As := [.int 40]) (rest := []) g dX8_readUnit_81 rfl ml_X8_92 mw_X9_take mv_X9_take (by omega) (c_X9_take _ w N 40 M6) rfl lC_30 (eC_30 w _ _) rfl rfl (Nat.le_of_ble_eq_true rfl) (fun r7 M8 => ?_)
        refine r_ifeq (pc' := 87) (tgt := 120) g dX8_readUnit_84 rfl rfl ?_ ?_
        · skip
          refine r_aload_n (pc' := 121) g dX8_readUnit_120 rfl rfl ?_
          refine r_iload_n (pc' := 122) g dX8_readUnit_121 rfl rfl ?_
          refine r_callVv (pc' := 125) (As := [.int (M.1 30 2)]) (rest := []) g dX8_readUnit_122 rfl ml_X8_120 mw_X9_fail mv_X9_fail (by omega) (c_X9_fail _ w N (M.1 30 2) M8) rfl lC_30 (eC_30 w _ _) rfl rfl (Nat.le_of_ble_eq_true rfl) (fun r9 M10 => ?_)
          exact r_vret g e3 dX8_readUnit_125
        · skip
          refine r_iload_n (pc' := 88) g dX8_readUnit_87 rfl rfl ?_
          refine r_iconst (pc' := 89) (v := 4) g dX8_readUnit_88 rfl rfl ?_
          refine r_cge (pc' := 92) (tgt := 120) g dX8_readUnit_89 rfl rfl ?_ ?_
          · skip
            refine r_aload_n (pc' := 121) g dX8_readUnit_120 rfl rfl ?_
            refine r_iload_n (pc' := 122) g dX8_readUnit_121 rfl rfl ?_
            refine r_callVv (pc' := 125) (As := [.int (M.1 30 2)]) (rest := []) g dX8_readUnit_122 rfl ml_X8_120 mw_X9_fail mv_X9_fail (by omega) (c_X9_fail _ w N (M.1 30 2) M8) rfl lC_30 (eC_30 w _ _) rfl rfl (Nat.le_of_ble_eq_true rfl) (fun r11 M12 => ?_)
            exact r_vret g e3 dX8_readUnit_125
          · skip
            refine r_aload_n (pc' := 93) g dX8_readUnit_92 rfl rfl ?_
            refine r_aload_n (pc' := 94) g dX8_readUnit_93 rfl rfl ?_
            refine r_iload_n (pc' := 95) g dX8_readUnit_94 rfl rfl ?_
            refine r_iconst (pc' := 96) (v := 1) g dX8_readUnit_95 rfl rfl ?_
            refine r_iadd (pc' := 97) g dX8_readUnit_96 rfl ?_
            refine r_callVv (pc' := 100) (As := [rf w 30, .int (a + 1)]) (rest := []) g dX8_readUnit_97 rfl ml_X8_74 mw_X8_readSum mv_X8_readSum (by omega) (h0 _ (a + 1) M8) rfl lC_34 (eC_34 w _ _) rfl rfl (Nat.le_of_ble_eq_true rfl) (fun r13 M14 => ?_)
            refine r_aload_n (pc' := 101) g dX8_readUnit_100 rfl rfl ?_
            refine r_bipush (pc' := 103) (v := 41) g dX8_readUnit_101 rfl rfl ?_
            refine r_callVi (pc' := 106) (As := [.int 41]) (rest := []) g dX8_readUnit_103 rfl ml_X8_92 mw_X9_take mv_X9_take (by omega) (c_X9_take _ w N 41 M14) rfl lC_30 (eC_30 w _ _) rfl rfl (Nat.le_of_ble_eq_true rfl) (fun r15 M16 => ?_)
            refine r_ifne (pc' := 109) (tgt := 125) g dX8_readUnit_106 rfl rfl ?_ ?_
            · skip
              exact r_vret g e3 dX8_readUnit_125
            · skip
              refine r_aload_n (pc' := 110) g dX8_readUnit_109 rfl rfl ?_
              refine r_aload_n (pc' := 111) g dX8_readUnit_110 rfl rfl ?_
              refine r_get (pc' := 114) g dX8_readUnit_111 rfl fl_X8_103 lC_30 (eC_30 w _ _) rfl ?_
              refine r_callVv (pc' := 117) (As := [.int (M16.1 30 2)]) (rest := []) g dX8_readUnit_114 rfl ml_X8_120 mw_X9_fail mv_X9_fail (by omega) (c_X9_fail _ w N (M16.1 30 2) M16) rfl lC_30 (eC_30 w _ _) rfl rfl (Nat.le_of_ble_eq_true rfl) (fun r17 M18 => ?_)
              refine r_goto (tgt := 125) g dX8_readUnit_117 rfl ?_
              exact r_vret g e3 dX8_readUnit_125
      · skip
        refine r_aload_n (pc' := 71) g dX8_readUnit_70 rfl rfl ?_
        refine r_aload_n (pc' := 72) g dX8_readUnit_71 rfl rfl ?_
        refine r_callVv (pc' := 75) (As := [rf w 30]) (rest := []) g dX8_readUnit_72 rfl ml_X8_117 mw_X8_readSeen mv_X8_readSeen (by omega) (c_X8_readSeen _ w N  M6) rfl lC_34 (eC_34 w _ _) rfl rfl (Nat.le_of_ble_eq_true rfl) (fun r19 M20 => ?_)
        refine r_goto (tgt := 125) g dX8_readUnit_75 rfl ?_
        exact r_vret g e3 dX8_readUnit_125
    · skip
      refine r_aload_n (pc' := 30) g dX8_readUnit_29 rfl rfl ?_
      refine r_callVi (pc' := 33) (As := []) (rest := []) g dX8_readUnit_30 rfl ml_X8_114 mw_X9_digit mv_X9_digit (by omega) (c_X9_digit _ w N  M4) rfl lC_30 (eC_30 w _ _) rfl rfl (Nat.le_of_ble_eq_true rfl) (fun r21 M22 => ?_)
      refine r_istore (pc' := 35) (L' := [rf w 34, rf w 30, .int a, .int (M.1 30 2), .int r21]) g dX8_readUnit_33 rfl n4 rfl rfl ?_
      refine r_aload_n (pc' := 36) g dX8_readUnit_35 rfl rfl ?_
      refine r_get (pc' := 39) g dX8_readUnit_36 rfl fl_X8_12 lC_34 (eC_34 w _ _) rfl ?_
      refine r_iload (pc' := 41) g dX8_readUnit_39 rfl rfl ?_
      refine r_iconst (pc' := 42) (v := 4) g dX8_readUnit_41 rfl rfl ?_
      refine r_cge (pc' := 45) (tgt := 54) g dX8_readUnit_42 rfl rfl ?_ ?_
      · skip
        refine r_iconst (pc' := 55) (v := 0) g dX8_readUnit_54 rfl rfl ?_
        refine r_callVv (pc' := 58) (As := [.int 0]) (rest := []) g dX8_readUnit_55 rfl ml_X8_96 mw_X7_add mv_X7_add (by omega) (c_X7_add _ w N 0 M22) rfl lC_35 (eC_35 w _ _) rfl rfl (Nat.le_of_ble_eq_true rfl) (fun r23 M24 => ?_)
        refine r_goto (tgt := 125) g dX8_readUnit_58 rfl ?_
        exact r_vret g e3 dX8_readUnit_125
      · skip
        refine r_sipush (pc' := 48) (v := 1000) g dX8_readUnit_45 rfl rfl ?_
        refine r_iload (pc' := 50) g dX8_readUnit_48 rfl rfl ?_
        refine r_iadd (pc' := 51) g dX8_readUnit_50 rfl ?_
        refine r_goto (tgt := 55) g dX8_readUnit_51 rfl ?_
        refine r_callVv (pc' := 58) (As := [.int (1000 + r21)]) (rest := []) g dX8_readUnit_55 rfl ml_X8_96 mw_X7_add mv_X7_add (by omega) (c_X7_add _ w N (1000 + r21) M22) rfl lC_35 (eC_35 w _ _) rfl rfl (Nat.le_of_ble_eq_true rfl) (fun r25 M26 => ?_)
        refine r_goto (tgt := 125) g dX8_readUnit_58 rfl ?_
        exact r_vret g e3 dX8_readUnit_125
  · skip
    refine r_aload_n (pc' := 13) g dX8_readUnit_12 rfl rfl ?_
    refine r_aload_n (pc' := 14) g dX8_readUnit_13 rfl rfl ?_
    refine r_callVv (pc' := 17) (As := [rf w 30]) (rest := []) g dX8_readUnit_14 rfl ml_X8_110 mw_X8_readNumber mv_X8_readNumber (by omega) (c_X8_readNumber _ w N  M2) rfl lC_34 (eC_34 w _ _) rfl rfl (Nat.le_of_ble_eq_true rfl) (fun r27 M28 => ?_)
    refine r_goto (tgt := 125) g dX8_readUnit_17 rfl ?_
    exact r_vret g e3 dX8_readUnit_125
def gr_rules (N : Nat) : Nat → (Int32 → Mm → Rs) × (Int32 → Mm → Rs) × (Int32 → Mm → Rs)
  | 0 => (fun _ _ => none, fun _ _ => none, fun _ _ => none)
  | n + 1 => (b_X8_readSum N (gr_rules N n).1 (gr_rules N n).2.1 (gr_rules N n).2.2, b_X8_readProduct N (gr_rules N n).1 (gr_rules N n).2.1 (gr_rules N n).2.2, b_X8_readUnit N (gr_rules N n).1 (gr_rules N n).2.1 (gr_rules N n).2.2)
theorem cg_rules (w : W0) (N : Nat) : ∀ n : Nat, (∀ (l : Launch) (a : Int32) (M : Mm), Ct l KC w (n + 2) yX8_readSum cX8_readSum 5 none [rf w 34, rf w 30, .int a] M ((gr_rules N n).1 a M)) ∧ (∀ (l : Launch) (a : Int32) (M : Mm), Ct l KC w (n + 2) yX8_readProduct cX8_readProduct 4 none [rf w 34, rf w 30, .int a] M ((gr_rules N n).2.1 a M)) ∧ (∀ (l : Launch) (a : Int32) (M : Mm), Ct l KC w (n + 2) yX8_readUnit cX8_readUnit 5 none [rf w 34, rf w 30, .int a] M ((gr_rules N n).2.2 a M)) := by
  intro n
  induction n with
  | zero => exact ⟨fun l a M r M' h => (by cases h), fun l a M r M' h => (by cases h), fun l a M r M' h => (by cases h)⟩
  | succ n ih => exact ⟨fun l a M => cb_X8_readSum w N n _ _ _ ih.1 ih.2.1 ih.2.2 l a M, fun l a M => cb_X8_readProduct w N n _ _ _ ih.1 ih.2.1 ih.2.2 l a M, fun l a M => cb_X8_readUnit w N n _ _ _ ih.1 ih.2.1 ih.2.2 l a M⟩
def f_X8_read (N : Nat) (a2 : Int32) (M : Mm) : Rs :=
  lt' (wI M 34 3 a2) fun M1 =>
  (lt' (wI M1 35 1 0) fun M2 =>
  (bd (f_X9_begin N  M2) fun r3 M4 =>
  (bd ((gr_rules N 20).1 0 M4) fun r5 M6 =>
  (bd (f_X9_end N  M6) fun r7 M8 =>
  (some (0, M8))))))

set_option maxHeartbeats 4000000 in
set_option maxRecDepth 100000 in
theorem c_X8_read (l : Launch) (w : W0) (N : Nat) (a2 : Int32) (M : Mm) : Ct l KC w 23 yX8_read cX8_read 3 none [rf w 34, rf w 30, .int a2] M (f_X8_read N a2 M) := by
  refine ct_of [rf w 34, rf w 30, .int a2] (by decide) (Nat.le_of_ble_eq_true rfl) rfl (fun Z e1 e2 e3 g => ?_)
  have g : Good KC w Z cX8_read RX8 23 := g
  unfold f_X8_read
  refine r_aload_n (pc' := 1) g dX8_read_0 rfl rfl ?_
  refine r_iload_n (pc' := 2) g dX8_read_1 rfl rfl ?_
  refine r_put (pc' := 5) g dX8_read_2 rfl fl_X8_22 rfl lC_34 (eC_34 w _ _) (Nat.le_of_ble_eq_true rfl) (sC_34_3 w _ _ _) ?_
  refine r_ltM (fun M1 => ?_)
  refine r_aload_n (pc' := 6) g dX8_read_5 rfl rfl ?_
  refine r_get (pc' := 9) g dX8_read_6 rfl fl_X8_12 lC_34 (eC_34 w _ _) rfl ?_
  refine r_iconst (pc' := 10) (v := 0) g dX8_read_9 rfl rfl ?_
  refine r_put (pc' := 13) g dX8_read_10 rfl fl_X8_66 rfl lC_35 (eC_35 w _ _) (Nat.le_of_ble_eq_true rfl) (sC_35_1 w _ _ _) ?_
  refine r_ltM (fun M2 => ?_)
  refine r_aload_n (pc' := 14) g dX8_read_13 rfl rfl ?_
  refine r_callVv (pc' := 17) (As := []) (rest := []) g dX8_read_14 rfl ml_X8_69 mw_X9_begin mv_X9_begin (Nat.le_of_ble_eq_true rfl) (c_X9_begin _ w N  M2) rfl lC_30 (eC_30 w _ _) rfl rfl (Nat.le_of_ble_eq_true rfl) (fun r3 M4 => ?_)
  refine r_aload_n (pc' := 18) g dX8_read_17 rfl rfl ?_
  refine r_aload_n (pc' := 19) g dX8_read_18 rfl rfl ?_
  refine r_iconst (pc' := 20) (v := 0) g dX8_read_19 rfl rfl ?_
  refine r_callVv (pc' := 23) (As := [rf w 30, .int 0]) (rest := []) g dX8_read_20 rfl ml_X8_74 mw_X8_readSum mv_X8_readSum (Nat.le_of_ble_eq_true rfl) ((cg_rules w N 20).1 _ 0 M4) rfl lC_34 (eC_34 w _ _) rfl rfl (Nat.le_of_ble_eq_true rfl) (fun r5 M6 => ?_)
  refine r_aload_n (pc' := 24) g dX8_read_23 rfl rfl ?_
  refine r_callVv (pc' := 27) (As := []) (rest := []) g dX8_read_24 rfl ml_X8_78 mw_X9_end mv_X9_end (Nat.le_of_ble_eq_true rfl) (c_X9_end _ w N  M6) rfl lC_30 (eC_30 w _ _) rfl rfl (Nat.le_of_ble_eq_true rfl) (fun r7 M8 => ?_)
  exact r_vret g e3 dX8_read_27
def f_X7_copy (N : Nat) (k : Nat) (k2 : Nat) (M : Mm) : Rs :=
  lt' (wR M (k + 1) (va_cpy (M.1 (k2 + 1)) (M.1 (k + 1)) 0 0 40)) fun M1 =>
  (lt' (wI M1 k 1 (M1.1 k2 1)) fun M2 =>
  (some (0, M2)))

set_option maxHeartbeats 4000000 in
set_option maxRecDepth 100000 in
theorem c_X7_copy (l : Launch) (w : W0) (N : Nat) (k : Nat) (k2 : Nat) (hk : isRl k = true) (hk2 : isRl k2 = true) (M : Mm) : Ct l KC w 1 yX7_copy cX7_copy 2 none [rf w k, rf w k2] M (f_X7_copy N k k2 M) := by
  refine ct_of [rf w k, rf w k2] (by decide) (Nat.le_of_ble_eq_true rfl) rfl (fun Z e1 e2 e3 g => ?_)
  have g : Good KC w Z cX7_copy RX7 1 := g
  unfold f_X7_copy
  refine r_aload_n (pc' := 1) g dX7_copy_0 rfl rfl ?_
  refine r_get (pc' := 4) g dX7_copy_1 rfl fl_X7_9 (lC_r hk2) (eC_r hk2 w _ _) rfl ?_
  refine r_iconst (pc' := 5) (v := 0) g dX7_copy_4 rfl rfl ?_
  refine r_aload_n (pc' := 6) g dX7_copy_5 rfl rfl ?_
  refine r_get (pc' := 9) g dX7_copy_6 rfl fl_X7_9 (lC_r hk) (eC_r hk w _ _) rfl ?_
  refine r_iconst (pc' := 10) (v := 0) g dX7_copy_9 rfl rfl ?_
  refine r_bipush (pc' := 12) (v := 40) g dX7_copy_10 rfl rfl ?_
  refine r_copy (pc' := 15) g dX7_copy_12 rfl ml_X7_19 ac_n ac_s ac_i (lC_p hk2) (lC_p hk) (eC_p hk2 w _ _) (fun m => eC_p hk w m _) rfl (Nat.le_of_ble_eq_true rfl) ?_
  refine r_ltM (fun M1 => ?_)
  refine r_aload_n (pc' := 16) g dX7_copy_15 rfl rfl ?_
  refine r_aload_n (pc' := 17) g dX7_copy_16 rfl rfl ?_
  refine r_get (pc' := 20) g dX7_copy_17 rfl fl_X7_15 (lC_r hk2) (eC_r hk2 w _ _) rfl ?_
  refine r_put (pc' := 23) g dX7_copy_20 rfl fl_X7_15 rfl (lC_r hk) (eC_r hk w _ _) (Nat.le_of_ble_eq_true rfl) (sC_r hk w _ _ _) ?_
  refine r_ltM (fun M2 => ?_)
  exact r_vret g e3 dX7_copy_23
def f_X8_keep (N : Nat) (a1 : Int32) (M : Mm) : Rs :=
  if inb a1 4 then
  (bd (f_X7_copy N (5 + 2 * ix a1) 35 M) fun r2 M3 =>
  (some (0, M3))) else none

set_option maxHeartbeats 4000000 in
set_option maxRecDepth 100000 in
theorem c_X8_keep (l : Launch) (w : W0) (N : Nat) (a1 : Int32) (M : Mm) : Ct l KC w 2 yX8_keep cX8_keep 2 none [rf w 34, .int a1] M (f_X8_keep N a1 M) := by
  refine ct_of [rf w 34, .int a1] (by decide) (Nat.le_of_ble_eq_true rfl) rfl (fun Z e1 e2 e3 g => ?_)
  have g : Good KC w Z cX8_keep RX8 2 := g
  unfold f_X8_keep
  refine r_aload_n (pc' := 1) g dX8_keep_0 rfl rfl ?_
  refine r_get (pc' := 4) g dX8_keep_1 rfl fl_X8_26 lC_34 (eC_34 w _ _) rfl ?_
  refine r_get (pc' := 7) g dX8_keep_4 rfl fl_X8_55 lC_1 (eC_1 w _ _) rfl ?_
  refine r_iload_n (pc' := 8) g dX8_keep_7 rfl rfl ?_
  refine r_aald (pc' := 9) g dX8_keep_8 rfl lC_4 (eC_4 w _ _) (fun q1 => ?_)
  refine r_aload_n (pc' := 10) g dX8_keep_9 rfl rfl ?_
  refine r_get (pc' := 13) g dX8_keep_10 rfl fl_X8_12 lC_34 (eC_34 w _ _) rfl ?_
  refine r_callVv (pc' := 16) (As := [rf w 35]) (rest := []) g dX8_keep_13 rfl ml_X8_81 mw_X7_copy mv_X7_copy (Nat.le_of_ble_eq_true rfl) (c_X7_copy _ w N (5 + 2 * ix a1) 35 (rl_t q1) rfl M) rfl (lC_r (rl_t q1)) (eC_r (rl_t q1) w _ _) rfl rfl (Nat.le_of_ble_eq_true rfl) (fun r2 M3 => ?_)
  exact r_vret g e3 dX8_keep_16
def f_X11_rule (N : Nat) (a1 : Int32) (a2 : Int32) (M : Mm) : Rs :=
  bd (f_X10_isHarbour N a1 M) fun r1 M2 =>
  (if r1 = 0 then
    (bd (f_X11_refuse N (-1) M2) fun r13 M14 =>
    (some (r13, M14)))
  else
    (if a2 < 0 then
      (bd (f_X11_refuse N (-4) M2) fun r11 M12 =>
      (some (r11, M12)))
    else
      (if 9 < a2 then
        (bd (f_X11_refuse N (-6) M2) fun r9 M10 =>
        (some (r9, M10)))
      else
        (bd (f_X10_seenBy N a2 M2) fun r3 M4 =>
        (bd (f_X8_read N r3 M4) fun r5 M6 =>
        (if (M6.1 30 3) < 0 then
          (bd (f_X8_keep N a1 M6) fun r7 M8 =>
          (some (1, M8)))
        else
          (some ((-20) - (M6.1 30 3), M6))))))))

set_option maxHeartbeats 4000000 in
set_option maxRecDepth 100000 in
theorem c_X11_rule (l : Launch) (w : W0) (N : Nat) (a1 : Int32) (a2 : Int32) (M : Mm) : Ct l KC w 24 yX11_rule cX11_rule 3 (some .int) [rf w 0, .int a1, .int a2] M (f_X11_rule N a1 a2 M) := by
  refine ct_of [rf w 0, .int a1, .int a2] (by decide) (Nat.le_of_ble_eq_true rfl) rfl (fun Z e1 e2 e3 g => ?_)
  have g : Good KC w Z cX11_rule RX11 24 := g
  unfold f_X11_rule
  refine r_aload_n (pc' := 1) g dX11_rule_0 rfl rfl ?_
  refine r_get (pc' := 4) g dX11_rule_1 rfl fl_X11_12 lC_0 (eC_0 w _ _) rfl ?_
  refine r_iload_n (pc' := 5) g dX11_rule_4 rfl rfl ?_
  refine r_callVi (pc' := 8) (As := [.int a1]) (rest := []) g dX11_rule_5 rfl ml_X11_84 mw_X10_isHarbour mv_X10_isHarbour (Nat.le_of_ble_eq_true rfl) (c_X10_isHarbour _ w N a1 M) rfl lC_1 (eC_1 w _ _) rfl rfl (Nat.le_of_ble_eq_true rfl) (fun r1 M2 => ?_)
  refine r_ifne (pc' := 11) (tgt := 17) g dX11_rule_8 rfl rfl ?_ ?_
  · skip
    refine r_iload_n (pc' := 18) g dX11_rule_17 rfl rfl ?_
    refine r_ifge (pc' := 21) (tgt := 28) g dX11_rule_18 rfl rfl ?_ ?_
    · skip
      refine r_iload_n (pc' := 29) g dX11_rule_28 rfl rfl ?_
      refine r_bipush (pc' := 31) (v := 9) g dX11_rule_29 rfl rfl ?_
      refine r_cle (pc' := 34) (tgt := 41) g dX11_rule_31 rfl rfl ?_ ?_
      · skip
        refine r_aload_n (pc' := 42) g dX11_rule_41 rfl rfl ?_
        refine r_get (pc' := 45) g dX11_rule_42 rfl fl_X11_53 lC_0 (eC_0 w _ _) rfl ?_
        refine r_aload_n (pc' := 46) g dX11_rule_45 rfl rfl ?_
        refine r_get (pc' := 49) g dX11_rule_46 rfl fl_X11_33 lC_0 (eC_0 w _ _) rfl ?_
        refine r_aload_n (pc' := 50) g dX11_rule_49 rfl rfl ?_
        refine r_get (pc' := 53) g dX11_rule_50 rfl fl_X11_12 lC_0 (eC_0 w _ _) rfl ?_
        refine r_iload_n (pc' := 54) g dX11_rule_53 rfl rfl ?_
        refine r_callVi (pc' := 57) (As := [.int a2]) (rest := [rf w 30, rf w 34]) g dX11_rule_54 rfl ml_X11_142 mw_X10_seenBy mv_X10_seenBy (Nat.le_of_ble_eq_true rfl) (c_X10_seenBy _ w N a2 M2) rfl lC_1 (eC_1 w _ _) rfl rfl (Nat.le_of_ble_eq_true rfl) (fun r3 M4 => ?_)
        refine r_callVv (pc' := 60) (As := [rf w 30, .int r3]) (rest := []) g dX11_rule_57 rfl ml_X11_145 mw_X8_read mv_X8_read (Nat.le_of_ble_eq_true rfl) (c_X8_read _ w N r3 M4) rfl lC_34 (eC_34 w _ _) rfl rfl (Nat.le_of_ble_eq_true rfl) (fun r5 M6 => ?_)
        refine r_aload_n (pc' := 61) g dX11_rule_60 rfl rfl ?_
        refine r_get (pc' := 64) g dX11_rule_61 rfl fl_X11_33 lC_0 (eC_0 w _ _) rfl ?_
        refine r_get (pc' := 67) g dX11_rule_64 rfl fl_X11_133 lC_30 (eC_30 w _ _) rfl ?_
        refine r_iflt (pc' := 70) (tgt := 81) g dX11_rule_67 rfl rfl ?_ ?_
        · skip
          refine r_aload_n (pc' := 82) g dX11_rule_81 rfl rfl ?_
          refine r_get (pc' := 85) g dX11_rule_82 rfl fl_X11_53 lC_0 (eC_0 w _ _) rfl ?_
          refine r_iload_n (pc' := 86) g dX11_rule_85 rfl rfl ?_
          refine r_callVv (pc' := 89) (As := [.int a1]) (rest := []) g dX11_rule_86 rfl ml_X11_149 mw_X8_keep mv_X8_keep (Nat.le_of_ble_eq_true rfl) (c_X8_keep _ w N a1 M6) rfl lC_34 (eC_34 w _ _) rfl rfl (Nat.le_of_ble_eq_true rfl) (fun r7 M8 => ?_)
          refine r_iconst (pc' := 90) (v := 1) g dX11_rule_89 rfl rfl ?_
          exact r_iret g e3 dX11_rule_90
        · skip
          refine r_bipush (pc' := 72) (v := -20) g dX11_rule_70 rfl rfl ?_
          refine r_aload_n (pc' := 73) g dX11_rule_72 rfl rfl ?_
          refine r_get (pc' := 76) g dX11_rule_73 rfl fl_X11_33 lC_0 (eC_0 w _ _) rfl ?_
          refine r_get (pc' := 79) g dX11_rule_76 rfl fl_X11_133 lC_30 (eC_30 w _ _) rfl ?_
          refine r_isub (pc' := 80) g dX11_rule_79 rfl ?_
          exact r_iret g e3 dX11_rule_80
      · skip
        refine r_aload_n (pc' := 35) g dX11_rule_34 rfl rfl ?_
        refine r_bipush (pc' := 37) (v := -6) g dX11_rule_35 rfl rfl ?_
        refine r_callVi (pc' := 40) (As := [.int (-6)]) (rest := []) g dX11_rule_37 rfl ml_X11_80 mw_X11_refuse mv_X11_refuse (Nat.le_of_ble_eq_true rfl) (c_X11_refuse _ w N (-6) M2) rfl lC_0 (eC_0 w _ _) rfl rfl (Nat.le_of_ble_eq_true rfl) (fun r9 M10 => ?_)
        exact r_iret g e3 dX11_rule_40
    · skip
      refine r_aload_n (pc' := 22) g dX11_rule_21 rfl rfl ?_
      refine r_bipush (pc' := 24) (v := -4) g dX11_rule_22 rfl rfl ?_
      refine r_callVi (pc' := 27) (As := [.int (-4)]) (rest := []) g dX11_rule_24 rfl ml_X11_80 mw_X11_refuse mv_X11_refuse (Nat.le_of_ble_eq_true rfl) (c_X11_refuse _ w N (-4) M2) rfl lC_0 (eC_0 w _ _) rfl rfl (Nat.le_of_ble_eq_true rfl) (fun r11 M12 => ?_)
      exact r_iret g e3 dX11_rule_27
  · skip
    refine r_aload_n (pc' := 12) g dX11_rule_11 rfl rfl ?_
    refine r_iconst (pc' := 13) (v := -1) g dX11_rule_12 rfl rfl ?_
    refine r_callVi (pc' := 16) (As := [.int (-1)]) (rest := []) g dX11_rule_13 rfl ml_X11_80 mw_X11_refuse mv_X11_refuse (Nat.le_of_ble_eq_true rfl) (c_X11_refuse _ w N (-1) M2) rfl lC_0 (eC_0 w _ _) rfl rfl (Nat.le_of_ble_eq_true rfl) (fun r13 M14 => ?_)
    exact r_iret g e3 dX11_rule_16
def f_X11_unrule (N : Nat) (a1 : Int32) (M : Mm) : Rs :=
  bd (f_X10_isHarbour N a1 M) fun r1 M2 =>
  (if r1 = 0 then
    (bd (f_X11_refuse N (-1) M2) fun r6 M7 =>
    (some (r6, M7)))
  else
    (if inb a1 4 then
    (if (M2.1 (5 + 2 * ix a1) 1) = 0 then
      (some (0, M2))
    else
      (if inb a1 4 then
      (lt' (wI M2 (5 + 2 * ix a1) 1 0) fun M5 =>
      (some (1, M5))) else none)) else none))

set_option maxHeartbeats 4000000 in
set_option maxRecDepth 100000 in
theorem c_X11_unrule (l : Launch) (w : W0) (N : Nat) (a1 : Int32) (M : Mm) : Ct l KC w 1 yX11_unrule cX11_unrule 2 (some .int) [rf w 0, .int a1] M (f_X11_unrule N a1 M) := by
  refine ct_of [rf w 0, .int a1] (by decide) (Nat.le_of_ble_eq_true rfl) rfl (fun Z e1 e2 e3 g => ?_)
  have g : Good KC w Z cX11_unrule RX11 1 := g
  unfold f_X11_unrule
  refine r_aload_n (pc' := 1) g dX11_unrule_0 rfl rfl ?_
  refine r_get (pc' := 4) g dX11_unrule_1 rfl fl_X11_12 lC_0 (eC_0 w _ _) rfl ?_
  refine r_iload_n (pc' := 5) g dX11_unrule_4 rfl rfl ?_
  refine r_callVi (pc' := 8) (As := [.int a1]) (rest := []) g dX11_unrule_5 rfl ml_X11_84 mw_X10_isHarbour mv_X10_isHarbour (Nat.le_of_ble_eq_true rfl) (c_X10_isHarbour _ w N a1 M) rfl lC_1 (eC_1 w _ _) rfl rfl (Nat.le_of_ble_eq_true rfl) (fun r1 M2 => ?_)
  refine r_ifne (pc' := 11) (tgt := 17) g dX11_unrule_8 rfl rfl ?_ ?_
  · skip
    refine r_aload_n (pc' := 18) g dX11_unrule_17 rfl rfl ?_
    refine r_get (pc' := 21) g dX11_unrule_18 rfl fl_X11_12 lC_0 (eC_0 w _ _) rfl ?_
    refine r_get (pc' := 24) g dX11_unrule_21 rfl fl_X11_153 lC_1 (eC_1 w _ _) rfl ?_
    refine r_iload_n (pc' := 25) g dX11_unrule_24 rfl rfl ?_
    refine r_aald (pc' := 26) g dX11_unrule_25 rfl lC_4 (eC_4 w _ _) (fun q3 => ?_)
    refine r_get (pc' := 29) g dX11_unrule_26 rfl fl_X11_156 (lC_r (rl_t q3)) (eC_r (rl_t q3) w _ _) rfl ?_
    refine r_ifne (pc' := 32) (tgt := 34) g dX11_unrule_29 rfl rfl ?_ ?_
    · skip
      refine r_aload_n (pc' := 35) g dX11_unrule_34 rfl rfl ?_
      refine r_get (pc' := 38) g dX11_unrule_35 rfl fl_X11_12 lC_0 (eC_0 w _ _) rfl ?_
      refine r_get (pc' := 41) g dX11_unrule_38 rfl fl_X11_153 lC_1 (eC_1 w _ _) rfl ?_
      refine r_iload_n (pc' := 42) g dX11_unrule_41 rfl rfl ?_
      refine r_aald (pc' := 43) g dX11_unrule_42 rfl lC_4 (eC_4 w _ _) (fun q4 => ?_)
      refine r_iconst (pc' := 44) (v := 0) g dX11_unrule_43 rfl rfl ?_
      refine r_put (pc' := 47) g dX11_unrule_44 rfl fl_X11_156 rfl (lC_r (rl_t q4)) (eC_r (rl_t q4) w _ _) (Nat.le_of_ble_eq_true rfl) (sC_r (rl_t q4) w _ _ _) ?_
      refine r_ltM (fun M5 => ?_)
      refine r_iconst (pc' := 48) (v := 1) g dX11_unrule_47 rfl rfl ?_
      exact r_iret g e3 dX11_unrule_48
    · skip
      refine r_iconst (pc' := 33) (v := 0) g dX11_unrule_32 rfl rfl ?_
      exact r_iret g e3 dX11_unrule_33
  · skip
    refine r_aload_n (pc' := 12) g dX11_unrule_11 rfl rfl ?_
    refine r_iconst (pc' := 13) (v := -1) g dX11_unrule_12 rfl rfl ?_
    refine r_callVi (pc' := 16) (As := [.int (-1)]) (rest := []) g dX11_unrule_13 rfl ml_X11_80 mw_X11_refuse mv_X11_refuse (Nat.le_of_ble_eq_true rfl) (c_X11_refuse _ w N (-1) M2) rfl lC_0 (eC_0 w _ _) rfl rfl (Nat.le_of_ble_eq_true rfl) (fun r6 M7 => ?_)
    exact r_iret g e3 dX11_unrule_16
def f_X10_isWorld (N : Nat) (a1 : Int32) (M : Mm) : Rs :=
  if a1 < 0 then
    (some (0, M))
  else
    (if a1 < 16 then
      (if (a1 &&& ((M.1 1 0) ^^^ (-1))) = 0 then
        (some (1, M))
      else
        (some (0, M)))
    else
      (some (0, M)))

set_option maxHeartbeats 4000000 in
set_option maxRecDepth 100000 in
theorem c_X10_isWorld (l : Launch) (w : W0) (N : Nat) (a1 : Int32) (M : Mm) : Ct l KC w 0 yX10_isWorld cX10_isWorld 2 (some .boolean) [rf w 1, .int a1] M (f_X10_isWorld N a1 M) := by
  refine ct_of [rf w 1, .int a1] (by decide) (Nat.le_of_ble_eq_true rfl) rfl (fun Z e1 e2 e3 g => ?_)
  have g : Good KC w Z cX10_isWorld RX10 0 := g
  unfold f_X10_isWorld
  refine r_iload_n (pc' := 1) g dX10_isWorld_0 rfl rfl ?_
  refine r_iflt (pc' := 4) (tgt := 25) g dX10_isWorld_1 rfl rfl ?_ ?_
  · skip
    refine r_iconst (pc' := 26) (v := 0) g dX10_isWorld_25 rfl rfl ?_
    exact r_zretc g e3 rfl dX10_isWorld_26
  · skip
    refine r_iload_n (pc' := 5) g dX10_isWorld_4 rfl rfl ?_
    refine r_bipush (pc' := 7) (v := 16) g dX10_isWorld_5 rfl rfl ?_
    refine r_cge (pc' := 10) (tgt := 25) g dX10_isWorld_7 rfl rfl ?_ ?_
    · skip
      refine r_iconst (pc' := 26) (v := 0) g dX10_isWorld_25 rfl rfl ?_
      exact r_zretc g e3 rfl dX10_isWorld_26
    · skip
      refine r_iload_n (pc' := 11) g dX10_isWorld_10 rfl rfl ?_
      refine r_aload_n (pc' := 12) g dX10_isWorld_11 rfl rfl ?_
      refine r_get (pc' := 15) g dX10_isWorld_12 rfl fl_X10_9 lC_1 (eC_1 w _ _) rfl ?_
      refine r_iconst (pc' := 16) (v := -1) g dX10_isWorld_15 rfl rfl ?_
      refine r_ixor (pc' := 17) g dX10_isWorld_16 rfl ?_
      refine r_iand (pc' := 18) g dX10_isWorld_17 rfl ?_
      refine r_ifne (pc' := 21) (tgt := 25) g dX10_isWorld_18 rfl rfl ?_ ?_
      · skip
        refine r_iconst (pc' := 26) (v := 0) g dX10_isWorld_25 rfl rfl ?_
        exact r_zretc g e3 rfl dX10_isWorld_26
      · skip
        refine r_iconst (pc' := 22) (v := 1) g dX10_isWorld_21 rfl rfl ?_
        refine r_goto (tgt := 26) g dX10_isWorld_22 rfl ?_
        exact r_zretc g e3 rfl dX10_isWorld_26
def B_X10_worldsWith_4 (N : Nat) (p1 : Int32) (G : Int32 → Mm → Rs) (rec : (Int32 × Int32) → Mm → Rs) (s : Int32 × Int32) (M : Mm) : Rs :=
  if s.2 < 16 then
      (bd (f_X10_isWorld N s.2 M) fun r1 M2 =>
      (if r1 = 0 then
        (rec (s.1, s.2 + 1) M2)
      else
        (bd (f_J6_bitCount_0f7a4 N s.2 M2) fun r3 M4 =>
        (if p1 < r3 then
          (rec (s.1, s.2 + 1) M4)
        else
          (lt' (s.1 ||| (1 <<< (s.2 &&& 31))) fun x5 =>
          (rec (x5, s.2 + 1) M4))))))
    else
      (G s.1 M)

def B_X10_worldsWith_40 (N : Nat) (G : Int32 → Mm → Rs) (rec : (Int32 × Int32) → Mm → Rs) (s : Int32 × Int32) (M : Mm) : Rs :=
  if s.2 < (M.1 1 2) then
      (if (((M.1 1 3) >>> (s.2 &&& 31)) &&& 1) = 1 then
        (if inb s.2 12 then
        (lt' (s.1 &&& (M.1 3 (ix s.2))) fun x8 =>
        (rec (x8, s.2 + 1) M)) else none)
      else
        (rec (s.1, s.2 + 1) M))
    else
      (G s.1 M)

def f_X10_worldsWith (N : Nat) (a1 : Int32) (M : Mm) : Rs :=
  itr (B_X10_worldsWith_4 N a1 fun z6 M7 =>
  (itr (B_X10_worldsWith_40 N fun z9 M10 =>
  (some (z9, M10))) N (z6, 0) M7)) N (0, 0) M

set_option maxHeartbeats 4000000 in
set_option maxRecDepth 100000 in
theorem s_X10_worldsWith_4 {w : W0} {Z : Zx} (g : Good KC w Z cX10_worldsWith RX10 1) (e2 : Z.2.2.1 = 4) (e3 : Z.2.2.2 = (some .int)) (N : Nat) (p1 : Int32) (G : Int32 → Mm → Rs) (kG : ∀ (x : Int32) (M : Mm), Sim KC w Z 38 [rf w 1, .null, .int x, .null] [] M (G x M)) : ∀ (n : Nat) (s : Int32 × Int32) (M : Mm), Sim KC w Z 4 [rf w 1, .int p1, .int s.1, .int s.2] [] M (itr (B_X10_worldsWith_4 N p1 G) n s M) := by
  have n2 : 2 < Z.2.2.1 := by rw [e2]; decide
  have n3 : 3 < Z.2.2.1 := by rw [e2]; decide
  refine r_itr (Lf := fun (s : Int32 × Int32) => [rf w 1, .int p1, .int s.1, .int s.2]) (fun rec hr s M => ?_)
  unfold B_X10_worldsWith_4
  refine r_iload_n (pc' := 5) g dX10_worldsWith_4 rfl rfl ?_
  refine r_bipush (pc' := 7) (v := 16) g dX10_worldsWith_5 rfl rfl ?_
  refine r_cge (pc' := 10) (tgt := 38) g dX10_worldsWith_7 rfl rfl ?_ ?_
  · skip
    exact r_weak (Ls2 (Ls1 (Ls2 (Ls1 Ls0)))) (kG s.1 M)
  · skip
    refine r_aload_n (pc' := 11) g dX10_worldsWith_10 rfl rfl ?_
    refine r_iload_n (pc' := 12) g dX10_worldsWith_11 rfl rfl ?_
    refine r_callVi (pc' := 15) (As := [.int s.2]) (rest := []) g dX10_worldsWith_12 rfl ml_X10_51 mw_X10_isWorld mv_X10_isWorld (Nat.le_of_ble_eq_true rfl) (c_X10_isWorld _ w N s.2 M) rfl lC_1 (eC_1 w _ _) rfl rfl (Nat.le_of_ble_eq_true rfl) (fun r1 M2 => ?_)
    refine r_ifeq (pc' := 18) (tgt := 32) g dX10_worldsWith_15 rfl rfl ?_ ?_
    · skip
      refine r_iinc (pc' := 35) (b := 1) (L' := [rf w 1, .int p1, .int s.1, .int (s.2 + 1)]) g dX10_worldsWith_32 rfl rfl rfl n3 rfl rfl ?_
      refine r_goto (tgt := 4) g dX10_worldsWith_35 rfl ?_
      exact r_weak (Ls2 (Ls2 (Ls2 (Ls2 Ls0)))) (hr (s.1, s.2 + 1) M2)
    · skip
      refine r_iload_n (pc' := 19) g dX10_worldsWith_18 rfl rfl ?_
      refine r_callSi (pc' := 22) (As := [.int s.2]) (rest := []) g dX10_worldsWith_19 rfl ml_X10_55 mw_J6_bitCount_0f7a4 ms_J6_bitCount_0f7a4 (Nat.le_of_ble_eq_true rfl) (c_J6_bitCount_0f7a4 _ w N s.2 M2) rfl rfl (Nat.le_of_ble_eq_true rfl) (fun r3 M4 => ?_)
      refine r_iload_n (pc' := 23) g dX10_worldsWith_22 rfl rfl ?_
      refine r_cgt (pc' := 26) (tgt := 32) g dX10_worldsWith_23 rfl rfl ?_ ?_
      · skip
        refine r_iinc (pc' := 35) (b := 1) (L' := [rf w 1, .int p1, .int s.1, .int (s.2 + 1)]) g dX10_worldsWith_32 rfl rfl rfl n3 rfl rfl ?_
        refine r_goto (tgt := 4) g dX10_worldsWith_35 rfl ?_
        exact r_weak (Ls2 (Ls2 (Ls2 (Ls2 Ls0)))) (hr (s.1, s.2 + 1) M4)
      · skip
        refine r_iload_n (pc' := 27) g dX10_worldsWith_26 rfl rfl ?_
        refine r_iconst (pc' := 28) (v := 1) g dX10_worldsWith_27 rfl rfl ?_
        refine r_iload_n (pc' := 29) g dX10_worldsWith_28 rfl rfl ?_
        refine r_ishl (pc' := 30) g dX10_worldsWith_29 rfl ?_
        refine r_ior (pc' := 31) g dX10_worldsWith_30 rfl ?_
        refine r_ltI (fun x5 => ?_)
        refine r_istore_n (pc' := 32) (L' := [rf w 1, .int p1, .int x5, .int s.2]) g dX10_worldsWith_31 rfl n2 rfl rfl ?_
        refine r_iinc (pc' := 35) (b := 1) (L' := [rf w 1, .int p1, .int x5, .int (s.2 + 1)]) g dX10_worldsWith_32 rfl rfl rfl n3 rfl rfl ?_
        refine r_goto (tgt := 4) g dX10_worldsWith_35 rfl ?_
        exact r_weak (Ls2 (Ls2 (Ls2 (Ls2 Ls0)))) (hr (x5, s.2 + 1) M4)
set_option maxHeartbeats 4000000 in
set_option maxRecDepth 100000 in
theorem s_X10_worldsWith_40 {w : W0} {Z : Zx} (g : Good KC w Z cX10_worldsWith RX10 1) (e2 : Z.2.2.1 = 4) (e3 : Z.2.2.2 = (some .int)) (N : Nat) (G : Int32 → Mm → Rs) (kG : ∀ (x : Int32) (M : Mm), Sim KC w Z 75 [.null, .null, .int x, .null] [] M (G x M)) : ∀ (n : Nat) (s : Int32 × Int32) (M : Mm), Sim KC w Z 40 [rf w 1, .null, .int s.1, .int s.2] [] M (itr (B_X10_worldsWith_40 N G) n s M) := by
  have n2 : 2 < Z.2.2.1 := by rw [e2]; decide
  have n3 : 3 < Z.2.2.1 := by rw [e2]; decide
  refine r_itr (Lf := fun (s : Int32 × Int32) => [rf w 1, .null, .int s.1, .int s.2]) (fun rec hr s M => ?_)
  unfold B_X10_worldsWith_40
  refine r_iload_n (pc' := 41) g dX10_worldsWith_40 rfl rfl ?_
  refine r_aload_n (pc' := 42) g dX10_worldsWith_41 rfl rfl ?_
  refine r_get (pc' := 45) g dX10_worldsWith_42 rfl fl_X10_19 lC_1 (eC_1 w _ _) rfl ?_
  refine r_cge (pc' := 48) (tgt := 75) g dX10_worldsWith_45 rfl rfl ?_ ?_
  · skip
    exact r_weak (Ls1 (Ls1 (Ls2 (Ls1 Ls0)))) (kG s.1 M)
  · skip
    refine r_aload_n (pc' := 49) g dX10_worldsWith_48 rfl rfl ?_
    refine r_get (pc' := 52) g dX10_worldsWith_49 rfl fl_X10_22 lC_1 (eC_1 w _ _) rfl ?_
    refine r_iload_n (pc' := 53) g dX10_worldsWith_52 rfl rfl ?_
    refine r_ishr (pc' := 54) g dX10_worldsWith_53 rfl ?_
    refine r_iconst (pc' := 55) (v := 1) g dX10_worldsWith_54 rfl rfl ?_
    refine r_iand (pc' := 56) g dX10_worldsWith_55 rfl ?_
    refine r_iconst (pc' := 57) (v := 1) g dX10_worldsWith_56 rfl rfl ?_
    refine r_cne (pc' := 60) (tgt := 69) g dX10_worldsWith_57 rfl rfl ?_ ?_
    · skip
      refine r_iinc (pc' := 72) (b := 1) (L' := [rf w 1, .null, .int s.1, .int (s.2 + 1)]) g dX10_worldsWith_69 rfl rfl rfl n3 rfl rfl ?_
      refine r_goto (tgt := 40) g dX10_worldsWith_72 rfl ?_
      exact r_weak (Ls2 (Ls1 (Ls2 (Ls2 Ls0)))) (hr (s.1, s.2 + 1) M)
    · skip
      refine r_iload_n (pc' := 61) g dX10_worldsWith_60 rfl rfl ?_
      refine r_aload_n (pc' := 62) g dX10_worldsWith_61 rfl rfl ?_
      refine r_get (pc' := 65) g dX10_worldsWith_62 rfl fl_X10_25 lC_1 (eC_1 w _ _) rfl ?_
      refine r_iload_n (pc' := 66) g dX10_worldsWith_65 rfl rfl ?_
      refine r_iald (pc' := 67) g dX10_worldsWith_66 rfl lC_3 (eC_3 w _ _) ?_
      refine r_iand (pc' := 68) g dX10_worldsWith_67 rfl ?_
      refine r_ltI (fun x8 => ?_)
      refine r_istore_n (pc' := 69) (L' := [rf w 1, .null, .int x8, .int s.2]) g dX10_worldsWith_68 rfl n2 rfl rfl ?_
      refine r_iinc (pc' := 72) (b := 1) (L' := [rf w 1, .null, .int x8, .int (s.2 + 1)]) g dX10_worldsWith_69 rfl rfl rfl n3 rfl rfl ?_
      refine r_goto (tgt := 40) g dX10_worldsWith_72 rfl ?_
      exact r_weak (Ls2 (Ls1 (Ls2 (Ls2 Ls0)))) (hr (x8, s.2 + 1) M)
set_option maxHeartbeats 4000000 in
set_option maxRecDepth 100000 in
theorem c_X10_worldsWith (l : Launch) (w : W0) (N : Nat) (a1 : Int32) (M : Mm) : Ct l KC w 1 yX10_worldsWith cX10_worldsWith 4 (some .int) [rf w 1, .int a1] M (f_X10_worldsWith N a1 M) := by
  refine ct_of [rf w 1, .int a1, .null, .null] (by decide) (Nat.le_of_ble_eq_true rfl) rfl (fun Z e1 e2 e3 g => ?_)
  have g : Good KC w Z cX10_worldsWith RX10 1 := g
  unfold f_X10_worldsWith
  have n2 : 2 < Z.2.2.1 := by rw [e2]; decide
  have n3 : 3 < Z.2.2.1 := by rw [e2]; decide
  refine r_iconst (pc' := 1) (v := 0) g dX10_worldsWith_0 rfl rfl ?_
  refine r_istore_n (pc' := 2) (L' := [rf w 1, .int a1, .int 0, .null]) g dX10_worldsWith_1 rfl n2 rfl rfl ?_
  refine r_iconst (pc' := 3) (v := 0) g dX10_worldsWith_2 rfl rfl ?_
  refine r_istore_n (pc' := 4) (L' := [rf w 1, .int a1, .int 0, .int 0]) g dX10_worldsWith_3 rfl n3 rfl rfl ?_
  refine r_weak (Ls2 (Ls2 (Ls2 (Ls2 Ls0)))) (s_X10_worldsWith_4 g e2 e3 N a1 _ (fun z6 M7 => ?_) N (0, 0) M)
  refine r_iconst (pc' := 39) (v := 0) g dX10_worldsWith_38 rfl rfl ?_
  refine r_istore_n (pc' := 40) (L' := [rf w 1, .null, .int z6, .int 0]) g dX10_worldsWith_39 rfl n3 rfl rfl ?_
  refine r_weak (Ls2 (Ls1 (Ls2 (Ls2 Ls0)))) (s_X10_worldsWith_40 g e2 e3 N _ (fun z9 M10 => ?_) N (z6, 0) M7)
  refine r_iload_n (pc' := 76) g dX10_worldsWith_75 rfl rfl ?_
  exact r_iret g e3 dX10_worldsWith_76
def f_X11_theSet (N : Nat) (M : Mm) : Rs :=
  bd (f_X10_worldsWith N (M.1 2 (ix 42)) M) fun r1 M2 =>
  (some (r1, M2))

set_option maxHeartbeats 4000000 in
set_option maxRecDepth 100000 in
theorem c_X11_theSet (l : Launch) (w : W0) (N : Nat) (M : Mm) : Ct l KC w 2 yX11_theSet cX11_theSet 1 (some .int) [rf w 0] M (f_X11_theSet N M) := by
  refine ct_of [rf w 0] (by decide) (Nat.le_of_ble_eq_true rfl) rfl (fun Z e1 e2 e3 g => ?_)
  have g : Good KC w Z cX11_theSet RX11 2 := g
  unfold f_X11_theSet
  refine r_aload_n (pc' := 1) g dX11_theSet_0 rfl rfl ?_
  refine r_get (pc' := 4) g dX11_theSet_1 rfl fl_X11_12 lC_0 (eC_0 w _ _) rfl ?_
  refine r_aload_n (pc' := 5) g dX11_theSet_4 rfl rfl ?_
  refine r_get (pc' := 8) g dX11_theSet_5 rfl fl_X11_12 lC_0 (eC_0 w _ _) rfl ?_
  refine r_get (pc' := 11) g dX11_theSet_8 rfl fl_X11_110 lC_1 (eC_1 w _ _) rfl ?_
  refine r_bipush (pc' := 13) (v := 42) g dX11_theSet_11 rfl rfl ?_
  refine r_ialdc (pc' := 14) g dX11_theSet_13 rfl lC_2 (eC_2 w _ _) rfl ?_
  refine r_callVi (pc' := 17) (As := [.int (M.1 2 (ix 42))]) (rest := []) g dX11_theSet_14 rfl ml_X11_212 mw_X10_worldsWith mv_X10_worldsWith (Nat.le_of_ble_eq_true rfl) (c_X10_worldsWith _ w N (M.1 2 (ix 42)) M) rfl lC_1 (eC_1 w _ _) rfl rfl (Nat.le_of_ble_eq_true rfl) (fun r1 M2 => ?_)
  exact r_iret g e3 dX11_theSet_17
def f_X11_inSet (N : Nat) (a1 : Int32) (M : Mm) : Rs :=
  if a1 < 0 then
    (bd (f_X11_refuse N (-1) M) fun r1 M2 =>
    (some (r1, M2)))
  else
    (if a1 < 16 then
      (bd (f_X11_theSet N  M) fun r3 M4 =>
      (some ((r3 >>> (a1 &&& 31)) &&& 1, M4)))
    else
      (bd (f_X11_refuse N (-1) M) fun r5 M6 =>
      (some (r5, M6))))

set_option maxHeartbeats 4000000 in
set_option maxRecDepth 100000 in
theorem c_X11_inSet (l : Launch) (w : W0) (N : Nat) (a1 : Int32) (M : Mm) : Ct l KC w 3 yX11_inSet cX11_inSet 2 (some .int) [rf w 0, .int a1] M (f_X11_inSet N a1 M) := by
  refine ct_of [rf w 0, .int a1] (by decide) (Nat.le_of_ble_eq_true rfl) rfl (fun Z e1 e2 e3 g => ?_)
  have g : Good KC w Z cX11_inSet RX11 3 := g
  unfold f_X11_inSet
  refine r_iload_n (pc' := 1) g dX11_inSet_0 rfl rfl ?_
  refine r_iflt (pc' := 4) (tgt := 10) g dX11_inSet_1 rfl rfl ?_ ?_
  · skip
    refine r_aload_n (pc' := 11) g dX11_inSet_10 rfl rfl ?_
    refine r_iconst (pc' := 12) (v := -1) g dX11_inSet_11 rfl rfl ?_
    refine r_callVi (pc' := 15) (As := [.int (-1)]) (rest := []) g dX11_inSet_12 rfl ml_X11_80 mw_X11_refuse mv_X11_refuse (Nat.le_of_ble_eq_true rfl) (c_X11_refuse _ w N (-1) M) rfl lC_0 (eC_0 w _ _) rfl rfl (Nat.le_of_ble_eq_true rfl) (fun r1 M2 => ?_)
    exact r_iret g e3 dX11_inSet_15
  · skip
    refine r_iload_n (pc' := 5) g dX11_inSet_4 rfl rfl ?_
    refine r_bipush (pc' := 7) (v := 16) g dX11_inSet_5 rfl rfl ?_
    refine r_clt (pc' := 10) (tgt := 16) g dX11_inSet_7 rfl rfl ?_ ?_
    · skip
      refine r_aload_n (pc' := 17) g dX11_inSet_16 rfl rfl ?_
      refine r_callVi (pc' := 20) (As := []) (rest := []) g dX11_inSet_17 rfl ml_X11_159 mw_X11_theSet mv_X11_theSet (Nat.le_of_ble_eq_true rfl) (c_X11_theSet _ w N  M) rfl lC_0 (eC_0 w _ _) rfl rfl (Nat.le_of_ble_eq_true rfl) (fun r3 M4 => ?_)
      refine r_iload_n (pc' := 21) g dX11_inSet_20 rfl rfl ?_
      refine r_ishr (pc' := 22) g dX11_inSet_21 rfl ?_
      refine r_iconst (pc' := 23) (v := 1) g dX11_inSet_22 rfl rfl ?_
      refine r_iand (pc' := 24) g dX11_inSet_23 rfl ?_
      exact r_iret g e3 dX11_inSet_24
    · skip
      refine r_aload_n (pc' := 11) g dX11_inSet_10 rfl rfl ?_
      refine r_iconst (pc' := 12) (v := -1) g dX11_inSet_11 rfl rfl ?_
      refine r_callVi (pc' := 15) (As := [.int (-1)]) (rest := []) g dX11_inSet_12 rfl ml_X11_80 mw_X11_refuse mv_X11_refuse (Nat.le_of_ble_eq_true rfl) (c_X11_refuse _ w N (-1) M) rfl lC_0 (eC_0 w _ _) rfl rfl (Nat.le_of_ble_eq_true rfl) (fun r5 M6 => ?_)
      exact r_iret g e3 dX11_inSet_15
def B_X10_isPlan_15 (N : Nat) (p1 : Int32) (G : Unit → Mm → Rs) (rec : Int32 → Mm → Rs) (s : Int32) (M : Mm) : Rs :=
  if s < 4 then
      (if 0 < ((p1 >>> ((2 * s) &&& 31)) &&& 3) then
        (if (((M.1 1 0) >>> (s &&& 31)) &&& 1) = 0 then
          (some (0, M))
        else
          (rec (s + 1) M))
      else
        (rec (s + 1) M))
    else
      (G () M)

def f_X10_isPlan (N : Nat) (a1 : Int32) (M : Mm) : Rs :=
  if a1 < 0 then
    (some (0, M))
  else
    (if a1 < 256 then
      (itr (B_X10_isPlan_15 N a1 fun z1 M2 =>
      (some (1, M2))) N 0 M)
    else
      (some (0, M)))

set_option maxHeartbeats 4000000 in
set_option maxRecDepth 100000 in
theorem s_X10_isPlan_15 {w : W0} {Z : Zx} (g : Good KC w Z cX10_isPlan RX10 0) (e2 : Z.2.2.1 = 3) (e3 : Z.2.2.2 = (some .boolean)) (N : Nat) (p1 : Int32) (G : Unit → Mm → Rs) (kG : ∀ (x : Unit) (M : Mm), Sim KC w Z 49 [.null, .null, .null] [] M (G x M)) : ∀ (n : Nat) (s : Int32) (M : Mm), Sim KC w Z 15 [rf w 1, .int p1, .int s] [] M (itr (B_X10_isPlan_15 N p1 G) n s M) := by
  have n2 : 2 < Z.2.2.1 := by rw [e2]; decide
  refine r_itr (Lf := fun (s : Int32) => [rf w 1, .int p1, .int s]) (fun rec hr s M => ?_)
  unfold B_X10_isPlan_15
  refine r_iload_n (pc' := 16) g dX10_isPlan_15 rfl rfl ?_
  refine r_iconst (pc' := 17) (v := 4) g dX10_isPlan_16 rfl rfl ?_
  refine r_cge (pc' := 20) (tgt := 49) g dX10_isPlan_17 rfl rfl ?_ ?_
  · skip
    exact r_weak (Ls1 (Ls1 (Ls1 Ls0))) (kG () M)
  · skip
    refine r_iload_n (pc' := 21) g dX10_isPlan_20 rfl rfl ?_
    refine r_iconst (pc' := 22) (v := 2) g dX10_isPlan_21 rfl rfl ?_
    refine r_iload_n (pc' := 23) g dX10_isPlan_22 rfl rfl ?_
    refine r_imul (pc' := 24) g dX10_isPlan_23 rfl ?_
    refine r_ishr (pc' := 25) g dX10_isPlan_24 rfl ?_
    refine r_iconst (pc' := 26) (v := 3) g dX10_isPlan_25 rfl rfl ?_
    refine r_iand (pc' := 27) g dX10_isPlan_26 rfl ?_
    refine r_ifle (pc' := 30) (tgt := 43) g dX10_isPlan_27 rfl rfl ?_ ?_
    · skip
      refine r_iinc (pc' := 46) (b := 1) (L' := [rf w 1, .int p1, .int (s + 1)]) g dX10_isPlan_43 rfl rfl rfl n2 rfl rfl ?_
      refine r_goto (tgt := 15) g dX10_isPlan_46 rfl ?_
      exact r_weak (Ls2 (Ls2 (Ls2 Ls0))) (hr (s + 1) M)
    · skip
      refine r_aload_n (pc' := 31) g dX10_isPlan_30 rfl rfl ?_
      refine r_get (pc' := 34) g dX10_isPlan_31 rfl fl_X10_9 lC_1 (eC_1 w _ _) rfl ?_
      refine r_iload_n (pc' := 35) g dX10_isPlan_34 rfl rfl ?_
      refine r_ishr (pc' := 36) g dX10_isPlan_35 rfl ?_
      refine r_iconst (pc' := 37) (v := 1) g dX10_isPlan_36 rfl rfl ?_
      refine r_iand (pc' := 38) g dX10_isPlan_37 rfl ?_
      refine r_ifne (pc' := 41) (tgt := 43) g dX10_isPlan_38 rfl rfl ?_ ?_
      · skip
        refine r_iinc (pc' := 46) (b := 1) (L' := [rf w 1, .int p1, .int (s + 1)]) g dX10_isPlan_43 rfl rfl rfl n2 rfl rfl ?_
        refine r_goto (tgt := 15) g dX10_isPlan_46 rfl ?_
        exact r_weak (Ls2 (Ls2 (Ls2 Ls0))) (hr (s + 1) M)
      · skip
        refine r_iconst (pc' := 42) (v := 0) g dX10_isPlan_41 rfl rfl ?_
        exact r_zretc g e3 rfl dX10_isPlan_42
set_option maxHeartbeats 4000000 in
set_option maxRecDepth 100000 in
theorem c_X10_isPlan (l : Launch) (w : W0) (N : Nat) (a1 : Int32) (M : Mm) : Ct l KC w 0 yX10_isPlan cX10_isPlan 3 (some .boolean) [rf w 1, .int a1] M (f_X10_isPlan N a1 M) := by
  refine ct_of [rf w 1, .int a1, .null] (by decide) (Nat.le_of_ble_eq_true rfl) rfl (fun Z e1 e2 e3 g => ?_)
  have g : Good KC w Z cX10_isPlan RX10 0 := g
  unfold f_X10_isPlan
  have n2 : 2 < Z.2.2.1 := by rw [e2]; decide
  refine r_iload_n (pc' := 1) g dX10_isPlan_0 rfl rfl ?_
  refine r_iflt (pc' := 4) (tgt := 11) g dX10_isPlan_1 rfl rfl ?_ ?_
  · skip
    refine r_iconst (pc' := 12) (v := 0) g dX10_isPlan_11 rfl rfl ?_
    exact r_zretc g e3 rfl dX10_isPlan_12
  · skip
    refine r_iload_n (pc' := 5) g dX10_isPlan_4 rfl rfl ?_
    refine r_sipush (pc' := 8) (v := 256) g dX10_isPlan_5 rfl rfl ?_
    refine r_clt (pc' := 11) (tgt := 13) g dX10_isPlan_8 rfl rfl ?_ ?_
    · skip
      refine r_iconst (pc' := 14) (v := 0) g dX10_isPlan_13 rfl rfl ?_
      refine r_istore_n (pc' := 15) (L' := [rf w 1, .int a1, .int 0]) g dX10_isPlan_14 rfl n2 rfl rfl ?_
      refine r_weak (Ls2 (Ls2 (Ls2 Ls0))) (s_X10_isPlan_15 g e2 e3 N a1 _ (fun z1 M2 => ?_) N 0 M)
      refine r_iconst (pc' := 50) (v := 1) g dX10_isPlan_49 rfl rfl ?_
      exact r_zretc g e3 rfl dX10_isPlan_50
    · skip
      refine r_iconst (pc' := 12) (v := 0) g dX10_isPlan_11 rfl rfl ?_
      exact r_zretc g e3 rfl dX10_isPlan_12
def B_J7_fill_53178a_5 (N : Nat) (p1 : Int32) (p3 : Int32) (G : Unit → Mm → Rs) (rec : Int32 → Mm → Rs) (s : Int32) (M : Mm) : Rs :=
  if s < p3 then
      (if inb s 4096 then
      (lt' (wI M 39 (ix s) p1) fun M1 =>
      (rec (s + 1) M1)) else none)
    else
      (G () M)

def f_J7_fill_53178a (N : Nat) (a1 : Int32) (M : Mm) : Rs :=
  itr (B_J7_fill_53178a_5 N a1 4096 fun z2 M3 =>
  (some (0, M3))) N 0 M

set_option maxHeartbeats 4000000 in
set_option maxRecDepth 100000 in
theorem s_J7_fill_53178a_5 {w : W0} {Z : Zx} (g : Good KC w Z cJ7_fill_53178 RJ7 0) (e2 : Z.2.2.1 = 4) (e3 : Z.2.2.2 = none) (N : Nat) (p1 : Int32) (p3 : Int32) (G : Unit → Mm → Rs) (kG : ∀ (x : Unit) (M : Mm), Sim KC w Z 20 [.null, .null, .null, .null] [] M (G x M)) : ∀ (n : Nat) (s : Int32) (M : Mm), Sim KC w Z 5 [rf w 39, .int p1, .int s, .int p3] [] M (itr (B_J7_fill_53178a_5 N p1 p3 G) n s M) := by
  have n2 : 2 < Z.2.2.1 := by rw [e2]; decide
  refine r_itr (Lf := fun (s : Int32) => [rf w 39, .int p1, .int s, .int p3]) (fun rec hr s M => ?_)
  unfold B_J7_fill_53178a_5
  refine r_iload_n (pc' := 6) g dJ7_fill_53178_5 rfl rfl ?_
  refine r_iload_n (pc' := 7) g dJ7_fill_53178_6 rfl rfl ?_
  refine r_cge (pc' := 10) (tgt := 20) g dJ7_fill_53178_7 rfl rfl ?_ ?_
  · skip
    exact r_weak (Ls1 (Ls1 (Ls1 (Ls1 Ls0)))) (kG () M)
  · skip
    refine r_aload_n (pc' := 11) g dJ7_fill_53178_10 rfl rfl ?_
    refine r_iload_n (pc' := 12) g dJ7_fill_53178_11 rfl rfl ?_
    refine r_iload_n (pc' := 13) g dJ7_fill_53178_12 rfl rfl ?_
    refine r_iast (pc' := 14) g dJ7_fill_53178_13 rfl lC_39 (fun m => eC_39 w m _) ?_
    refine r_ltM (fun M1 => ?_)
    refine r_iinc (pc' := 17) (b := 1) (L' := [rf w 39, .int p1, .int (s + 1), .int p3]) g dJ7_fill_53178_14 rfl rfl rfl n2 rfl rfl ?_
    refine r_goto (tgt := 5) g dJ7_fill_53178_17 rfl ?_
    exact r_weak (Ls2 (Ls2 (Ls2 (Ls2 Ls0)))) (hr (s + 1) M1)
set_option maxHeartbeats 4000000 in
set_option maxRecDepth 100000 in
theorem c_J7_fill_53178a (l : Launch) (w : W0) (N : Nat) (a1 : Int32) (M : Mm) : Ct l KC w 0 yJ7_fill_53178 cJ7_fill_53178 4 none [rf w 39, .int a1] M (f_J7_fill_53178a N a1 M) := by
  refine ct_of [rf w 39, .int a1, .null, .null] (by decide) (Nat.le_of_ble_eq_true rfl) rfl (fun Z e1 e2 e3 g => ?_)
  have g : Good KC w Z cJ7_fill_53178 RJ7 0 := g
  unfold f_J7_fill_53178a
  have n2 : 2 < Z.2.2.1 := by rw [e2]; decide
  have n3 : 3 < Z.2.2.1 := by rw [e2]; decide
  refine r_iconst (pc' := 1) (v := 0) g dJ7_fill_53178_0 rfl rfl ?_
  refine r_istore_n (pc' := 2) (L' := [rf w 39, .int a1, .int 0, .null]) g dJ7_fill_53178_1 rfl n2 rfl rfl ?_
  refine r_aload_n (pc' := 3) g dJ7_fill_53178_2 rfl rfl ?_
  refine r_alen (pc' := 4) (v := 4096) (t := 0) g dJ7_fill_53178_3 rfl lC_39 (eC_39 w _ _) rfl rfl ?_
  refine r_istore_n (pc' := 5) (L' := [rf w 39, .int a1, .int 0, .int 4096]) g dJ7_fill_53178_4 rfl n3 rfl rfl ?_
  refine r_weak (Ls2 (Ls2 (Ls2 (Ls2 Ls0)))) (s_J7_fill_53178a_5 g e2 e3 N a1 4096 _ (fun z2 M3 => ?_) N 0 M)
  exact r_vret g e3 dJ7_fill_53178_20
def B_J7_fill_53178b_5 (N : Nat) (p1 : Int32) (p3 : Int32) (G : Unit → Mm → Rs) (rec : Int32 → Mm → Rs) (s : Int32) (M : Mm) : Rs :=
  if s < p3 then
      (if inb s 16 then
      (lt' (wI M 47 (ix s) p1) fun M1 =>
      (rec (s + 1) M1)) else none)
    else
      (G () M)

def f_J7_fill_53178b (N : Nat) (a1 : Int32) (M : Mm) : Rs :=
  itr (B_J7_fill_53178b_5 N a1 16 fun z2 M3 =>
  (some (0, M3))) N 0 M

set_option maxHeartbeats 4000000 in
set_option maxRecDepth 100000 in
theorem s_J7_fill_53178b_5 {w : W0} {Z : Zx} (g : Good KC w Z cJ7_fill_53178 RJ7 0) (e2 : Z.2.2.1 = 4) (e3 : Z.2.2.2 = none) (N : Nat) (p1 : Int32) (p3 : Int32) (G : Unit → Mm → Rs) (kG : ∀ (x : Unit) (M : Mm), Sim KC w Z 20 [.null, .null, .null, .null] [] M (G x M)) : ∀ (n : Nat) (s : Int32) (M : Mm), Sim KC w Z 5 [rf w 47, .int p1, .int s, .int p3] [] M (itr (B_J7_fill_53178b_5 N p1 p3 G) n s M) := by
  have n2 : 2 < Z.2.2.1 := by rw [e2]; decide
  refine r_itr (Lf := fun (s : Int32) => [rf w 47, .int p1, .int s, .int p3]) (fun rec hr s M => ?_)
  unfold B_J7_fill_53178b_5
  refine r_iload_n (pc' := 6) g dJ7_fill_53178_5 rfl rfl ?_
  refine r_iload_n (pc' := 7) g dJ7_fill_53178_6 rfl rfl ?_
  refine r_cge (pc' := 10) (tgt := 20) g dJ7_fill_53178_7 rfl rfl ?_ ?_
  · skip
    exact r_weak (Ls1 (Ls1 (Ls1 (Ls1 Ls0)))) (kG () M)
  · skip
    refine r_aload_n (pc' := 11) g dJ7_fill_53178_10 rfl rfl ?_
    refine r_iload_n (pc' := 12) g dJ7_fill_53178_11 rfl rfl ?_
    refine r_iload_n (pc' := 13) g dJ7_fill_53178_12 rfl rfl ?_
    refine r_iast (pc' := 14) g dJ7_fill_53178_13 rfl lC_47 (fun m => eC_47 w m _) ?_
    refine r_ltM (fun M1 => ?_)
    refine r_iinc (pc' := 17) (b := 1) (L' := [rf w 47, .int p1, .int (s + 1), .int p3]) g dJ7_fill_53178_14 rfl rfl rfl n2 rfl rfl ?_
    refine r_goto (tgt := 5) g dJ7_fill_53178_17 rfl ?_
    exact r_weak (Ls2 (Ls2 (Ls2 (Ls2 Ls0)))) (hr (s + 1) M1)
set_option maxHeartbeats 4000000 in
set_option maxRecDepth 100000 in
theorem c_J7_fill_53178b (l : Launch) (w : W0) (N : Nat) (a1 : Int32) (M : Mm) : Ct l KC w 0 yJ7_fill_53178 cJ7_fill_53178 4 none [rf w 47, .int a1] M (f_J7_fill_53178b N a1 M) := by
  refine ct_of [rf w 47, .int a1, .null, .null] (by decide) (Nat.le_of_ble_eq_true rfl) rfl (fun Z e1 e2 e3 g => ?_)
  have g : Good KC w Z cJ7_fill_53178 RJ7 0 := g
  unfold f_J7_fill_53178b
  have n2 : 2 < Z.2.2.1 := by rw [e2]; decide
  have n3 : 3 < Z.2.2.1 := by rw [e2]; decide
  refine r_iconst (pc' := 1) (v := 0) g dJ7_fill_53178_0 rfl rfl ?_
  refine r_istore_n (pc' := 2) (L' := [rf w 47, .int a1, .int 0, .null]) g dJ7_fill_53178_1 rfl n2 rfl rfl ?_
  refine r_aload_n (pc' := 3) g dJ7_fill_53178_2 rfl rfl ?_
  refine r_alen (pc' := 4) (v := 16) (t := 0) g dJ7_fill_53178_3 rfl lC_47 (eC_47 w _ _) rfl rfl ?_
  refine r_istore_n (pc' := 5) (L' := [rf w 47, .int a1, .int 0, .int 16]) g dJ7_fill_53178_4 rfl n3 rfl rfl ?_
  refine r_weak (Ls2 (Ls2 (Ls2 (Ls2 Ls0)))) (s_J7_fill_53178b_5 g e2 e3 N a1 16 _ (fun z2 M3 => ?_) N 0 M)
  exact r_vret g e3 dJ7_fill_53178_20
def f_X10_balance (N : Nat) (a1 : Int32) (a2 : Int32) (a3 : Int32) (M : Mm) : Rs :=
  lt' (((a2 >>> ((2 * a1) &&& 31)) &&& 3) * (M.1 2 (ix 40))) fun x1 =>
  (if inb ((a1 * 6) + 1) 43 then
  (lt' (((a3 >>> (a1 &&& 31)) &&& 1) * (M.1 2 (ix ((a1 * 6) + 1)))) fun x2 =>
  (if inb ((a1 * 6) + 0) 43 then
  (some ((x1 - (M.1 2 (ix ((a1 * 6) + 0)))) - x2, M)) else none)) else none)

set_option maxHeartbeats 4000000 in
set_option maxRecDepth 100000 in
theorem c_X10_balance (l : Launch) (w : W0) (N : Nat) (a1 : Int32) (a2 : Int32) (a3 : Int32) (M : Mm) : Ct l KC w 0 yX10_balance cX10_balance 6 (some .int) [rf w 1, .int a1, .int a2, .int a3] M (f_X10_balance N a1 a2 a3 M) := by
  refine ct_of [rf w 1, .int a1, .int a2, .int a3, .null, .null] (by decide) (Nat.le_of_ble_eq_true rfl) rfl (fun Z e1 e2 e3 g => ?_)
  have g : Good KC w Z cX10_balance RX10 0 := g
  unfold f_X10_balance
  have n4 : 4 < Z.2.2.1 := by rw [e2]; decide
  have n5 : 5 < Z.2.2.1 := by rw [e2]; decide
  refine r_iload_n (pc' := 1) g dX10_balance_0 rfl rfl ?_
  refine r_iconst (pc' := 2) (v := 2) g dX10_balance_1 rfl rfl ?_
  refine r_iload_n (pc' := 3) g dX10_balance_2 rfl rfl ?_
  refine r_imul (pc' := 4) g dX10_balance_3 rfl ?_
  refine r_ishr (pc' := 5) g dX10_balance_4 rfl ?_
  refine r_iconst (pc' := 6) (v := 3) g dX10_balance_5 rfl rfl ?_
  refine r_iand (pc' := 7) g dX10_balance_6 rfl ?_
  refine r_aload_n (pc' := 8) g dX10_balance_7 rfl rfl ?_
  refine r_get (pc' := 11) g dX10_balance_8 rfl fl_X10_15 lC_1 (eC_1 w _ _) rfl ?_
  refine r_bipush (pc' := 13) (v := 40) g dX10_balance_11 rfl rfl ?_
  refine r_ialdc (pc' := 14) g dX10_balance_13 rfl lC_2 (eC_2 w _ _) rfl ?_
  refine r_imul (pc' := 15) g dX10_balance_14 rfl ?_
  refine r_ltI (fun x1 => ?_)
  refine r_istore (pc' := 17) (L' := [rf w 1, .int a1, .int a2, .int a3, .int x1, .null]) g dX10_balance_15 rfl n4 rfl rfl ?_
  refine r_iload_n (pc' := 18) g dX10_balance_17 rfl rfl ?_
  refine r_iload_n (pc' := 19) g dX10_balance_18 rfl rfl ?_
  refine r_ishr (pc' := 20) g dX10_balance_19 rfl ?_
  refine r_iconst (pc' := 21) (v := 1) g dX10_balance_20 rfl rfl ?_
  refine r_iand (pc' := 22) g dX10_balance_21 rfl ?_
  refine r_aload_n (pc' := 23) g dX10_balance_22 rfl rfl ?_
  refine r_get (pc' := 26) g dX10_balance_23 rfl fl_X10_15 lC_1 (eC_1 w _ _) rfl ?_
  refine r_iload_n (pc' := 27) g dX10_balance_26 rfl rfl ?_
  refine r_bipush (pc' := 29) (v := 6) g dX10_balance_27 rfl rfl ?_
  refine r_imul (pc' := 30) g dX10_balance_29 rfl ?_
  refine r_iconst (pc' := 31) (v := 1) g dX10_balance_30 rfl rfl ?_
  refine r_iadd (pc' := 32) g dX10_balance_31 rfl ?_
  refine r_iald (pc' := 33) g dX10_balance_32 rfl lC_2 (eC_2 w _ _) ?_
  refine r_imul (pc' := 34) g dX10_balance_33 rfl ?_
  refine r_ltI (fun x2 => ?_)
  refine r_istore (pc' := 36) (L' := [rf w 1, .int a1, .int a2, .int a3, .int x1, .int x2]) g dX10_balance_34 rfl n5 rfl rfl ?_
  refine r_iload (pc' := 38) g dX10_balance_36 rfl rfl ?_
  refine r_aload_n (pc' := 39) g dX10_balance_38 rfl rfl ?_
  refine r_get (pc' := 42) g dX10_balance_39 rfl fl_X10_15 lC_1 (eC_1 w _ _) rfl ?_
  refine r_iload_n (pc' := 43) g dX10_balance_42 rfl rfl ?_
  refine r_bipush (pc' := 45) (v := 6) g dX10_balance_43 rfl rfl ?_
  refine r_imul (pc' := 46) g dX10_balance_45 rfl ?_
  refine r_iconst (pc' := 47) (v := 0) g dX10_balance_46 rfl rfl ?_
  refine r_iadd (pc' := 48) g dX10_balance_47 rfl ?_
  refine r_iald (pc' := 49) g dX10_balance_48 rfl lC_2 (eC_2 w _ _) ?_
  refine r_isub (pc' := 50) g dX10_balance_49 rfl ?_
  refine r_iload (pc' := 52) g dX10_balance_50 rfl rfl ?_
  refine r_isub (pc' := 53) g dX10_balance_52 rfl ?_
  exact r_iret g e3 dX10_balance_53
def B_X4_weigh_20 (N : Nat) (p1 : Int32) (p2 : Int32) (G : Unit → Mm → Rs) (rec : Int32 → Mm → Rs) (s : Int32) (M : Mm) : Rs :=
  if s < 4 then
      (bd (f_X10_balance N s p1 p2 M) fun r5 M6 =>
      (if 0 < r5 then
        (if inb (M6.1 40 1) 4 then
        (lt' (wI M6 41 (ix (M6.1 40 1)) s) fun M11 =>
        (if inb (M11.1 40 1) 4 then
        (lt' (wI M11 42 (ix (M11.1 40 1)) r5) fun M12 =>
        (lt' (wI M12 40 1 ((M12.1 40 1) + 1)) fun M13 =>
        (rec (s + 1) M13))) else none)) else none)
      else
        (if r5 < 0 then
          (if inb (M6.1 40 4) 4 then
          (lt' (wI M6 43 (ix (M6.1 40 4)) s) fun M7 =>
          (if inb (M7.1 40 4) 4 then
          (lt' (wI M7 44 (ix (M7.1 40 4)) (-r5)) fun M8 =>
          (if inb ((s * 6) + 4) 43 then
          (if inb (M8.1 40 4) 4 then
          (lt' (wI M8 45 (ix (M8.1 40 4)) (M8.1 2 (ix ((s * 6) + 4)))) fun M9 =>
          (lt' (wI M9 40 4 ((M9.1 40 4) + 1)) fun M10 =>
          (rec (s + 1) M10))) else none) else none)) else none)) else none)
        else
          (rec (s + 1) M6))))
    else
      (G () M)

def B_X4_weigh_155 (N : Nat) (p3 : Int32) (G : Unit → Mm → Rs) (rec : Int32 → Mm → Rs) (s : Int32) (M : Mm) : Rs :=
  if s < (M.1 40 4) then
      (if inb p3 4 then
      (if inb s 4 then
      (if inb ((24 + ((M.1 41 (ix p3)) * 4)) + (M.1 43 (ix s))) 43 then
      (if inb ((p3 * 4) + s) 16 then
      (lt' (wI M 46 (ix ((p3 * 4) + s)) (M.1 2 (ix ((24 + ((M.1 41 (ix p3)) * 4)) + (M.1 43 (ix s)))))) fun M16 =>
      (rec (s + 1) M16)) else none) else none) else none) else none)
    else
      (G () M)

def B_X4_weigh_144 (N : Nat) (G : Unit → Mm → Rs) (rec : Int32 → Mm → Rs) (s : Int32) (M : Mm) : Rs :=
  if s < (M.1 40 1) then
      (itr (B_X4_weigh_155 N s fun z17 M18 =>
      (rec (s + 1) M18)) N 0 M)
    else
      (G () M)

def f_X4_weigh (N : Nat) (a1 : Int32) (a2 : Int32) (M : Mm) : Rs :=
  lt' (wI M 40 1 0) fun M1 =>
  (lt' (wI M1 40 4 0) fun M2 =>
  (bd (f_J7_fill_53178b N 0 M2) fun r3 M4 =>
  (itr (B_X4_weigh_20 N a1 a2 fun z14 M15 =>
  (itr (B_X4_weigh_144 N fun z19 M20 =>
  (some (0, M20))) N 0 M15)) N 0 M4)))

set_option maxHeartbeats 4000000 in
set_option maxRecDepth 100000 in
theorem s_X4_weigh_20 {w : W0} {Z : Zx} (g : Good KC w Z cX4_weigh RX4 1) (e2 : Z.2.2.1 = 5) (e3 : Z.2.2.2 = none) (N : Nat) (p1 : Int32) (p2 : Int32) (G : Unit → Mm → Rs) (kG : ∀ (x : Unit) (M : Mm), Sim KC w Z 142 [rf w 40, .null, .null, .null, .null] [] M (G x M)) : ∀ (n : Nat) (s : Int32) (M : Mm), Sim KC w Z 20 [rf w 40, .int p1, .int p2, .int s, .null] [] M (itr (B_X4_weigh_20 N p1 p2 G) n s M) := by
  have n3 : 3 < Z.2.2.1 := by rw [e2]; decide
  have n4 : 4 < Z.2.2.1 := by rw [e2]; decide
  refine r_itr (Lf := fun (s : Int32) => [rf w 40, .int p1, .int p2, .int s, .null]) (fun rec hr s M => ?_)
  unfold B_X4_weigh_20
  refine r_iload_n (pc' := 21) g dX4_weigh_20 rfl rfl ?_
  refine r_iconst (pc' := 22) (v := 4) g dX4_weigh_21 rfl rfl ?_
  refine r_cge (pc' := 25) (tgt := 142) g dX4_weigh_22 rfl rfl ?_ ?_
  · skip
    exact r_weak (Ls2 (Ls1 (Ls1 (Ls1 (Ls1 Ls0))))) (kG () M)
  · skip
    refine r_aload_n (pc' := 26) g dX4_weigh_25 rfl rfl ?_
    refine r_get (pc' := 29) g dX4_weigh_26 rfl fl_X4_46 lC_40 (eC_40 w _ _) rfl ?_
    refine r_iload_n (pc' := 30) g dX4_weigh_29 rfl rfl ?_
    refine r_iload_n (pc' := 31) g dX4_weigh_30 rfl rfl ?_
    refine r_iload_n (pc' := 32) g dX4_weigh_31 rfl rfl ?_
    refine r_callVi (pc' := 35) (As := [.int s, .int p1, .int p2]) (rest := []) g dX4_weigh_32 rfl ml_X4_56 mw_X10_balance mv_X10_balance (Nat.le_of_ble_eq_true rfl) (c_X10_balance _ w N s p1 p2 M) rfl lC_1 (eC_1 w _ _) rfl rfl (Nat.le_of_ble_eq_true rfl) (fun r5 M6 => ?_)
    refine r_istore (pc' := 37) (L' := [rf w 40, .int p1, .int p2, .int s, .int r5]) g dX4_weigh_35 rfl n4 rfl rfl ?_
    refine r_iload (pc' := 39) g dX4_weigh_37 rfl rfl ?_
    refine r_ifle (pc' := 42) (tgt := 76) g dX4_weigh_39 rfl rfl ?_ ?_
    · skip
      refine r_iload (pc' := 78) g dX4_weigh_76 rfl rfl ?_
      refine r_ifge (pc' := 81) (tgt := 136) g dX4_weigh_78 rfl rfl ?_ ?_
      · skip
        refine r_iinc (pc' := 139) (b := 1) (L' := [rf w 40, .int p1, .int p2, .int (s + 1), .int r5]) g dX4_weigh_136 rfl rfl rfl n3 rfl rfl ?_
        refine r_goto (tgt := 20) g dX4_weigh_139 rfl ?_
        exact r_weak (Ls2 (Ls2 (Ls2 (Ls2 (Ls1 Ls0))))) (hr (s + 1) M6)
      · skip
        refine r_aload_n (pc' := 82) g dX4_weigh_81 rfl rfl ?_
        refine r_get (pc' := 85) g dX4_weigh_82 rfl fl_X4_25 lC_40 (eC_40 w _ _) rfl ?_
        refine r_aload_n (pc' := 86) g dX4_weigh_85 rfl rfl ?_
        refine r_get (pc' := 89) g dX4_weigh_86 rfl fl_X4_22 lC_40 (eC_40 w _ _) rfl ?_
        refine r_iload_n (pc' := 90) g dX4_weigh_89 rfl rfl ?_
        refine r_iast (pc' := 91) g dX4_weigh_90 rfl lC_43 (fun m => eC_43 w m _) ?_
        refine r_ltM (fun M7 => ?_)
        refine r_aload_n (pc' := 92) g dX4_weigh_91 rfl rfl ?_
        refine r_get (pc' := 95) g dX4_weigh_92 rfl fl_X4_28 lC_40 (eC_40 w _ _) rfl ?_
        refine r_aload_n (pc' := 96) g dX4_weigh_95 rfl rfl ?_
        refine r_get (pc' := 99) g dX4_weigh_96 rfl fl_X4_22 lC_40 (eC_40 w _ _) rfl ?_
        refine r_iload (pc' := 101) g dX4_weigh_99 rfl rfl ?_
        refine r_ineg (pc' := 102) g dX4_weigh_101 rfl ?_
        refine r_iast (pc' := 103) g dX4_weigh_102 rfl lC_44 (fun m => eC_44 w m _) ?_
        refine r_ltM (fun M8 => ?_)
        refine r_aload_n (pc' := 104) g dX4_weigh_103 rfl rfl ?_
        refine r_get (pc' := 107) g dX4_weigh_104 rfl fl_X4_31 lC_40 (eC_40 w _ _) rfl ?_
        refine r_aload_n (pc' := 108) g dX4_weigh_107 rfl rfl ?_
        refine r_get (pc' := 111) g dX4_weigh_108 rfl fl_X4_22 lC_40 (eC_40 w _ _) rfl ?_
        refine r_aload_n (pc' := 112) g dX4_weigh_111 rfl rfl ?_
        refine r_get (pc' := 115) g dX4_weigh_112 rfl fl_X4_46 lC_40 (eC_40 w _ _) rfl ?_
        refine r_get (pc' := 118) g dX4_weigh_115 rfl fl_X4_62 lC_1 (eC_1 w _ _) rfl ?_
        refine r_iload_n (pc' := 119) g dX4_weigh_118 rfl rfl ?_
        refine r_bipush (pc' := 121) (v := 6) g dX4_weigh_119 rfl rfl ?_
        refine r_imul (pc' := 122) g dX4_weigh_121 rfl ?_
        refine r_iconst (pc' := 123) (v := 4) g dX4_weigh_122 rfl rfl ?_
        refine r_iadd (pc' := 124) g dX4_weigh_123 rfl ?_
        refine r_iald (pc' := 125) g dX4_weigh_124 rfl lC_2 (eC_2 w _ _) ?_
        refine r_iast (pc' := 126) g dX4_weigh_125 rfl lC_45 (fun m => eC_45 w m _) ?_
        refine r_ltM (fun M9 => ?_)
        refine r_aload_n (pc' := 127) g dX4_weigh_126 rfl rfl ?_
        refine r_dupa (pc' := 128) g dX4_weigh_127 rfl ?_
        refine r_get (pc' := 131) g dX4_weigh_128 rfl fl_X4_22 lC_40 (eC_40 w _ _) rfl ?_
        refine r_iconst (pc' := 132) (v := 1) g dX4_weigh_131 rfl rfl ?_
        refine r_iadd (pc' := 133) g dX4_weigh_132 rfl ?_
        refine r_put (pc' := 136) g dX4_weigh_133 rfl fl_X4_22 rfl lC_40 (eC_40 w _ _) (Nat.le_of_ble_eq_true rfl) (sC_40_4 w _ _ _) ?_
        refine r_ltM (fun M10 => ?_)
        refine r_iinc (pc' := 139) (b := 1) (L' := [rf w 40, .int p1, .int p2, .int (s + 1), .int r5]) g dX4_weigh_136 rfl rfl rfl n3 rfl rfl ?_
        refine r_goto (tgt := 20) g dX4_weigh_139 rfl ?_
        exact r_weak (Ls2 (Ls2 (Ls2 (Ls2 (Ls1 Ls0))))) (hr (s + 1) M10)
    · skip
      refine r_aload_n (pc' := 43) g dX4_weigh_42 rfl rfl ?_
      refine r_get (pc' := 46) g dX4_weigh_43 rfl fl_X4_15 lC_40 (eC_40 w _ _) rfl ?_
      refine r_aload_n (pc' := 47) g dX4_weigh_46 rfl rfl ?_
      refine r_get (pc' := 50) g dX4_weigh_47 rfl fl_X4_9 lC_40 (eC_40 w _ _) rfl ?_
      refine r_iload_n (pc' := 51) g dX4_weigh_50 rfl rfl ?_
      refine r_iast (pc' := 52) g dX4_weigh_51 rfl lC_41 (fun m => eC_41 w m _) ?_
      refine r_ltM (fun M11 => ?_)
      refine r_aload_n (pc' := 53) g dX4_weigh_52 rfl rfl ?_
      refine r_get (pc' := 56) g dX4_weigh_53 rfl fl_X4_19 lC_40 (eC_40 w _ _) rfl ?_
      refine r_aload_n (pc' := 57) g dX4_weigh_56 rfl rfl ?_
      refine r_get (pc' := 60) g dX4_weigh_57 rfl fl_X4_9 lC_40 (eC_40 w _ _) rfl ?_
      refine r_iload (pc' := 62) g dX4_weigh_60 rfl rfl ?_
      refine r_iast (pc' := 63) g dX4_weigh_62 rfl lC_42 (fun m => eC_42 w m _) ?_
      refine r_ltM (fun M12 => ?_)
      refine r_aload_n (pc' := 64) g dX4_weigh_63 rfl rfl ?_
      refine r_dupa (pc' := 65) g dX4_weigh_64 rfl ?_
      refine r_get (pc' := 68) g dX4_weigh_65 rfl fl_X4_9 lC_40 (eC_40 w _ _) rfl ?_
      refine r_iconst (pc' := 69) (v := 1) g dX4_weigh_68 rfl rfl ?_
      refine r_iadd (pc' := 70) g dX4_weigh_69 rfl ?_
      refine r_put (pc' := 73) g dX4_weigh_70 rfl fl_X4_9 rfl lC_40 (eC_40 w _ _) (Nat.le_of_ble_eq_true rfl) (sC_40_1 w _ _ _) ?_
      refine r_ltM (fun M13 => ?_)
      refine r_goto (tgt := 136) g dX4_weigh_73 rfl ?_
      refine r_iinc (pc' := 139) (b := 1) (L' := [rf w 40, .int p1, .int p2, .int (s + 1), .int r5]) g dX4_weigh_136 rfl rfl rfl n3 rfl rfl ?_
      refine r_goto (tgt := 20) g dX4_weigh_139 rfl ?_
      exact r_weak (Ls2 (Ls2 (Ls2 (Ls2 (Ls1 Ls0))))) (hr (s + 1) M13)
set_option maxHeartbeats 4000000 in
set_option maxRecDepth 100000 in
theorem s_X4_weigh_155 {w : W0} {Z : Zx} (g : Good KC w Z cX4_weigh RX4 1) (e2 : Z.2.2.1 = 5) (e3 : Z.2.2.2 = none) (N : Nat) (p3 : Int32) (G : Unit → Mm → Rs) (kG : ∀ (x : Unit) (M : Mm), Sim KC w Z 208 [rf w 40, .null, .null, .int p3, .null] [] M (G x M)) : ∀ (n : Nat) (s : Int32) (M : Mm), Sim KC w Z 155 [rf w 40, .null, .null, .int p3, .int s] [] M (itr (B_X4_weigh_155 N p3 G) n s M) := by
  have n4 : 4 < Z.2.2.1 := by rw [e2]; decide
  refine r_itr (Lf := fun (s : Int32) => [rf w 40, .null, .null, .int p3, .int s]) (fun rec hr s M => ?_)
  unfold B_X4_weigh_155
  refine r_iload (pc' := 157) g dX4_weigh_155 rfl rfl ?_
  refine r_aload_n (pc' := 158) g dX4_weigh_157 rfl rfl ?_
  refine r_get (pc' := 161) g dX4_weigh_158 rfl fl_X4_22 lC_40 (eC_40 w _ _) rfl ?_
  refine r_cge (pc' := 164) (tgt := 208) g dX4_weigh_161 rfl rfl ?_ ?_
  · skip
    exact r_weak (Ls2 (Ls1 (Ls1 (Ls2 (Ls1 Ls0))))) (kG () M)
  · skip
    refine r_aload_n (pc' := 165) g dX4_weigh_164 rfl rfl ?_
    refine r_get (pc' := 168) g dX4_weigh_165 rfl fl_X4_34 lC_40 (eC_40 w _ _) rfl ?_
    refine r_iload_n (pc' := 169) g dX4_weigh_168 rfl rfl ?_
    refine r_iconst (pc' := 170) (v := 4) g dX4_weigh_169 rfl rfl ?_
    refine r_imul (pc' := 171) g dX4_weigh_170 rfl ?_
    refine r_iload (pc' := 173) g dX4_weigh_171 rfl rfl ?_
    refine r_iadd (pc' := 174) g dX4_weigh_173 rfl ?_
    refine r_aload_n (pc' := 175) g dX4_weigh_174 rfl rfl ?_
    refine r_get (pc' := 178) g dX4_weigh_175 rfl fl_X4_46 lC_40 (eC_40 w _ _) rfl ?_
    refine r_get (pc' := 181) g dX4_weigh_178 rfl fl_X4_62 lC_1 (eC_1 w _ _) rfl ?_
    refine r_bipush (pc' := 183) (v := 24) g dX4_weigh_181 rfl rfl ?_
    refine r_aload_n (pc' := 184) g dX4_weigh_183 rfl rfl ?_
    refine r_get (pc' := 187) g dX4_weigh_184 rfl fl_X4_15 lC_40 (eC_40 w _ _) rfl ?_
    refine r_iload_n (pc' := 188) g dX4_weigh_187 rfl rfl ?_
    refine r_iald (pc' := 189) g dX4_weigh_188 rfl lC_41 (eC_41 w _ _) ?_
    refine r_iconst (pc' := 190) (v := 4) g dX4_weigh_189 rfl rfl ?_
    refine r_imul (pc' := 191) g dX4_weigh_190 rfl ?_
    refine r_iadd (pc' := 192) g dX4_weigh_191 rfl ?_
    refine r_aload_n (pc' := 193) g dX4_weigh_192 rfl rfl ?_
    refine r_get (pc' := 196) g dX4_weigh_193 rfl fl_X4_25 lC_40 (eC_40 w _ _) rfl ?_
    refine r_iload (pc' := 198) g dX4_weigh_196 rfl rfl ?_
    refine r_iald (pc' := 199) g dX4_weigh_198 rfl lC_43 (eC_43 w _ _) ?_
    refine r_iadd (pc' := 200) g dX4_weigh_199 rfl ?_
    refine r_iald (pc' := 201) g dX4_weigh_200 rfl lC_2 (eC_2 w _ _) ?_
    refine r_iast (pc' := 202) g dX4_weigh_201 rfl lC_46 (fun m => eC_46 w m _) ?_
    refine r_ltM (fun M16 => ?_)
    refine r_iinc (pc' := 205) (b := 1) (L' := [rf w 40, .null, .null, .int p3, .int (s + 1)]) g dX4_weigh_202 rfl rfl rfl n4 rfl rfl ?_
    refine r_goto (tgt := 155) g dX4_weigh_205 rfl ?_
    exact r_weak (Ls2 (Ls1 (Ls1 (Ls2 (Ls2 Ls0))))) (hr (s + 1) M16)
set_option maxHeartbeats 4000000 in
set_option maxRecDepth 100000 in
theorem s_X4_weigh_144 {w : W0} {Z : Zx} (g : Good KC w Z cX4_weigh RX4 1) (e2 : Z.2.2.1 = 5) (e3 : Z.2.2.2 = none) (N : Nat) (G : Unit → Mm → Rs) (kG : ∀ (x : Unit) (M : Mm), Sim KC w Z 214 [.null, .null, .null, .null, .null] [] M (G x M)) : ∀ (n : Nat) (s : Int32) (M : Mm), Sim KC w Z 144 [rf w 40, .null, .null, .int s, .null] [] M (itr (B_X4_weigh_144 N G) n s M) := by
  have n3 : 3 < Z.2.2.1 := by rw [e2]; decide
  have n4 : 4 < Z.2.2.1 := by rw [e2]; decide
  refine r_itr (Lf := fun (s : Int32) => [rf w 40, .null, .null, .int s, .null]) (fun rec hr s M => ?_)
  unfold B_X4_weigh_144
  refine r_iload_n (pc' := 145) g dX4_weigh_144 rfl rfl ?_
  refine r_aload_n (pc' := 146) g dX4_weigh_145 rfl rfl ?_
  refine r_get (pc' := 149) g dX4_weigh_146 rfl fl_X4_9 lC_40 (eC_40 w _ _) rfl ?_
  refine r_cge (pc' := 152) (tgt := 214) g dX4_weigh_149 rfl rfl ?_ ?_
  · skip
    exact r_weak (Ls1 (Ls1 (Ls1 (Ls1 (Ls1 Ls0))))) (kG () M)
  · skip
    refine r_iconst (pc' := 153) (v := 0) g dX4_weigh_152 rfl rfl ?_
    refine r_istore (pc' := 155) (L' := [rf w 40, .null, .null, .int s, .int 0]) g dX4_weigh_153 rfl n4 rfl rfl ?_
    refine r_weak (Ls2 (Ls1 (Ls1 (Ls2 (Ls2 Ls0))))) (s_X4_weigh_155 g e2 e3 N s _ (fun z17 M18 => ?_) N 0 M)
    refine r_iinc (pc' := 211) (b := 1) (L' := [rf w 40, .null, .null, .int (s + 1), .null]) g dX4_weigh_208 rfl rfl rfl n3 rfl rfl ?_
    refine r_goto (tgt := 144) g dX4_weigh_211 rfl ?_
    exact r_weak (Ls2 (Ls1 (Ls1 (Ls2 (Ls1 Ls0))))) (hr (s + 1) M18)
set_option maxHeartbeats 4000000 in
set_option maxRecDepth 100000 in
theorem c_X4_weigh (l : Launch) (w : W0) (N : Nat) (a1 : Int32) (a2 : Int32) (M : Mm) : Ct l KC w 1 yX4_weigh cX4_weigh 5 none [rf w 40, .int a1, .int a2] M (f_X4_weigh N a1 a2 M) := by
  refine ct_of [rf w 40, .int a1, .int a2, .null, .null] (by decide) (Nat.le_of_ble_eq_true rfl) rfl (fun Z e1 e2 e3 g => ?_)
  have g : Good KC w Z cX4_weigh RX4 1 := g
  unfold f_X4_weigh
  have n3 : 3 < Z.2.2.1 := by rw [e2]; decide
  refine r_aload_n (pc' := 1) g dX4_weigh_0 rfl rfl ?_
  refine r_iconst (pc' := 2) (v := 0) g dX4_weigh_1 rfl rfl ?_
  refine r_put (pc' := 5) g dX4_weigh_2 rfl fl_X4_9 rfl lC_40 (eC_40 w _ _) (Nat.le_of_ble_eq_true rfl) (sC_40_1 w _ _ _) ?_
  refine r_ltM (fun M1 => ?_)
  refine r_aload_n (pc' := 6) g dX4_weigh_5 rfl rfl ?_
  refine r_iconst (pc' := 7) (v := 0) g dX4_weigh_6 rfl rfl ?_
  refine r_put (pc' := 10) g dX4_weigh_7 rfl fl_X4_22 rfl lC_40 (eC_40 w _ _) (Nat.le_of_ble_eq_true rfl) (sC_40_4 w _ _ _) ?_
  refine r_ltM (fun M2 => ?_)
  refine r_aload_n (pc' := 11) g dX4_weigh_10 rfl rfl ?_
  refine r_get (pc' := 14) g dX4_weigh_11 rfl fl_X4_37 lC_40 (eC_40 w _ _) rfl ?_
  refine r_iconst (pc' := 15) (v := 0) g dX4_weigh_14 rfl rfl ?_
  refine r_callSv (pc' := 18) (As := [rf w 47, .int 0]) (rest := []) g dX4_weigh_15 rfl ml_X4_50 mw_J7_fill_53178 ms_J7_fill_53178 (Nat.le_of_ble_eq_true rfl) (c_J7_fill_53178b _ w N 0 M2) rfl rfl (Nat.le_of_ble_eq_true rfl) (fun r3 M4 => ?_)
  refine r_iconst (pc' := 19) (v := 0) g dX4_weigh_18 rfl rfl ?_
  refine r_istore_n (pc' := 20) (L' := [rf w 40, .int a1, .int a2, .int 0, .null]) g dX4_weigh_19 rfl n3 rfl rfl ?_
  refine r_weak (Ls2 (Ls2 (Ls2 (Ls2 (Ls1 Ls0))))) (s_X4_weigh_20 g e2 e3 N a1 a2 _ (fun z14 M15 => ?_) N 0 M4)
  refine r_iconst (pc' := 143) (v := 0) g dX4_weigh_142 rfl rfl ?_
  refine r_istore_n (pc' := 144) (L' := [rf w 40, .null, .null, .int 0, .null]) g dX4_weigh_143 rfl n3 rfl rfl ?_
  refine r_weak (Ls2 (Ls1 (Ls1 (Ls2 (Ls1 Ls0))))) (s_X4_weigh_144 g e2 e3 N _ (fun z19 M20 => ?_) N 0 M15)
  exact r_vret g e3 dX4_weigh_214
