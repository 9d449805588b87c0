def B_X12_bestOf_12 (N : Nat) (p1 : Int32) (p2 : Int32) (G : Int32 → Mm → Rs) (rec : (Int32 × Int32) → Mm → Rs) (s : Int32 × Int32) (M : Mm) : Rs :=
  if s.2 < 256 then
      (if inb s.2 256 then
      (if (M.1 20 (ix s.2)) = 0 then
        (rec (s.1, s.2 + 1) M)
      else
        (bd (f_X12_worstOf N s.2 p1 p2 M) fun r2 M3 =>
        (if r2 = (-9) then
          (rec (s.1, s.2 + 1) M3)
        else
          (if (M3.1 0 34) < 0 then
            (lt' (wI M3 0 34 s.2) fun M4 =>
            (rec (r2, s.2 + 1) M4))
          else
            (if r2 < s.1 then
              (lt' (wI M3 0 34 s.2) fun M5 =>
              (rec (r2, s.2 + 1) M5))
            else
              (rec (s.1, s.2 + 1) M3)))))) else none)
    else
      (G s.1 M)

def f_X12_bestOf (N : Nat) (a1 : Int32) (a2 : Int32) (M : Mm) : Rs :=
  lt' (wI M 0 34 (-9)) fun M1 =>
  (itr (B_X12_bestOf_12 N a1 a2 fun z6 M7 =>
  (some (z6, M7))) N ((-9), 0) M1)

set_option maxHeartbeats 4000000 in
set_option maxRecDepth 100000 in
theorem s_X12_bestOf_12 {w : W0} {Z : Zx} (g : Good KM w Z cX12_bestOf RX12 1) (e2 : Z.2.2.1 = 6) (e3 : Z.2.2.2 = (some .int)) (N : Nat) (p1 : Int32) (p2 : Int32) (G : Int32 → Mm → Rs) (kG : ∀ (x : Int32) (M : Mm), Sim KM w Z 81 [.null, .null, .null, .int x, .null, .null] [] M (G x M)) : ∀ (n : Nat) (s : Int32 × Int32) (M : Mm), Sim KM w Z 12 [rf w 0, .int p1, .int p2, .int s.1, .int s.2, .null] [] M (itr (B_X12_bestOf_12 N p1 p2 G) n s M) := by
  have n3 : 3 < Z.2.2.1 := by rw [e2]; decide
  have n4 : 4 < Z.2.2.1 := by rw [e2]; decide
  have n5 : 5 < Z.2.2.1 := by rw [e2]; decide
  refine r_itr (Lf := fun (s : Int32 × Int32) => [rf w 0, .int p1, .int p2, .int s.1, .int s.2, .null]) (fun rec hr s M => ?_)
  unfold B_X12_bestOf_12
  refine r_iload (pc' := 14) g dX12_bestOf_12 rfl rfl ?_
  refine r_sipush (pc' := 17) (v := 256) g dX12_bestOf_14 rfl rfl ?_
  refine r_cge (pc' := 20) (tgt := 81) g dX12_bestOf_17 rfl rfl ?_ ?_
  · skip
    exact r_weak (Ls1 (Ls1 (Ls1 (Ls2 (Ls1 (Ls1 Ls0)))))) (kG s.1 M)
  · skip
    refine r_aload_n (pc' := 21) g dX12_bestOf_20 rfl rfl ?_
    refine r_get (pc' := 24) g dX12_bestOf_21 rfl fl_X12_68 lM_0 (eM_0 w _ _) rfl ?_
    refine r_iload (pc' := 26) g dX12_bestOf_24 rfl rfl ?_
    refine r_zald (pc' := 27) g dX12_bestOf_26 rfl lM_20 (eM_20 w _ _) ?_
    refine r_ifne (pc' := 30) (tgt := 33) g dX12_bestOf_27 rfl rfl ?_ ?_
    · skip
      refine r_aload_n (pc' := 34) g dX12_bestOf_33 rfl rfl ?_
      refine r_iload (pc' := 36) g dX12_bestOf_34 rfl rfl ?_
      refine r_iload_n (pc' := 37) g dX12_bestOf_36 rfl rfl ?_
      refine r_iload_n (pc' := 38) g dX12_bestOf_37 rfl rfl ?_
      refine r_callVi (pc' := 41) (As := [.int s.2, .int p1, .int p2]) (rest := []) g dX12_bestOf_38 rfl ml_X12_288 mw_X12_worstOf mv_X12_worstOf (Nat.le_of_ble_eq_true rfl) (c_X12_worstOf _ w N s.2 p1 p2 M) rfl lM_0 (eM_0 w _ _) rfl rfl (Nat.le_of_ble_eq_true rfl) (fun r2 M3 => ?_)
      refine r_istore (pc' := 43) (L' := [rf w 0, .int p1, .int p2, .int s.1, .int s.2, .int r2]) g dX12_bestOf_41 rfl n5 rfl rfl ?_
      refine r_iload (pc' := 45) g dX12_bestOf_43 rfl rfl ?_
      refine r_bipush (pc' := 47) (v := -9) g dX12_bestOf_45 rfl rfl ?_
      refine r_ceq (pc' := 50) (tgt := 75) g dX12_bestOf_47 rfl rfl ?_ ?_
      · skip
        refine r_iinc (pc' := 78) (b := 1) (L' := [rf w 0, .int p1, .int p2, .int s.1, .int (s.2 + 1), .int r2]) g dX12_bestOf_75 rfl rfl rfl n4 rfl rfl ?_
        refine r_goto (tgt := 12) g dX12_bestOf_78 rfl ?_
        exact r_weak (Ls2 (Ls2 (Ls2 (Ls2 (Ls2 (Ls1 Ls0)))))) (hr (s.1, s.2 + 1) M3)
      · skip
        refine r_aload_n (pc' := 51) g dX12_bestOf_50 rfl rfl ?_
        refine r_get (pc' := 54) g dX12_bestOf_51 rfl fl_X12_292 lM_0 (eM_0 w _ _) rfl ?_
        refine r_iflt (pc' := 57) (tgt := 66) g dX12_bestOf_54 rfl rfl ?_ ?_
        · skip
          refine r_aload_n (pc' := 67) g dX12_bestOf_66 rfl rfl ?_
          refine r_iload (pc' := 69) g dX12_bestOf_67 rfl rfl ?_
          refine r_put (pc' := 72) g dX12_bestOf_69 rfl fl_X12_292 rfl lM_0 (eM_0 w _ _) (Nat.le_of_ble_eq_true rfl) (sM_0_34 w _ _ _) ?_
          refine r_ltM (fun M4 => ?_)
          refine r_iload (pc' := 74) g dX12_bestOf_72 rfl rfl ?_
          refine r_istore_n (pc' := 75) (L' := [rf w 0, .int p1, .int p2, .int r2, .int s.2, .int r2]) g dX12_bestOf_74 rfl n3 rfl rfl ?_
          refine r_iinc (pc' := 78) (b := 1) (L' := [rf w 0, .int p1, .int p2, .int r2, .int (s.2 + 1), .int r2]) g dX12_bestOf_75 rfl rfl rfl n4 rfl rfl ?_
          refine r_goto (tgt := 12) g dX12_bestOf_78 rfl ?_
          exact r_weak (Ls2 (Ls2 (Ls2 (Ls2 (Ls2 (Ls1 Ls0)))))) (hr (r2, s.2 + 1) M4)
        · skip
          refine r_iload (pc' := 59) g dX12_bestOf_57 rfl rfl ?_
          refine r_iload_n (pc' := 60) g dX12_bestOf_59 rfl rfl ?_
          refine r_clt (pc' := 63) (tgt := 66) g dX12_bestOf_60 rfl rfl ?_ ?_
          · skip
            refine r_aload_n (pc' := 67) g dX12_bestOf_66 rfl rfl ?_
            refine r_iload (pc' := 69) g dX12_bestOf_67 rfl rfl ?_
            refine r_put (pc' := 72) g dX12_bestOf_69 rfl fl_X12_292 rfl lM_0 (eM_0 w _ _) (Nat.le_of_ble_eq_true rfl) (sM_0_34 w _ _ _) ?_
            refine r_ltM (fun M5 => ?_)
            refine r_iload (pc' := 74) g dX12_bestOf_72 rfl rfl ?_
            refine r_istore_n (pc' := 75) (L' := [rf w 0, .int p1, .int p2, .int r2, .int s.2, .int r2]) g dX12_bestOf_74 rfl n3 rfl rfl ?_
            refine r_iinc (pc' := 78) (b := 1) (L' := [rf w 0, .int p1, .int p2, .int r2, .int (s.2 + 1), .int r2]) g dX12_bestOf_75 rfl rfl rfl n4 rfl rfl ?_
            refine r_goto (tgt := 12) g dX12_bestOf_78 rfl ?_
            exact r_weak (Ls2 (Ls2 (Ls2 (Ls2 (Ls2 (Ls1 Ls0)))))) (hr (r2, s.2 + 1) M5)
          · skip
            refine r_goto (tgt := 75) g dX12_bestOf_63 rfl ?_
            refine r_iinc (pc' := 78) (b := 1) (L' := [rf w 0, .int p1, .int p2, .int s.1, .int (s.2 + 1), .int r2]) g dX12_bestOf_75 rfl rfl rfl n4 rfl rfl ?_
            refine r_goto (tgt := 12) g dX12_bestOf_78 rfl ?_
            exact r_weak (Ls2 (Ls2 (Ls2 (Ls2 (Ls2 (Ls1 Ls0)))))) (hr (s.1, s.2 + 1) M3)
    · skip
      refine r_goto (tgt := 75) g dX12_bestOf_30 rfl ?_
      refine r_iinc (pc' := 78) (b := 1) (L' := [rf w 0, .int p1, .int p2, .int s.1, .int (s.2 + 1), .null]) g dX12_bestOf_75 rfl rfl rfl n4 rfl rfl ?_
      refine r_goto (tgt := 12) g dX12_bestOf_78 rfl ?_
      exact r_weak (Ls2 (Ls2 (Ls2 (Ls2 (Ls2 (Ls1 Ls0)))))) (hr (s.1, s.2 + 1) M)
set_option maxHeartbeats 4000000 in
set_option maxRecDepth 100000 in
theorem c_X12_bestOf (l : Launch) (w : W0) (N : Nat) (a1 : Int32) (a2 : Int32) (M : Mm) : Ct l KM w 1 yX12_bestOf cX12_bestOf 6 (some .int) [rf w 0, .int a1, .int a2] M (f_X12_bestOf N a1 a2 M) := by
  refine ct_of [rf w 0, .int a1, .int a2, .null, .null, .null] (by decide) (Nat.le_of_ble_eq_true rfl) rfl (fun Z e1 e2 e3 g => ?_)
  have g : Good KM w Z cX12_bestOf RX12 1 := g
  unfold f_X12_bestOf
  have n3 : 3 < Z.2.2.1 := by rw [e2]; decide
  have n4 : 4 < Z.2.2.1 := by rw [e2]; decide
  refine r_aload_n (pc' := 1) g dX12_bestOf_0 rfl rfl ?_
  refine r_bipush (pc' := 3) (v := -9) g dX12_bestOf_1 rfl rfl ?_
  refine r_put (pc' := 6) g dX12_bestOf_3 rfl fl_X12_292 rfl lM_0 (eM_0 w _ _) (Nat.le_of_ble_eq_true rfl) (sM_0_34 w _ _ _) ?_
  refine r_ltM (fun M1 => ?_)
  refine r_bipush (pc' := 8) (v := -9) g dX12_bestOf_6 rfl rfl ?_
  refine r_istore_n (pc' := 9) (L' := [rf w 0, .int a1, .int a2, .int (-9), .null, .null]) g dX12_bestOf_8 rfl n3 rfl rfl ?_
  refine r_iconst (pc' := 10) (v := 0) g dX12_bestOf_9 rfl rfl ?_
  refine r_istore (pc' := 12) (L' := [rf w 0, .int a1, .int a2, .int (-9), .int 0, .null]) g dX12_bestOf_10 rfl n4 rfl rfl ?_
  refine r_weak (Ls2 (Ls2 (Ls2 (Ls2 (Ls2 (Ls1 Ls0)))))) (s_X12_bestOf_12 g e2 e3 N a1 a2 _ (fun z6 M7 => ?_) N ((-9), 0) M1)
  refine r_iload_n (pc' := 82) g dX12_bestOf_81 rfl rfl ?_
  exact r_iret g e3 dX12_bestOf_82
def f_X12_best (N : Nat) (a1 : Int32) (M : Mm) : Rs :=
  bd (f_X12_isIn N a1.toInt64 0 1 M) fun r1 M2 =>
  (if r1 = 0 then
    (bd (f_X12_no N (-2) M2) fun r7 M8 =>
    (some (r7, M8)))
  else
    (bd (f_X12_finds N  M2) fun r3 M4 =>
    (bd (f_X12_bestOf N 0 0 M4) fun r5 M6 =>
    (if a1 = 0 then
      (some (M6.1 0 34, M6))
    else
      (some (r5, M6))))))

set_option maxHeartbeats 4000000 in
set_option maxRecDepth 100000 in
theorem c_X12_best (l : Launch) (w : W0) (N : Nat) (a1 : Int32) (M : Mm) : Ct l KM w 6 yX12_best cX12_best 3 (some .int) [rf w 0, .int a1] M (f_X12_best N a1 M) := by
  refine ct_of [rf w 0, .int a1, .null] (by decide) (Nat.le_of_ble_eq_true rfl) rfl (fun Z e1 e2 e3 g => ?_)
  have g : Good KM w Z cX12_best RX12 6 := g
  unfold f_X12_best
  have n2 : 2 < Z.2.2.1 := by rw [e2]; decide
  refine r_iload_n (pc' := 1) g dX12_best_0 rfl rfl ?_
  refine r_i2l (pc' := 2) g dX12_best_1 rfl ?_
  refine r_lconst (pc' := 3) (v := 0) g dX12_best_2 rfl rfl ?_
  refine r_lconst (pc' := 4) (v := 1) g dX12_best_3 rfl rfl ?_
  refine r_callSi (pc' := 7) (As := [.long a1.toInt64, .long 0, .long 1]) (rest := []) g dX12_best_4 rfl ml_X12_109 mw_X12_isIn ms_X12_isIn (Nat.le_of_ble_eq_true rfl) (c_X12_isIn _ w N a1.toInt64 0 1 M) rfl rfl (Nat.le_of_ble_eq_true rfl) (fun r1 M2 => ?_)
  refine r_ifne (pc' := 10) (tgt := 17) g dX12_best_7 rfl rfl ?_ ?_
  · skip
    refine r_aload_n (pc' := 18) g dX12_best_17 rfl rfl ?_
    refine r_callVv (pc' := 21) (As := []) (rest := []) g dX12_best_18 rfl ml_X12_282 mw_X12_finds mv_X12_finds (Nat.le_of_ble_eq_true rfl) (c_X12_finds _ w N  M2) rfl lM_0 (eM_0 w _ _) rfl rfl (Nat.le_of_ble_eq_true rfl) (fun r3 M4 => ?_)
    refine r_aload_n (pc' := 22) g dX12_best_21 rfl rfl ?_
    refine r_iconst (pc' := 23) (v := 0) g dX12_best_22 rfl rfl ?_
    refine r_iconst (pc' := 24) (v := 0) g dX12_best_23 rfl rfl ?_
    refine r_callVi (pc' := 27) (As := [.int 0, .int 0]) (rest := []) g dX12_best_24 rfl ml_X12_295 mw_X12_bestOf mv_X12_bestOf (Nat.le_of_ble_eq_true rfl) (c_X12_bestOf _ w N 0 0 M4) rfl lM_0 (eM_0 w _ _) rfl rfl (Nat.le_of_ble_eq_true rfl) (fun r5 M6 => ?_)
    refine r_istore_n (pc' := 28) (L' := [rf w 0, .int a1, .int r5]) g dX12_best_27 rfl n2 rfl rfl ?_
    refine r_iload_n (pc' := 29) g dX12_best_28 rfl rfl ?_
    refine r_ifne (pc' := 32) (tgt := 39) g dX12_best_29 rfl rfl ?_ ?_
    · skip
      refine r_iload_n (pc' := 40) g dX12_best_39 rfl rfl ?_
      exact r_iret g e3 dX12_best_40
    · skip
      refine r_aload_n (pc' := 33) g dX12_best_32 rfl rfl ?_
      refine r_get (pc' := 36) g dX12_best_33 rfl fl_X12_292 lM_0 (eM_0 w _ _) rfl ?_
      refine r_goto (tgt := 40) g dX12_best_36 rfl ?_
      exact r_iret g e3 dX12_best_40
  · skip
    refine r_aload_n (pc' := 11) g dX12_best_10 rfl rfl ?_
    refine r_bipush (pc' := 13) (v := -2) g dX12_best_11 rfl rfl ?_
    refine r_callVi (pc' := 16) (As := [.int (-2)]) (rest := []) g dX12_best_13 rfl ml_X12_113 mw_X12_no mv_X12_no (Nat.le_of_ble_eq_true rfl) (c_X12_no _ w N (-2) M2) rfl lM_0 (eM_0 w _ _) rfl rfl (Nat.le_of_ble_eq_true rfl) (fun r7 M8 => ?_)
    exact r_iret g e3 dX12_best_16
def B_X12_ruleWorth_151 (N : Nat) (p1 : Int32) (p2 : Int32) (p3 : Int32) (G : Int32 → Mm → Rs) (rec : Int32 → Mm → Rs) (s : Int32) (M : Mm) : Rs :=
  if inb p1 4 then
    (if (M.1 0 22) < (M.1 9 (ix p1)) then
      (if inb ((40 * p1) + (M.1 0 22)) 160 then
      (bd (f_X12_isDigit N (M.1 8 (ix ((40 * p1) + (M.1 0 22)))) M) fun r33 M34 =>
      (if r33 = 0 then
        (G s M34)
      else
        (if inb ((40 * p1) + (M34.1 0 22)) 160 then
        (lt' (((10 * s) + (M34.1 8 (ix ((40 * p1) + (M34.1 0 22))))) - 48) fun x35 =>
        (lt' (wI M34 0 22 ((M34.1 0 22) + 1)) fun M36 =>
        (rec x35 M36))) else none))) else none)
    else
      (G s M)) else none

def B_X12_ruleWorth_15 (N : Nat) (p1 : Int32) (p2 : Int32) (p3 : Int32) (G : Unit → Mm → Rs) (rec : Unit → Mm → Rs) (s : Unit) (M : Mm) : Rs :=
  if inb p1 4 then
    (if (M.1 0 22) < (M.1 9 (ix p1)) then
      (if inb ((40 * p1) + (M.1 0 22)) 160 then
      (lt' (M.1 8 (ix ((40 * p1) + (M.1 0 22)))) fun x4 =>
      (lt' (wI M 0 22 ((M.1 0 22) + 1)) fun M5 =>
      (lt' (fun (s6 : Unit) (M7 : Mm) =>
        ((if inb ((40 * p1) + (M7.1 0 22)) 160 then
        (lt' ((M7.1 8 (ix ((40 * p1) + (M7.1 0 22)))) - 48) fun x9 =>
        (lt' (wI M7 0 22 ((M7.1 0 22) + 1)) fun M10 =>
        (if 3 < x9 then
          (bd (f_X12_push N 0 M10) fun r17 M18 =>
          (rec () M18))
        else
          (if x4 = 120 then
            (bd (f_X12_ferries N p2 x9 M10) fun r13 M14 =>
            (bd (f_X12_push N r13 M14) fun r15 M16 =>
            (rec () M16)))
          else
            (bd (f_X12_push N ((p3 >>> (x9 &&& 31)) &&& 1) M10) fun r11 M12 =>
            (rec () M12)))))) else none) : Rs)) fun jn8 =>
      (if x4 = 120 then
        (jn8 () M5)
      else
        (if x4 = 115 then
          (jn8 () M5)
        else
          (bd (f_X12_isDigit N x4 M5) fun r19 M20 =>
          (if r19 = 0 then
            (if x4 = 41 then
              (bd (f_X12_works N 1 M20) fun r29 M30 =>
              (lt' (wI M30 0 20 ((M30.1 0 20) - 1)) fun M31 =>
              (rec () M31)))
            else
              (if x4 = 40 then
                (bd (f_X12_waitsFor N x4 M20) fun r21 M22 =>
                (rec () M22))
              else
                (bd (f_X12_rank N x4 M20) fun r23 M24 =>
                (bd (f_X12_works N r23 M24) fun r25 M26 =>
                (bd (f_X12_waitsFor N x4 M26) fun r27 M28 =>
                (rec () M28))))))
          else
            (lt' (x4 - 48) fun x32 =>
            (itr (B_X12_ruleWorth_151 N p1 p2 p3 fun z37 M38 =>
            (bd (f_X12_push N z37 M38) fun r39 M40 =>
            (rec () M40))) N x32 M20))))))))) else none)
    else
      (G () M)) else none

def f_X12_ruleWorth (N : Nat) (a1 : Int32) (a2 : Int32) (a3 : Int32) (M : Mm) : Rs :=
  lt' (wI M 0 22 0) fun M1 =>
  (lt' (wI M1 0 20 0) fun M2 =>
  (lt' (wI M2 0 21 0) fun M3 =>
  (itr (B_X12_ruleWorth_15 N a1 a2 a3 fun z41 M42 =>
  (bd (f_X12_works N 1 M42) fun r43 M44 =>
  (some (M44.1 14 (ix 0), M44)))) N () M3)))

set_option maxHeartbeats 4000000 in
set_option maxRecDepth 100000 in
theorem s_X12_ruleWorth_151 {w : W0} {Z : Zx} (g : Good KM w Z cX12_ruleWorth RX12 2) (e2 : Z.2.2.1 = 6) (e3 : Z.2.2.2 = (some .int)) (N : Nat) (p1 : Int32) (p2 : Int32) (p3 : Int32) (G : Int32 → Mm → Rs) (kG : ∀ (x : Int32) (M : Mm), Sim KM w Z 222 [rf w 0, .int p1, .int p2, .int p3, .null, .int x] [] M (G x M)) : ∀ (n : Nat) (s : Int32) (M : Mm), Sim KM w Z 151 [rf w 0, .int p1, .int p2, .int p3, .null, .int s] [] M (itr (B_X12_ruleWorth_151 N p1 p2 p3 G) n s M) := by
  have n5 : 5 < Z.2.2.1 := by rw [e2]; decide
  refine r_itr (Lf := fun (s : Int32) => [rf w 0, .int p1, .int p2, .int p3, .null, .int s]) (fun rec hr s M => ?_)
  unfold B_X12_ruleWorth_151
  refine r_aload_n (pc' := 152) g dX12_ruleWorth_151 rfl rfl ?_
  refine r_get (pc' := 155) g dX12_ruleWorth_152 rfl fl_X12_204 lM_0 (eM_0 w _ _) rfl ?_
  refine r_aload_n (pc' := 156) g dX12_ruleWorth_155 rfl rfl ?_
  refine r_get (pc' := 159) g dX12_ruleWorth_156 rfl fl_X12_34 lM_0 (eM_0 w _ _) rfl ?_
  refine r_iload_n (pc' := 160) g dX12_ruleWorth_159 rfl rfl ?_
  refine r_iald (pc' := 161) g dX12_ruleWorth_160 rfl lM_9 (eM_9 w _ _) ?_
  refine r_cge (pc' := 164) (tgt := 222) g dX12_ruleWorth_161 rfl rfl ?_ ?_
  · skip
    exact r_weak (Ls2 (Ls2 (Ls2 (Ls2 (Ls1 (Ls2 Ls0)))))) (kG s M)
  · skip
    refine r_aload_n (pc' := 165) g dX12_ruleWorth_164 rfl rfl ?_
    refine r_get (pc' := 168) g dX12_ruleWorth_165 rfl fl_X12_31 lM_0 (eM_0 w _ _) rfl ?_
    refine r_bipush (pc' := 170) (v := 40) g dX12_ruleWorth_168 rfl rfl ?_
    refine r_iload_n (pc' := 171) g dX12_ruleWorth_170 rfl rfl ?_
    refine r_imul (pc' := 172) g dX12_ruleWorth_171 rfl ?_
    refine r_aload_n (pc' := 173) g dX12_ruleWorth_172 rfl rfl ?_
    refine r_get (pc' := 176) g dX12_ruleWorth_173 rfl fl_X12_204 lM_0 (eM_0 w _ _) rfl ?_
    refine r_iadd (pc' := 177) g dX12_ruleWorth_176 rfl ?_
    refine r_iald (pc' := 178) g dX12_ruleWorth_177 rfl lM_8 (eM_8 w _ _) ?_
    refine r_callSi (pc' := 181) (As := [.int (M.1 8 (ix ((40 * p1) + (M.1 0 22))))]) (rest := []) g dX12_ruleWorth_178 rfl ml_X12_170 mw_X12_isDigit ms_X12_isDigit (Nat.le_of_ble_eq_true rfl) (c_X12_isDigit _ w N (M.1 8 (ix ((40 * p1) + (M.1 0 22)))) M) rfl rfl (Nat.le_of_ble_eq_true rfl) (fun r33 M34 => ?_)
    refine r_ifeq (pc' := 184) (tgt := 222) g dX12_ruleWorth_181 rfl rfl ?_ ?_
    · skip
      exact r_weak (Ls2 (Ls2 (Ls2 (Ls2 (Ls1 (Ls2 Ls0)))))) (kG s M34)
    · skip
      refine r_bipush (pc' := 186) (v := 10) g dX12_ruleWorth_184 rfl rfl ?_
      refine r_iload (pc' := 188) g dX12_ruleWorth_186 rfl rfl ?_
      refine r_imul (pc' := 189) g dX12_ruleWorth_188 rfl ?_
      refine r_aload_n (pc' := 190) g dX12_ruleWorth_189 rfl rfl ?_
      refine r_get (pc' := 193) g dX12_ruleWorth_190 rfl fl_X12_31 lM_0 (eM_0 w _ _) rfl ?_
      refine r_bipush (pc' := 195) (v := 40) g dX12_ruleWorth_193 rfl rfl ?_
      refine r_iload_n (pc' := 196) g dX12_ruleWorth_195 rfl rfl ?_
      refine r_imul (pc' := 197) g dX12_ruleWorth_196 rfl ?_
      refine r_aload_n (pc' := 198) g dX12_ruleWorth_197 rfl rfl ?_
      refine r_get (pc' := 201) g dX12_ruleWorth_198 rfl fl_X12_204 lM_0 (eM_0 w _ _) rfl ?_
      refine r_iadd (pc' := 202) g dX12_ruleWorth_201 rfl ?_
      refine r_iald (pc' := 203) g dX12_ruleWorth_202 rfl lM_8 (eM_8 w _ _) ?_
      refine r_iadd (pc' := 204) g dX12_ruleWorth_203 rfl ?_
      refine r_bipush (pc' := 206) (v := 48) g dX12_ruleWorth_204 rfl rfl ?_
      refine r_isub (pc' := 207) g dX12_ruleWorth_206 rfl ?_
      refine r_ltI (fun x35 => ?_)
      refine r_istore (pc' := 209) (L' := [rf w 0, .int p1, .int p2, .int p3, .null, .int x35]) g dX12_ruleWorth_207 rfl n5 rfl rfl ?_
      refine r_aload_n (pc' := 210) g dX12_ruleWorth_209 rfl rfl ?_
      refine r_dupa (pc' := 211) g dX12_ruleWorth_210 rfl ?_
      refine r_get (pc' := 214) g dX12_ruleWorth_211 rfl fl_X12_204 lM_0 (eM_0 w _ _) rfl ?_
      refine r_iconst (pc' := 215) (v := 1) g dX12_ruleWorth_214 rfl rfl ?_
      refine r_iadd (pc' := 216) g dX12_ruleWorth_215 rfl ?_
      refine r_put (pc' := 219) g dX12_ruleWorth_216 rfl fl_X12_204 rfl lM_0 (eM_0 w _ _) (Nat.le_of_ble_eq_true rfl) (sM_0_22 w _ _ _) ?_
      refine r_ltM (fun M36 => ?_)
      refine r_goto (tgt := 151) g dX12_ruleWorth_219 rfl ?_
      exact r_weak (Ls2 (Ls2 (Ls2 (Ls2 (Ls1 (Ls2 Ls0)))))) (hr x35 M36)
set_option maxHeartbeats 4000000 in
set_option maxRecDepth 100000 in
theorem s_X12_ruleWorth_15 {w : W0} {Z : Zx} (g : Good KM w Z cX12_ruleWorth RX12 2) (e2 : Z.2.2.1 = 6) (e3 : Z.2.2.2 = (some .int)) (N : Nat) (p1 : Int32) (p2 : Int32) (p3 : Int32) (G : Unit → Mm → Rs) (kG : ∀ (x : Unit) (M : Mm), Sim KM w Z 281 [rf w 0, .null, .null, .null, .null, .null] [] M (G x M)) : ∀ (n : Nat) (s : Unit) (M : Mm), Sim KM w Z 15 [rf w 0, .int p1, .int p2, .int p3, .null, .null] [] M (itr (B_X12_ruleWorth_15 N p1 p2 p3 G) n s M) := by
  have n4 : 4 < Z.2.2.1 := by rw [e2]; decide
  have n5 : 5 < Z.2.2.1 := by rw [e2]; decide
  refine r_itr (Lf := fun (s : Unit) => [rf w 0, .int p1, .int p2, .int p3, .null, .null]) (fun rec hr s M => ?_)
  unfold B_X12_ruleWorth_15
  refine r_aload_n (pc' := 16) g dX12_ruleWorth_15 rfl rfl ?_
  refine r_get (pc' := 19) g dX12_ruleWorth_16 rfl fl_X12_204 lM_0 (eM_0 w _ _) rfl ?_
  refine r_aload_n (pc' := 20) g dX12_ruleWorth_19 rfl rfl ?_
  refine r_get (pc' := 23) g dX12_ruleWorth_20 rfl fl_X12_34 lM_0 (eM_0 w _ _) rfl ?_
  refine r_iload_n (pc' := 24) g dX12_ruleWorth_23 rfl rfl ?_
  refine r_iald (pc' := 25) g dX12_ruleWorth_24 rfl lM_9 (eM_9 w _ _) ?_
  refine r_cge (pc' := 28) (tgt := 281) g dX12_ruleWorth_25 rfl rfl ?_ ?_
  · skip
    exact r_weak (Ls2 (Ls1 (Ls1 (Ls1 (Ls1 (Ls1 Ls0)))))) (kG () M)
  · skip
    refine r_aload_n (pc' := 29) g dX12_ruleWorth_28 rfl rfl ?_
    refine r_get (pc' := 32) g dX12_ruleWorth_29 rfl fl_X12_31 lM_0 (eM_0 w _ _) rfl ?_
    refine r_bipush (pc' := 34) (v := 40) g dX12_ruleWorth_32 rfl rfl ?_
    refine r_iload_n (pc' := 35) g dX12_ruleWorth_34 rfl rfl ?_
    refine r_imul (pc' := 36) g dX12_ruleWorth_35 rfl ?_
    refine r_aload_n (pc' := 37) g dX12_ruleWorth_36 rfl rfl ?_
    refine r_get (pc' := 40) g dX12_ruleWorth_37 rfl fl_X12_204 lM_0 (eM_0 w _ _) rfl ?_
    refine r_iadd (pc' := 41) g dX12_ruleWorth_40 rfl ?_
    refine r_iald (pc' := 42) g dX12_ruleWorth_41 rfl lM_8 (eM_8 w _ _) ?_
    refine r_ltI (fun x4 => ?_)
    refine r_istore (pc' := 44) (L' := [rf w 0, .int p1, .int p2, .int p3, .int x4, .null]) g dX12_ruleWorth_42 rfl n4 rfl rfl ?_
    refine r_aload_n (pc' := 45) g dX12_ruleWorth_44 rfl rfl ?_
    refine r_dupa (pc' := 46) g dX12_ruleWorth_45 rfl ?_
    refine r_get (pc' := 49) g dX12_ruleWorth_46 rfl fl_X12_204 lM_0 (eM_0 w _ _) rfl ?_
    refine r_iconst (pc' := 50) (v := 1) g dX12_ruleWorth_49 rfl rfl ?_
    refine r_iadd (pc' := 51) g dX12_ruleWorth_50 rfl ?_
    refine r_put (pc' := 54) g dX12_ruleWorth_51 rfl fl_X12_204 rfl lM_0 (eM_0 w _ _) (Nat.le_of_ble_eq_true rfl) (sM_0_22 w _ _ _) ?_
    refine r_ltM (fun M5 => ?_)
    refine r_iload (pc' := 56) g dX12_ruleWorth_54 rfl rfl ?_
    refine r_bipush (pc' := 58) (v := 120) g dX12_ruleWorth_56 rfl rfl ?_
    refine r_jn (pj := 68) (Lj := fun (s6 : Unit) => [rf w 0, .int p1, .int p2, .int p3, .int x4, .null]) (stj := fun (s6 : Unit) => []) (fun s6 M7 => ?_) (fun jn8 hjn8 => ?_)
    · skip
      refine r_aload_n (pc' := 69) g dX12_ruleWorth_68 rfl rfl ?_
      refine r_get (pc' := 72) g dX12_ruleWorth_69 rfl fl_X12_31 lM_0 (eM_0 w _ _) rfl ?_
      refine r_bipush (pc' := 74) (v := 40) g dX12_ruleWorth_72 rfl rfl ?_
      refine r_iload_n (pc' := 75) g dX12_ruleWorth_74 rfl rfl ?_
      refine r_imul (pc' := 76) g dX12_ruleWorth_75 rfl ?_
      refine r_aload_n (pc' := 77) g dX12_ruleWorth_76 rfl rfl ?_
      refine r_get (pc' := 80) g dX12_ruleWorth_77 rfl fl_X12_204 lM_0 (eM_0 w _ _) rfl ?_
      refine r_iadd (pc' := 81) g dX12_ruleWorth_80 rfl ?_
      refine r_iald (pc' := 82) g dX12_ruleWorth_81 rfl lM_8 (eM_8 w _ _) ?_
      refine r_bipush (pc' := 84) (v := 48) g dX12_ruleWorth_82 rfl rfl ?_
      refine r_isub (pc' := 85) g dX12_ruleWorth_84 rfl ?_
      refine r_ltI (fun x9 => ?_)
      refine r_istore (pc' := 87) (L' := [rf w 0, .int p1, .int p2, .int p3, .int x4, .int x9]) g dX12_ruleWorth_85 rfl n5 rfl rfl ?_
      refine r_aload_n (pc' := 88) g dX12_ruleWorth_87 rfl rfl ?_
      refine r_dupa (pc' := 89) g dX12_ruleWorth_88 rfl ?_
      refine r_get (pc' := 92) g dX12_ruleWorth_89 rfl fl_X12_204 lM_0 (eM_0 w _ _) rfl ?_
      refine r_iconst (pc' := 93) (v := 1) g dX12_ruleWorth_92 rfl rfl ?_
      refine r_iadd (pc' := 94) g dX12_ruleWorth_93 rfl ?_
      refine r_put (pc' := 97) g dX12_ruleWorth_94 rfl fl_X12_204 rfl lM_0 (eM_0 w _ _) (Nat.le_of_ble_eq_true rfl) (sM_0_22 w _ _ _) ?_
      refine r_ltM (fun M10 => ?_)
      refine r_aload_n (pc' := 98) g dX12_ruleWorth_97 rfl rfl ?_
      refine r_iload (pc' := 100) g dX12_ruleWorth_98 rfl rfl ?_
      refine r_iconst (pc' := 101) (v := 3) g dX12_ruleWorth_100 rfl rfl ?_
      refine r_cle (pc' := 104) (tgt := 108) g dX12_ruleWorth_101 rfl rfl ?_ ?_
      · skip
        refine r_iload (pc' := 110) g dX12_ruleWorth_108 rfl rfl ?_
        refine r_bipush (pc' := 112) (v := 120) g dX12_ruleWorth_110 rfl rfl ?_
        refine r_cne (pc' := 115) (tgt := 124) g dX12_ruleWorth_112 rfl rfl ?_ ?_
        · skip
          refine r_iload_n (pc' := 125) g dX12_ruleWorth_124 rfl rfl ?_
          refine r_iload (pc' := 127) g dX12_ruleWorth_125 rfl rfl ?_
          refine r_ishr (pc' := 128) g dX12_ruleWorth_127 rfl ?_
          refine r_iconst (pc' := 129) (v := 1) g dX12_ruleWorth_128 rfl rfl ?_
          refine r_iand (pc' := 130) g dX12_ruleWorth_129 rfl ?_
          refine r_callVv (pc' := 133) (As := [.int ((p3 >>> (x9 &&& 31)) &&& 1)]) (rest := []) g dX12_ruleWorth_130 rfl ml_X12_219 mw_X12_push mv_X12_push (Nat.le_of_ble_eq_true rfl) (c_X12_push _ w N ((p3 >>> (x9 &&& 31)) &&& 1) M10) rfl lM_0 (eM_0 w _ _) rfl rfl (Nat.le_of_ble_eq_true rfl) (fun r11 M12 => ?_)
          refine r_goto (tgt := 278) g dX12_ruleWorth_133 rfl ?_
          refine r_goto (tgt := 15) g dX12_ruleWorth_278 rfl ?_
          exact r_weak (Ls2 (Ls2 (Ls2 (Ls2 (Ls1 (Ls1 Ls0)))))) (hr () M12)
        · skip
          refine r_iload_n (pc' := 116) g dX12_ruleWorth_115 rfl rfl ?_
          refine r_iload (pc' := 118) g dX12_ruleWorth_116 rfl rfl ?_
          refine r_callSi (pc' := 121) (As := [.int p2, .int x9]) (rest := [rf w 0]) g dX12_ruleWorth_118 rfl ml_X12_155 mw_X12_ferries ms_X12_ferries (Nat.le_of_ble_eq_true rfl) (c_X12_ferries _ w N p2 x9 M10) rfl rfl (Nat.le_of_ble_eq_true rfl) (fun r13 M14 => ?_)
          refine r_goto (tgt := 130) g dX12_ruleWorth_121 rfl ?_
          refine r_callVv (pc' := 133) (As := [.int r13]) (rest := []) g dX12_ruleWorth_130 rfl ml_X12_219 mw_X12_push mv_X12_push (Nat.le_of_ble_eq_true rfl) (c_X12_push _ w N r13 M14) rfl lM_0 (eM_0 w _ _) rfl rfl (Nat.le_of_ble_eq_true rfl) (fun r15 M16 => ?_)
          refine r_goto (tgt := 278) g dX12_ruleWorth_133 rfl ?_
          refine r_goto (tgt := 15) g dX12_ruleWorth_278 rfl ?_
          exact r_weak (Ls2 (Ls2 (Ls2 (Ls2 (Ls1 (Ls1 Ls0)))))) (hr () M16)
      · skip
        refine r_iconst (pc' := 105) (v := 0) g dX12_ruleWorth_104 rfl rfl ?_
        refine r_goto (tgt := 130) g dX12_ruleWorth_105 rfl ?_
        refine r_callVv (pc' := 133) (As := [.int 0]) (rest := []) g dX12_ruleWorth_130 rfl ml_X12_219 mw_X12_push mv_X12_push (Nat.le_of_ble_eq_true rfl) (c_X12_push _ w N 0 M10) rfl lM_0 (eM_0 w _ _) rfl rfl (Nat.le_of_ble_eq_true rfl) (fun r17 M18 => ?_)
        refine r_goto (tgt := 278) g dX12_ruleWorth_133 rfl ?_
        refine r_goto (tgt := 15) g dX12_ruleWorth_278 rfl ?_
        exact r_weak (Ls2 (Ls2 (Ls2 (Ls2 (Ls1 (Ls1 Ls0)))))) (hr () M18)
    refine r_ceq (pc' := 61) (tgt := 68) g dX12_ruleWorth_58 rfl rfl ?_ ?_
    · skip
      exact r_weak (Ls2 (Ls2 (Ls2 (Ls2 (Ls2 (Ls1 Ls0)))))) (hjn8 () M5)
    · skip
      refine r_iload (pc' := 63) g dX12_ruleWorth_61 rfl rfl ?_
      refine r_bipush (pc' := 65) (v := 115) g dX12_ruleWorth_63 rfl rfl ?_
      refine r_cne (pc' := 68) (tgt := 136) g dX12_ruleWorth_65 rfl rfl ?_ ?_
      · skip
        refine r_iload (pc' := 138) g dX12_ruleWorth_136 rfl rfl ?_
        refine r_callSi (pc' := 141) (As := [.int x4]) (rest := []) g dX12_ruleWorth_138 rfl ml_X12_170 mw_X12_isDigit ms_X12_isDigit (Nat.le_of_ble_eq_true rfl) (c_X12_isDigit _ w N x4 M5) rfl rfl (Nat.le_of_ble_eq_true rfl) (fun r19 M20 => ?_)
        refine r_ifeq (pc' := 144) (tgt := 231) g dX12_ruleWorth_141 rfl rfl ?_ ?_
        · skip
          refine r_iload (pc' := 233) g dX12_ruleWorth_231 rfl rfl ?_
          refine r_bipush (pc' := 235) (v := 41) g dX12_ruleWorth_233 rfl rfl ?_
          refine r_cne (pc' := 238) (tgt := 256) g dX12_ruleWorth_235 rfl rfl ?_ ?_
          · skip
            refine r_iload (pc' := 258) g dX12_ruleWorth_256 rfl rfl ?_
            refine r_bipush (pc' := 260) (v := 40) g dX12_ruleWorth_258 rfl rfl ?_
            refine r_ceq (pc' := 263) (tgt := 272) g dX12_ruleWorth_260 rfl rfl ?_ ?_
            · skip
              refine r_aload_n (pc' := 273) g dX12_ruleWorth_272 rfl rfl ?_
              refine r_iload (pc' := 275) g dX12_ruleWorth_273 rfl rfl ?_
              refine r_callVv (pc' := 278) (As := [.int x4]) (rest := []) g dX12_ruleWorth_275 rfl ml_X12_226 mw_X12_waitsFor mv_X12_waitsFor (Nat.le_of_ble_eq_true rfl) (c_X12_waitsFor _ w N x4 M20) rfl lM_0 (eM_0 w _ _) rfl rfl (Nat.le_of_ble_eq_true rfl) (fun r21 M22 => ?_)
              refine r_goto (tgt := 15) g dX12_ruleWorth_278 rfl ?_
              exact r_weak (Ls2 (Ls2 (Ls2 (Ls2 (Ls1 (Ls1 Ls0)))))) (hr () M22)
            · skip
              refine r_aload_n (pc' := 264) g dX12_ruleWorth_263 rfl rfl ?_
              refine r_iload (pc' := 266) g dX12_ruleWorth_264 rfl rfl ?_
              refine r_callSi (pc' := 269) (As := [.int x4]) (rest := [rf w 0]) g dX12_ruleWorth_266 rfl ml_X12_207 mw_X12_rank ms_X12_rank (Nat.le_of_ble_eq_true rfl) (c_X12_rank _ w N x4 M20) rfl rfl (Nat.le_of_ble_eq_true rfl) (fun r23 M24 => ?_)
              refine r_callVv (pc' := 272) (As := [.int r23]) (rest := []) g dX12_ruleWorth_269 rfl ml_X12_223 mw_X12_works mv_X12_works (Nat.le_of_ble_eq_true rfl) (c_X12_works _ w N r23 M24) rfl lM_0 (eM_0 w _ _) rfl rfl (Nat.le_of_ble_eq_true rfl) (fun r25 M26 => ?_)
              refine r_aload_n (pc' := 273) g dX12_ruleWorth_272 rfl rfl ?_
              refine r_iload (pc' := 275) g dX12_ruleWorth_273 rfl rfl ?_
              refine r_callVv (pc' := 278) (As := [.int x4]) (rest := []) g dX12_ruleWorth_275 rfl ml_X12_226 mw_X12_waitsFor mv_X12_waitsFor (Nat.le_of_ble_eq_true rfl) (c_X12_waitsFor _ w N x4 M26) rfl lM_0 (eM_0 w _ _) rfl rfl (Nat.le_of_ble_eq_true rfl) (fun r27 M28 => ?_)
              refine r_goto (tgt := 15) g dX12_ruleWorth_278 rfl ?_
              exact r_weak (Ls2 (Ls2 (Ls2 (Ls2 (Ls1 (Ls1 Ls0)))))) (hr () M28)
          · skip
            refine r_aload_n (pc' := 239) g dX12_ruleWorth_238 rfl rfl ?_
            refine r_iconst (pc' := 240) (v := 1) g dX12_ruleWorth_239 rfl rfl ?_
            refine r_callVv (pc' := 243) (As := [.int 1]) (rest := []) g dX12_ruleWorth_240 rfl ml_X12_223 mw_X12_works mv_X12_works (Nat.le_of_ble_eq_true rfl) (c_X12_works _ w N 1 M20) rfl lM_0 (eM_0 w _ _) rfl rfl (Nat.le_of_ble_eq_true rfl) (fun r29 M30 => ?_)
            refine r_aload_n (pc' := 244) g dX12_ruleWorth_243 rfl rfl ?_
            refine r_dupa (pc' := 245) g dX12_ruleWorth_244 rfl ?_
            refine r_get (pc' := 248) g dX12_ruleWorth_245 rfl fl_X12_201 lM_0 (eM_0 w _ _) rfl ?_
            refine r_iconst (pc' := 249) (v := 1) g dX12_ruleWorth_248 rfl rfl ?_
            refine r_isub (pc' := 250) g dX12_ruleWorth_249 rfl ?_
            refine r_put (pc' := 253) g dX12_ruleWorth_250 rfl fl_X12_201 rfl lM_0 (eM_0 w _ _) (Nat.le_of_ble_eq_true rfl) (sM_0_20 w _ _ _) ?_
            refine r_ltM (fun M31 => ?_)
            refine r_goto (tgt := 278) g dX12_ruleWorth_253 rfl ?_
            refine r_goto (tgt := 15) g dX12_ruleWorth_278 rfl ?_
            exact r_weak (Ls2 (Ls2 (Ls2 (Ls2 (Ls1 (Ls1 Ls0)))))) (hr () M31)
        · skip
          refine r_iload (pc' := 146) g dX12_ruleWorth_144 rfl rfl ?_
          refine r_bipush (pc' := 148) (v := 48) g dX12_ruleWorth_146 rfl rfl ?_
          refine r_isub (pc' := 149) g dX12_ruleWorth_148 rfl ?_
          refine r_ltI (fun x32 => ?_)
          refine r_istore (pc' := 151) (L' := [rf w 0, .int p1, .int p2, .int p3, .int x4, .int x32]) g dX12_ruleWorth_149 rfl n5 rfl rfl ?_
          refine r_weak (Ls2 (Ls2 (Ls2 (Ls2 (Ls1 (Ls2 Ls0)))))) (s_X12_ruleWorth_151 g e2 e3 N p1 p2 p3 _ (fun z37 M38 => ?_) N x32 M20)
          refine r_aload_n (pc' := 223) g dX12_ruleWorth_222 rfl rfl ?_
          refine r_iload (pc' := 225) g dX12_ruleWorth_223 rfl rfl ?_
          refine r_callVv (pc' := 228) (As := [.int z37]) (rest := []) g dX12_ruleWorth_225 rfl ml_X12_219 mw_X12_push mv_X12_push (Nat.le_of_ble_eq_true rfl) (c_X12_push _ w N z37 M38) rfl lM_0 (eM_0 w _ _) rfl rfl (Nat.le_of_ble_eq_true rfl) (fun r39 M40 => ?_)
          refine r_goto (tgt := 278) g dX12_ruleWorth_228 rfl ?_
          refine r_goto (tgt := 15) g dX12_ruleWorth_278 rfl ?_
          exact r_weak (Ls2 (Ls2 (Ls2 (Ls2 (Ls1 (Ls1 Ls0)))))) (hr () M40)
      · skip
        exact r_weak (Ls2 (Ls2 (Ls2 (Ls2 (Ls2 (Ls1 Ls0)))))) (hjn8 () M5)
set_option maxHeartbeats 4000000 in
set_option maxRecDepth 100000 in
theorem c_X12_ruleWorth (l : Launch) (w : W0) (N : Nat) (a1 : Int32) (a2 : Int32) (a3 : Int32) (M : Mm) : Ct l KM w 2 yX12_ruleWorth cX12_ruleWorth 6 (some .int) [rf w 0, .int a1, .int a2, .int a3] M (f_X12_ruleWorth N a1 a2 a3 M) := by
  refine ct_of [rf w 0, .int a1, .int a2, .int a3, .null, .null] (by decide) (Nat.le_of_ble_eq_true rfl) rfl (fun Z e1 e2 e3 g => ?_)
  have g : Good KM w Z cX12_ruleWorth RX12 2 := g
  unfold f_X12_ruleWorth
  refine r_aload_n (pc' := 1) g dX12_ruleWorth_0 rfl rfl ?_
  refine r_iconst (pc' := 2) (v := 0) g dX12_ruleWorth_1 rfl rfl ?_
  refine r_put (pc' := 5) g dX12_ruleWorth_2 rfl fl_X12_204 rfl lM_0 (eM_0 w _ _) (Nat.le_of_ble_eq_true rfl) (sM_0_22 w _ _ _) ?_
  refine r_ltM (fun M1 => ?_)
  refine r_aload_n (pc' := 6) g dX12_ruleWorth_5 rfl rfl ?_
  refine r_iconst (pc' := 7) (v := 0) g dX12_ruleWorth_6 rfl rfl ?_
  refine r_put (pc' := 10) g dX12_ruleWorth_7 rfl fl_X12_201 rfl lM_0 (eM_0 w _ _) (Nat.le_of_ble_eq_true rfl) (sM_0_20 w _ _ _) ?_
  refine r_ltM (fun M2 => ?_)
  refine r_aload_n (pc' := 11) g dX12_ruleWorth_10 rfl rfl ?_
  refine r_iconst (pc' := 12) (v := 0) g dX12_ruleWorth_11 rfl rfl ?_
  refine r_put (pc' := 15) g dX12_ruleWorth_12 rfl fl_X12_198 rfl lM_0 (eM_0 w _ _) (Nat.le_of_ble_eq_true rfl) (sM_0_21 w _ _ _) ?_
  refine r_ltM (fun M3 => ?_)
  refine r_weak (Ls2 (Ls2 (Ls2 (Ls2 (Ls1 (Ls1 Ls0)))))) (s_X12_ruleWorth_15 g e2 e3 N a1 a2 a3 _ (fun z41 M42 => ?_) N () M3)
  refine r_aload_n (pc' := 282) g dX12_ruleWorth_281 rfl rfl ?_
  refine r_iconst (pc' := 283) (v := 1) g dX12_ruleWorth_282 rfl rfl ?_
  refine r_callVv (pc' := 286) (As := [.int 1]) (rest := []) g dX12_ruleWorth_283 rfl ml_X12_223 mw_X12_works mv_X12_works (Nat.le_of_ble_eq_true rfl) (c_X12_works _ w N 1 M42) rfl lM_0 (eM_0 w _ _) rfl rfl (Nat.le_of_ble_eq_true rfl) (fun r43 M44 => ?_)
  refine r_aload_n (pc' := 287) g dX12_ruleWorth_286 rfl rfl ?_
  refine r_get (pc' := 290) g dX12_ruleWorth_287 rfl fl_X12_50 lM_0 (eM_0 w _ _) rfl ?_
  refine r_iconst (pc' := 291) (v := 0) g dX12_ruleWorth_290 rfl rfl ?_
  refine r_ialdc (pc' := 292) g dX12_ruleWorth_291 rfl lM_14 (eM_14 w _ _) rfl ?_
  exact r_iret g e3 dX12_ruleWorth_292
def f_X12_hadOf (N : Nat) (a1 : Int32) (a2 : Int32) (a3 : Int32) (M : Mm) : Rs :=
  bd (f_X12_isThere N a3 M) fun r1 M2 =>
  (if r1 = 0 then
    (some (0, M2))
  else
    (if inb a3 4 then
    (if (M2.1 12 (ix a3)) = 0 then
      (some (0, M2))
    else
      (bd (f_X12_ruleWorth N a3 a1 a2 M2) fun r3 M4 =>
      (if r3 < 0 then
        (some (0, M4))
      else
        (if inb ((6 * a3) + 4) 47 then
        (if (M4.1 2 (ix ((6 * a3) + 4))) < r3 then
          (if inb ((6 * a3) + 4) 47 then
          (some (M4.1 2 (ix ((6 * a3) + 4)), M4)) else none)
        else
          (some (r3, M4))) else none)))) else none))

set_option maxHeartbeats 4000000 in
set_option maxRecDepth 100000 in
theorem c_X12_hadOf (l : Launch) (w : W0) (N : Nat) (a1 : Int32) (a2 : Int32) (a3 : Int32) (M : Mm) : Ct l KM w 3 yX12_hadOf cX12_hadOf 5 (some .int) [rf w 0, .int a1, .int a2, .int a3] M (f_X12_hadOf N a1 a2 a3 M) := by
  refine ct_of [rf w 0, .int a1, .int a2, .int a3, .null] (by decide) (Nat.le_of_ble_eq_true rfl) rfl (fun Z e1 e2 e3 g => ?_)
  have g : Good KM w Z cX12_hadOf RX12 3 := g
  unfold f_X12_hadOf
  have n4 : 4 < Z.2.2.1 := by rw [e2]; decide
  refine r_aload_n (pc' := 1) g dX12_hadOf_0 rfl rfl ?_
  refine r_iload_n (pc' := 2) g dX12_hadOf_1 rfl rfl ?_
  refine r_callVi (pc' := 5) (As := [.int a3]) (rest := []) g dX12_hadOf_2 rfl ml_X12_117 mw_X12_isThere mv_X12_isThere (Nat.le_of_ble_eq_true rfl) (c_X12_isThere _ w N a3 M) rfl lM_0 (eM_0 w _ _) rfl rfl (Nat.le_of_ble_eq_true rfl) (fun r1 M2 => ?_)
  refine r_ifeq (pc' := 8) (tgt := 17) g dX12_hadOf_5 rfl rfl ?_ ?_
  · skip
    refine r_iconst (pc' := 18) (v := 0) g dX12_hadOf_17 rfl rfl ?_
    exact r_iret g e3 dX12_hadOf_18
  · skip
    refine r_aload_n (pc' := 9) g dX12_hadOf_8 rfl rfl ?_
    refine r_get (pc' := 12) g dX12_hadOf_9 rfl fl_X12_44 lM_0 (eM_0 w _ _) rfl ?_
    refine r_iload_n (pc' := 13) g dX12_hadOf_12 rfl rfl ?_
    refine r_zald (pc' := 14) g dX12_hadOf_13 rfl lM_12 (eM_12 w _ _) ?_
    refine r_ifne (pc' := 17) (tgt := 19) g dX12_hadOf_14 rfl rfl ?_ ?_
    · skip
      refine r_aload_n (pc' := 20) g dX12_hadOf_19 rfl rfl ?_
      refine r_iload_n (pc' := 21) g dX12_hadOf_20 rfl rfl ?_
      refine r_iload_n (pc' := 22) g dX12_hadOf_21 rfl rfl ?_
      refine r_iload_n (pc' := 23) g dX12_hadOf_22 rfl rfl ?_
      refine r_callVi (pc' := 26) (As := [.int a3, .int a1, .int a2]) (rest := []) g dX12_hadOf_23 rfl ml_X12_301 mw_X12_ruleWorth mv_X12_ruleWorth (Nat.le_of_ble_eq_true rfl) (c_X12_ruleWorth _ w N a3 a1 a2 M2) rfl lM_0 (eM_0 w _ _) rfl rfl (Nat.le_of_ble_eq_true rfl) (fun r3 M4 => ?_)
      refine r_istore (pc' := 28) (L' := [rf w 0, .int a1, .int a2, .int a3, .int r3]) g dX12_hadOf_26 rfl n4 rfl rfl ?_
      refine r_iload (pc' := 30) g dX12_hadOf_28 rfl rfl ?_
      refine r_ifge (pc' := 33) (tgt := 37) g dX12_hadOf_30 rfl rfl ?_ ?_
      · skip
        refine r_iload (pc' := 39) g dX12_hadOf_37 rfl rfl ?_
        refine r_aload_n (pc' := 40) g dX12_hadOf_39 rfl rfl ?_
        refine r_get (pc' := 43) g dX12_hadOf_40 rfl fl_X12_13 lM_0 (eM_0 w _ _) rfl ?_
        refine r_bipush (pc' := 45) (v := 6) g dX12_hadOf_43 rfl rfl ?_
        refine r_iload_n (pc' := 46) g dX12_hadOf_45 rfl rfl ?_
        refine r_imul (pc' := 47) g dX12_hadOf_46 rfl ?_
        refine r_iconst (pc' := 48) (v := 4) g dX12_hadOf_47 rfl rfl ?_
        refine r_iadd (pc' := 49) g dX12_hadOf_48 rfl ?_
        refine r_iald (pc' := 50) g dX12_hadOf_49 rfl lM_2 (eM_2 w _ _) ?_
        refine r_cle (pc' := 53) (tgt := 67) g dX12_hadOf_50 rfl rfl ?_ ?_
        · skip
          refine r_iload (pc' := 69) g dX12_hadOf_67 rfl rfl ?_
          exact r_iret g e3 dX12_hadOf_69
        · skip
          refine r_aload_n (pc' := 54) g dX12_hadOf_53 rfl rfl ?_
          refine r_get (pc' := 57) g dX12_hadOf_54 rfl fl_X12_13 lM_0 (eM_0 w _ _) rfl ?_
          refine r_bipush (pc' := 59) (v := 6) g dX12_hadOf_57 rfl rfl ?_
          refine r_iload_n (pc' := 60) g dX12_hadOf_59 rfl rfl ?_
          refine r_imul (pc' := 61) g dX12_hadOf_60 rfl ?_
          refine r_iconst (pc' := 62) (v := 4) g dX12_hadOf_61 rfl rfl ?_
          refine r_iadd (pc' := 63) g dX12_hadOf_62 rfl ?_
          refine r_iald (pc' := 64) g dX12_hadOf_63 rfl lM_2 (eM_2 w _ _) ?_
          refine r_goto (tgt := 69) g dX12_hadOf_64 rfl ?_
          exact r_iret g e3 dX12_hadOf_69
      · skip
        refine r_iconst (pc' := 34) (v := 0) g dX12_hadOf_33 rfl rfl ?_
        refine r_goto (tgt := 69) g dX12_hadOf_34 rfl ?_
        exact r_iret g e3 dX12_hadOf_69
    · skip
      refine r_iconst (pc' := 18) (v := 0) g dX12_hadOf_17 rfl rfl ?_
      exact r_iret g e3 dX12_hadOf_18
def f_X12_leftOf (N : Nat) (a1 : Int32) (a2 : Int32) (a3 : Int32) (M : Mm) : Rs :=
  if inb a3 4 then
  (bd (f_X12_hadOf N a1 a2 a3 M) fun r1 M2 =>
  (lt' ((M.1 16 (ix a3)) - r1) fun x3 =>
  (if 0 < x3 then
    (some (x3, M2))
  else
    (some (0, M2))))) else none

set_option maxHeartbeats 4000000 in
set_option maxRecDepth 100000 in
theorem c_X12_leftOf (l : Launch) (w : W0) (N : Nat) (a1 : Int32) (a2 : Int32) (a3 : Int32) (M : Mm) : Ct l KM w 4 yX12_leftOf cX12_leftOf 5 (some .int) [rf w 0, .int a1, .int a2, .int a3] M (f_X12_leftOf N a1 a2 a3 M) := by
  refine ct_of [rf w 0, .int a1, .int a2, .int a3, .null] (by decide) (Nat.le_of_ble_eq_true rfl) rfl (fun Z e1 e2 e3 g => ?_)
  have g : Good KM w Z cX12_leftOf RX12 4 := g
  unfold f_X12_leftOf
  have n4 : 4 < Z.2.2.1 := by rw [e2]; decide
  refine r_aload_n (pc' := 1) g dX12_leftOf_0 rfl rfl ?_
  refine r_get (pc' := 4) g dX12_leftOf_1 rfl fl_X12_56 lM_0 (eM_0 w _ _) rfl ?_
  refine r_iload_n (pc' := 5) g dX12_leftOf_4 rfl rfl ?_
  refine r_iald (pc' := 6) g dX12_leftOf_5 rfl lM_16 (eM_16 w _ _) ?_
  refine r_aload_n (pc' := 7) g dX12_leftOf_6 rfl rfl ?_
  refine r_iload_n (pc' := 8) g dX12_leftOf_7 rfl rfl ?_
  refine r_iload_n (pc' := 9) g dX12_leftOf_8 rfl rfl ?_
  refine r_iload_n (pc' := 10) g dX12_leftOf_9 rfl rfl ?_
  refine r_callVi (pc' := 13) (As := [.int a1, .int a2, .int a3]) (rest := [.int (M.1 16 (ix a3))]) g dX12_leftOf_10 rfl ml_X12_298 mw_X12_hadOf mv_X12_hadOf (Nat.le_of_ble_eq_true rfl) (c_X12_hadOf _ w N a1 a2 a3 M) rfl lM_0 (eM_0 w _ _) rfl rfl (Nat.le_of_ble_eq_true rfl) (fun r1 M2 => ?_)
  refine r_isub (pc' := 14) g dX12_leftOf_13 rfl ?_
  refine r_ltI (fun x3 => ?_)
  refine r_istore (pc' := 16) (L' := [rf w 0, .int a1, .int a2, .int a3, .int x3]) g dX12_leftOf_14 rfl n4 rfl rfl ?_
  refine r_iload (pc' := 18) g dX12_leftOf_16 rfl rfl ?_
  refine r_ifle (pc' := 21) (tgt := 26) g dX12_leftOf_18 rfl rfl ?_ ?_
  · skip
    refine r_iconst (pc' := 27) (v := 0) g dX12_leftOf_26 rfl rfl ?_
    exact r_iret g e3 dX12_leftOf_27
  · skip
    refine r_iload (pc' := 23) g dX12_leftOf_21 rfl rfl ?_
    refine r_goto (tgt := 27) g dX12_leftOf_23 rfl ?_
    exact r_iret g e3 dX12_leftOf_27
def B_X12_byRulesOf_15 (N : Nat) (p1 : Int32) (p2 : Int32) (G : Int32 → Mm → Rs) (rec : (Int32 × Int32) → Mm → Rs) (s : Int32 × Int32) (M : Mm) : Rs :=
  if s.2 < 4 then
      (bd (f_X12_hadOf N p1 p2 s.2 M) fun r5 M6 =>
      (if inb ((6 * s.2) + 3) 47 then
      (bd (f_X12_leftOf N p1 p2 s.2 M6) fun r7 M8 =>
      (lt' (s.1 + ((r5 * (M6.1 2 (ix ((6 * s.2) + 3)))) + (r7 * (M8.1 2 (ix 41))))) fun x9 =>
      (rec (x9, s.2 + 1) M8))) else none))
    else
      (G s.1 M)

def f_X12_byRulesOf (N : Nat) (a1 : Int32) (a2 : Int32) (M : Mm) : Rs :=
  bd (f_X12_hired N a1 M) fun r1 M2 =>
  (bd (f_X12_findLacks N a1 a2 M2) fun r3 M4 =>
  (itr (B_X12_byRulesOf_15 N a1 a2 fun z10 M11 =>
  (some (z10, M11))) N (r1, 0) M4))

set_option maxHeartbeats 4000000 in
set_option maxRecDepth 100000 in
theorem s_X12_byRulesOf_15 {w : W0} {Z : Zx} (g : Good KM w Z cX12_byRulesOf RX12 5) (e2 : Z.2.2.1 = 5) (e3 : Z.2.2.2 = (some .int)) (N : Nat) (p1 : Int32) (p2 : Int32) (G : Int32 → Mm → Rs) (kG : ∀ (x : Int32) (M : Mm), Sim KM w Z 68 [.null, .null, .null, .int x, .null] [] M (G x M)) : ∀ (n : Nat) (s : Int32 × Int32) (M : Mm), Sim KM w Z 15 [rf w 0, .int p1, .int p2, .int s.1, .int s.2] [] M (itr (B_X12_byRulesOf_15 N p1 p2 G) n s M) := by
  have n3 : 3 < Z.2.2.1 := by rw [e2]; decide
  have n4 : 4 < Z.2.2.1 := by rw [e2]; decide
  refine r_itr (Lf := fun (s : Int32 × Int32) => [rf w 0, .int p1, .int p2, .int s.1, .int s.2]) (fun rec hr s M => ?_)
  unfold B_X12_byRulesOf_15
  refine r_iload (pc' := 17) g dX12_byRulesOf_15 rfl rfl ?_
  refine r_iconst (pc' := 18) (v := 4) g dX12_byRulesOf_17 rfl rfl ?_
  refine r_cge (pc' := 21) (tgt := 68) g dX12_byRulesOf_18 rfl rfl ?_ ?_
  · skip
    exact r_weak (Ls1 (Ls1 (Ls1 (Ls2 (Ls1 Ls0))))) (kG s.1 M)
  · skip
    refine r_iload_n (pc' := 22) g dX12_byRulesOf_21 rfl rfl ?_
    refine r_aload_n (pc' := 23) g dX12_byRulesOf_22 rfl rfl ?_
    refine r_iload_n (pc' := 24) g dX12_byRulesOf_23 rfl rfl ?_
    refine r_iload_n (pc' := 25) g dX12_byRulesOf_24 rfl rfl ?_
    refine r_iload (pc' := 27) g dX12_byRulesOf_25 rfl rfl ?_
    refine r_callVi (pc' := 30) (As := [.int p1, .int p2, .int s.2]) (rest := [.int s.1]) g dX12_byRulesOf_27 rfl ml_X12_298 mw_X12_hadOf mv_X12_hadOf (Nat.le_of_ble_eq_true rfl) (c_X12_hadOf _ w N p1 p2 s.2 M) rfl lM_0 (eM_0 w _ _) rfl rfl (Nat.le_of_ble_eq_true rfl) (fun r5 M6 => ?_)
    refine r_aload_n (pc' := 31) g dX12_byRulesOf_30 rfl rfl ?_
    refine r_get (pc' := 34) g dX12_byRulesOf_31 rfl fl_X12_13 lM_0 (eM_0 w _ _) rfl ?_
    refine r_bipush (pc' := 36) (v := 6) g dX12_byRulesOf_34 rfl rfl ?_
    refine r_iload (pc' := 38) g dX12_byRulesOf_36 rfl rfl ?_
    refine r_imul (pc' := 39) g dX12_byRulesOf_38 rfl ?_
    refine r_iconst (pc' := 40) (v := 3) g dX12_byRulesOf_39 rfl rfl ?_
    refine r_iadd (pc' := 41) g dX12_byRulesOf_40 rfl ?_
    refine r_iald (pc' := 42) g dX12_byRulesOf_41 rfl lM_2 (eM_2 w _ _) ?_
    refine r_imul (pc' := 43) g dX12_byRulesOf_42 rfl ?_
    refine r_aload_n (pc' := 44) g dX12_byRulesOf_43 rfl rfl ?_
    refine r_iload_n (pc' := 45) g dX12_byRulesOf_44 rfl rfl ?_
    refine r_iload_n (pc' := 46) g dX12_byRulesOf_45 rfl rfl ?_
    refine r_iload (pc' := 48) g dX12_byRulesOf_46 rfl rfl ?_
    refine r_callVi (pc' := 51) (As := [.int p1, .int p2, .int s.2]) (rest := [.int (r5 * (M6.1 2 (ix ((6 * s.2) + 3)))), .int s.1]) g dX12_byRulesOf_48 rfl ml_X12_304 mw_X12_leftOf mv_X12_leftOf (Nat.le_of_ble_eq_true rfl) (c_X12_leftOf _ w N p1 p2 s.2 M6) rfl lM_0 (eM_0 w _ _) rfl rfl (Nat.le_of_ble_eq_true rfl) (fun r7 M8 => ?_)
    refine r_aload_n (pc' := 52) g dX12_byRulesOf_51 rfl rfl ?_
    refine r_get (pc' := 55) g dX12_byRulesOf_52 rfl fl_X12_13 lM_0 (eM_0 w _ _) rfl ?_
    refine r_bipush (pc' := 57) (v := 41) g dX12_byRulesOf_55 rfl rfl ?_
    refine r_ialdc (pc' := 58) g dX12_byRulesOf_57 rfl lM_2 (eM_2 w _ _) rfl ?_
    refine r_imul (pc' := 59) g dX12_byRulesOf_58 rfl ?_
    refine r_iadd (pc' := 60) g dX12_byRulesOf_59 rfl ?_
    refine r_iadd (pc' := 61) g dX12_byRulesOf_60 rfl ?_
    refine r_ltI (fun x9 => ?_)
    refine r_istore_n (pc' := 62) (L' := [rf w 0, .int p1, .int p2, .int x9, .int s.2]) g dX12_byRulesOf_61 rfl n3 rfl rfl ?_
    refine r_iinc (pc' := 65) (b := 1) (L' := [rf w 0, .int p1, .int p2, .int x9, .int (s.2 + 1)]) g dX12_byRulesOf_62 rfl rfl rfl n4 rfl rfl ?_
    refine r_goto (tgt := 15) g dX12_byRulesOf_65 rfl ?_
    exact r_weak (Ls2 (Ls2 (Ls2 (Ls2 (Ls2 Ls0))))) (hr (x9, s.2 + 1) M8)
set_option maxHeartbeats 4000000 in
set_option maxRecDepth 100000 in
theorem c_X12_byRulesOf (l : Launch) (w : W0) (N : Nat) (a1 : Int32) (a2 : Int32) (M : Mm) : Ct l KM w 5 yX12_byRulesOf cX12_byRulesOf 5 (some .int) [rf w 0, .int a1, .int a2] M (f_X12_byRulesOf N a1 a2 M) := by
  refine ct_of [rf w 0, .int a1, .int a2, .null, .null] (by decide) (Nat.le_of_ble_eq_true rfl) rfl (fun Z e1 e2 e3 g => ?_)
  have g : Good KM w Z cX12_byRulesOf RX12 5 := g
  unfold f_X12_byRulesOf
  have n3 : 3 < Z.2.2.1 := by rw [e2]; decide
  have n4 : 4 < Z.2.2.1 := by rw [e2]; decide
  refine r_aload_n (pc' := 1) g dX12_byRulesOf_0 rfl rfl ?_
  refine r_iload_n (pc' := 2) g dX12_byRulesOf_1 rfl rfl ?_
  refine r_callVi (pc' := 5) (As := [.int a1]) (rest := []) g dX12_byRulesOf_2 rfl ml_X12_273 mw_X12_hired mv_X12_hired (Nat.le_of_ble_eq_true rfl) (c_X12_hired _ w N a1 M) rfl lM_0 (eM_0 w _ _) rfl rfl (Nat.le_of_ble_eq_true rfl) (fun r1 M2 => ?_)
  refine r_istore_n (pc' := 6) (L' := [rf w 0, .int a1, .int a2, .int r1, .null]) g dX12_byRulesOf_5 rfl n3 rfl rfl ?_
  refine r_aload_n (pc' := 7) g dX12_byRulesOf_6 rfl rfl ?_
  refine r_iload_n (pc' := 8) g dX12_byRulesOf_7 rfl rfl ?_
  refine r_iload_n (pc' := 9) g dX12_byRulesOf_8 rfl rfl ?_
  refine r_callVv (pc' := 12) (As := [.int a1, .int a2]) (rest := []) g dX12_byRulesOf_9 rfl ml_X12_244 mw_X12_findLacks mv_X12_findLacks (Nat.le_of_ble_eq_true rfl) (c_X12_findLacks _ w N a1 a2 M2) rfl lM_0 (eM_0 w _ _) rfl rfl (Nat.le_of_ble_eq_true rfl) (fun r3 M4 => ?_)
  refine r_iconst (pc' := 13) (v := 0) g dX12_byRulesOf_12 rfl rfl ?_
  refine r_istore (pc' := 15) (L' := [rf w 0, .int a1, .int a2, .int r1, .int 0]) g dX12_byRulesOf_13 rfl n4 rfl rfl ?_
  refine r_weak (Ls2 (Ls2 (Ls2 (Ls2 (Ls2 Ls0))))) (s_X12_byRulesOf_15 g e2 e3 N a1 a2 _ (fun z10 M11 => ?_) N (r1, 0) M4)
  refine r_iload_n (pc' := 69) g dX12_byRulesOf_68 rfl rfl ?_
  exact r_iret g e3 dX12_byRulesOf_69
def f_X12_byRules (N : Nat) (a1 : Int32) (a2 : Int32) (M : Mm) : Rs :=
  bd (f_X12_isPlan N a1 M) fun r1 M2 =>
  (if r1 = 0 then
    (bd (f_X12_no N (-1) M2) fun r3 M4 =>
    (some (r3, M4)))
  else
    (bd (f_X12_isWorld N a2 M2) fun r5 M6 =>
    (if r5 = 0 then
      (bd (f_X12_no N (-1) M6) fun r7 M8 =>
      (some (r7, M8)))
    else
      (bd (f_X12_byRulesOf N a1 a2 M6) fun r9 M10 =>
      (some (r9, M10))))))

set_option maxHeartbeats 4000000 in
set_option maxRecDepth 100000 in
theorem c_X12_byRules (l : Launch) (w : W0) (N : Nat) (a1 : Int32) (a2 : Int32) (M : Mm) : Ct l KM w 6 yX12_byRules cX12_byRules 3 (some .int) [rf w 0, .int a1, .int a2] M (f_X12_byRules N a1 a2 M) := by
  refine ct_of [rf w 0, .int a1, .int a2] (by decide) (Nat.le_of_ble_eq_true rfl) rfl (fun Z e1 e2 e3 g => ?_)
  have g : Good KM w Z cX12_byRules RX12 6 := g
  unfold f_X12_byRules
  refine r_aload_n (pc' := 1) g dX12_byRules_0 rfl rfl ?_
  refine r_iload_n (pc' := 2) g dX12_byRules_1 rfl rfl ?_
  refine r_callVi (pc' := 5) (As := [.int a1]) (rest := []) g dX12_byRules_2 rfl ml_X12_270 mw_X12_isPlan mv_X12_isPlan (Nat.le_of_ble_eq_true rfl) (c_X12_isPlan _ w N a1 M) rfl lM_0 (eM_0 w _ _) rfl rfl (Nat.le_of_ble_eq_true rfl) (fun r1 M2 => ?_)
  refine r_ifeq (pc' := 8) (tgt := 25) g dX12_byRules_5 rfl rfl ?_ ?_
  · skip
    refine r_aload_n (pc' := 26) g dX12_byRules_25 rfl rfl ?_
    refine r_iconst (pc' := 27) (v := -1) g dX12_byRules_26 rfl rfl ?_
    refine r_callVi (pc' := 30) (As := [.int (-1)]) (rest := []) g dX12_byRules_27 rfl ml_X12_113 mw_X12_no mv_X12_no (Nat.le_of_ble_eq_true rfl) (c_X12_no _ w N (-1) M2) rfl lM_0 (eM_0 w _ _) rfl rfl (Nat.le_of_ble_eq_true rfl) (fun r3 M4 => ?_)
    exact r_iret g e3 dX12_byRules_30
  · skip
    refine r_aload_n (pc' := 9) g dX12_byRules_8 rfl rfl ?_
    refine r_iload_n (pc' := 10) g dX12_byRules_9 rfl rfl ?_
    refine r_callVi (pc' := 13) (As := [.int a2]) (rest := []) g dX12_byRules_10 rfl ml_X12_264 mw_X12_isWorld mv_X12_isWorld (Nat.le_of_ble_eq_true rfl) (c_X12_isWorld _ w N a2 M2) rfl lM_0 (eM_0 w _ _) rfl rfl (Nat.le_of_ble_eq_true rfl) (fun r5 M6 => ?_)
    refine r_ifeq (pc' := 16) (tgt := 25) g dX12_byRules_13 rfl rfl ?_ ?_
    · skip
      refine r_aload_n (pc' := 26) g dX12_byRules_25 rfl rfl ?_
      refine r_iconst (pc' := 27) (v := -1) g dX12_byRules_26 rfl rfl ?_
      refine r_callVi (pc' := 30) (As := [.int (-1)]) (rest := []) g dX12_byRules_27 rfl ml_X12_113 mw_X12_no mv_X12_no (Nat.le_of_ble_eq_true rfl) (c_X12_no _ w N (-1) M6) rfl lM_0 (eM_0 w _ _) rfl rfl (Nat.le_of_ble_eq_true rfl) (fun r7 M8 => ?_)
      exact r_iret g e3 dX12_byRules_30
    · skip
      refine r_aload_n (pc' := 17) g dX12_byRules_16 rfl rfl ?_
      refine r_iload_n (pc' := 18) g dX12_byRules_17 rfl rfl ?_
      refine r_iload_n (pc' := 19) g dX12_byRules_18 rfl rfl ?_
      refine r_callVi (pc' := 22) (As := [.int a1, .int a2]) (rest := []) g dX12_byRules_19 rfl ml_X12_307 mw_X12_byRulesOf mv_X12_byRulesOf (Nat.le_of_ble_eq_true rfl) (c_X12_byRulesOf _ w N a1 a2 M6) rfl lM_0 (eM_0 w _ _) rfl rfl (Nat.le_of_ble_eq_true rfl) (fun r9 M10 => ?_)
      refine r_goto (tgt := 30) g dX12_byRules_22 rfl ?_
      exact r_iret g e3 dX12_byRules_30
def B_X12_ruled_41 (N : Nat) (p1 : Int32) (p2 : Int32) (G : Int32 → Mm → Rs) (rec : (Int32 × Int32) → Mm → Rs) (s : Int32 × Int32) (M : Mm) : Rs :=
  if s.2 < 16 then
      (if inb s.2 16 then
      (if (M.1 19 (ix s.2)) = 0 then
        (rec (s.1, s.2 + 1) M)
      else
        (bd (f_X12_byRulesOf N p1 s.2 M) fun r7 M8 =>
        (if s.1 < r7 then
          (bd (f_X12_byRulesOf N p1 s.2 M8) fun r9 M10 =>
          (rec (r9, s.2 + 1) M10))
        else
          (rec (s.1, s.2 + 1) M8)))) else none)
    else
      (G s.1 M)

def f_X12_ruled (N : Nat) (a1 : Int32) (a2 : Int32) (M : Mm) : Rs :=
  bd (f_X12_isPlan N a1 M) fun r1 M2 =>
  (if r1 = 0 then
    (bd (f_X12_no N (-1) M2) fun r17 M18 =>
    (some (r17, M18)))
  else
    (bd (f_X12_isIn N a2.toInt64 0 1 M2) fun r3 M4 =>
    (if r3 = 0 then
      (bd (f_X12_no N (-2) M4) fun r15 M16 =>
      (some (r15, M16)))
    else
      (bd (f_X12_finds N  M4) fun r5 M6 =>
      (itr (B_X12_ruled_41 N a1 a2 fun z11 M12 =>
      (if z11 = (-9) then
        (some (z11, M12))
      else
        (if a2 = 0 then
          (some (z11, M12))
        else
          (bd (f_X12_worstOf N a1 0 0 M12) fun r13 M14 =>
          (some (z11 - r13, M14)))))) N ((-9), 0) M6)))))

set_option maxHeartbeats 4000000 in
set_option maxRecDepth 100000 in
theorem s_X12_ruled_41 {w : W0} {Z : Zx} (g : Good KM w Z cX12_ruled RX12 6) (e2 : Z.2.2.1 = 5) (e3 : Z.2.2.2 = (some .int)) (N : Nat) (p1 : Int32) (p2 : Int32) (G : Int32 → Mm → Rs) (kG : ∀ (x : Int32) (M : Mm), Sim KM w Z 83 [rf w 0, .int p1, .int p2, .int x, .null] [] M (G x M)) : ∀ (n : Nat) (s : Int32 × Int32) (M : Mm), Sim KM w Z 41 [rf w 0, .int p1, .int p2, .int s.1, .int s.2] [] M (itr (B_X12_ruled_41 N p1 p2 G) n s M) := by
  have n3 : 3 < Z.2.2.1 := by rw [e2]; decide
  have n4 : 4 < Z.2.2.1 := by rw [e2]; decide
  refine r_itr (Lf := fun (s : Int32 × Int32) => [rf w 0, .int p1, .int p2, .int s.1, .int s.2]) (fun rec hr s M => ?_)
  unfold B_X12_ruled_41
  refine r_iload (pc' := 43) g dX12_ruled_41 rfl rfl ?_
  refine r_bipush (pc' := 45) (v := 16) g dX12_ruled_43 rfl rfl ?_
  refine r_cge (pc' := 48) (tgt := 83) g dX12_ruled_45 rfl rfl ?_ ?_
  · skip
    exact r_weak (Ls2 (Ls2 (Ls2 (Ls2 (Ls1 Ls0))))) (kG s.1 M)
  · skip
    refine r_aload_n (pc' := 49) g dX12_ruled_48 rfl rfl ?_
    refine r_get (pc' := 52) g dX12_ruled_49 rfl fl_X12_65 lM_0 (eM_0 w _ _) rfl ?_
    refine r_iload (pc' := 54) g dX12_ruled_52 rfl rfl ?_
    refine r_zald (pc' := 55) g dX12_ruled_54 rfl lM_19 (eM_19 w _ _) ?_
    refine r_ifeq (pc' := 58) (tgt := 77) g dX12_ruled_55 rfl rfl ?_ ?_
    · skip
      refine r_iinc (pc' := 80) (b := 1) (L' := [rf w 0, .int p1, .int p2, .int s.1, .int (s.2 + 1)]) g dX12_ruled_77 rfl rfl rfl n4 rfl rfl ?_
      refine r_goto (tgt := 41) g dX12_ruled_80 rfl ?_
      exact r_weak (Ls2 (Ls2 (Ls2 (Ls2 (Ls2 Ls0))))) (hr (s.1, s.2 + 1) M)
    · skip
      refine r_aload_n (pc' := 59) g dX12_ruled_58 rfl rfl ?_
      refine r_iload_n (pc' := 60) g dX12_ruled_59 rfl rfl ?_
      refine r_iload (pc' := 62) g dX12_ruled_60 rfl rfl ?_
      refine r_callVi (pc' := 65) (As := [.int p1, .int s.2]) (rest := []) g dX12_ruled_62 rfl ml_X12_307 mw_X12_byRulesOf mv_X12_byRulesOf (Nat.le_of_ble_eq_true rfl) (c_X12_byRulesOf _ w N p1 s.2 M) rfl lM_0 (eM_0 w _ _) rfl rfl (Nat.le_of_ble_eq_true rfl) (fun r7 M8 => ?_)
      refine r_iload_n (pc' := 66) g dX12_ruled_65 rfl rfl ?_
      refine r_cle (pc' := 69) (tgt := 77) g dX12_ruled_66 rfl rfl ?_ ?_
      · skip
        refine r_iinc (pc' := 80) (b := 1) (L' := [rf w 0, .int p1, .int p2, .int s.1, .int (s.2 + 1)]) g dX12_ruled_77 rfl rfl rfl n4 rfl rfl ?_
        refine r_goto (tgt := 41) g dX12_ruled_80 rfl ?_
        exact r_weak (Ls2 (Ls2 (Ls2 (Ls2 (Ls2 Ls0))))) (hr (s.1, s.2 + 1) M8)
      · skip
        refine r_aload_n (pc' := 70) g dX12_ruled_69 rfl rfl ?_
        refine r_iload_n (pc' := 71) g dX12_ruled_70 rfl rfl ?_
        refine r_iload (pc' := 73) g dX12_ruled_71 rfl rfl ?_
        refine r_callVi (pc' := 76) (As := [.int p1, .int s.2]) (rest := []) g dX12_ruled_73 rfl ml_X12_307 mw_X12_byRulesOf mv_X12_byRulesOf (Nat.le_of_ble_eq_true rfl) (c_X12_byRulesOf _ w N p1 s.2 M8) rfl lM_0 (eM_0 w _ _) rfl rfl (Nat.le_of_ble_eq_true rfl) (fun r9 M10 => ?_)
        refine r_istore_n (pc' := 77) (L' := [rf w 0, .int p1, .int p2, .int r9, .int s.2]) g dX12_ruled_76 rfl n3 rfl rfl ?_
        refine r_iinc (pc' := 80) (b := 1) (L' := [rf w 0, .int p1, .int p2, .int r9, .int (s.2 + 1)]) g dX12_ruled_77 rfl rfl rfl n4 rfl rfl ?_
        refine r_goto (tgt := 41) g dX12_ruled_80 rfl ?_
        exact r_weak (Ls2 (Ls2 (Ls2 (Ls2 (Ls2 Ls0))))) (hr (r9, s.2 + 1) M10)
set_option maxHeartbeats 4000000 in
set_option maxRecDepth 100000 in
theorem c_X12_ruled (l : Launch) (w : W0) (N : Nat) (a1 : Int32) (a2 : Int32) (M : Mm) : Ct l KM w 6 yX12_ruled cX12_ruled 5 (some .int) [rf w 0, .int a1, .int a2] M (f_X12_ruled N a1 a2 M) := by
  refine ct_of [rf w 0, .int a1, .int a2, .null, .null] (by decide) (Nat.le_of_ble_eq_true rfl) rfl (fun Z e1 e2 e3 g => ?_)
  have g : Good KM w Z cX12_ruled RX12 6 := g
  unfold f_X12_ruled
  have n3 : 3 < Z.2.2.1 := by rw [e2]; decide
  have n4 : 4 < Z.2.2.1 := by rw [e2]; decide
  refine r_aload_n (pc' := 1) g dX12_ruled_0 rfl rfl ?_
  refine r_iload_n (pc' := 2) g dX12_ruled_1 rfl rfl ?_
  refine r_callVi (pc' := 5) (As := [.int a1]) (rest := []) g dX12_ruled_2 rfl ml_X12_270 mw_X12_isPlan mv_X12_isPlan (Nat.le_of_ble_eq_true rfl) (c_X12_isPlan _ w N a1 M) rfl lM_0 (eM_0 w _ _) rfl rfl (Nat.le_of_ble_eq_true rfl) (fun r1 M2 => ?_)
  refine r_ifne (pc' := 8) (tgt := 14) g dX12_ruled_5 rfl rfl ?_ ?_
  · skip
    refine r_iload_n (pc' := 15) g dX12_ruled_14 rfl rfl ?_
    refine r_i2l (pc' := 16) g dX12_ruled_15 rfl ?_
    refine r_lconst (pc' := 17) (v := 0) g dX12_ruled_16 rfl rfl ?_
    refine r_lconst (pc' := 18) (v := 1) g dX12_ruled_17 rfl rfl ?_
    refine r_callSi (pc' := 21) (As := [.long a2.toInt64, .long 0, .long 1]) (rest := []) g dX12_ruled_18 rfl ml_X12_109 mw_X12_isIn ms_X12_isIn (Nat.le_of_ble_eq_true rfl) (c_X12_isIn _ w N a2.toInt64 0 1 M2) rfl rfl (Nat.le_of_ble_eq_true rfl) (fun r3 M4 => ?_)
    refine r_ifne (pc' := 24) (tgt := 31) g dX12_ruled_21 rfl rfl ?_ ?_
    · skip
      refine r_aload_n (pc' := 32) g dX12_ruled_31 rfl rfl ?_
      refine r_callVv (pc' := 35) (As := []) (rest := []) g dX12_ruled_32 rfl ml_X12_282 mw_X12_finds mv_X12_finds (Nat.le_of_ble_eq_true rfl) (c_X12_finds _ w N  M4) rfl lM_0 (eM_0 w _ _) rfl rfl (Nat.le_of_ble_eq_true rfl) (fun r5 M6 => ?_)
      refine r_bipush (pc' := 37) (v := -9) g dX12_ruled_35 rfl rfl ?_
      refine r_istore_n (pc' := 38) (L' := [rf w 0, .int a1, .int a2, .int (-9), .null]) g dX12_ruled_37 rfl n3 rfl rfl ?_
      refine r_iconst (pc' := 39) (v := 0) g dX12_ruled_38 rfl rfl ?_
      refine r_istore (pc' := 41) (L' := [rf w 0, .int a1, .int a2, .int (-9), .int 0]) g dX12_ruled_39 rfl n4 rfl rfl ?_
      refine r_weak (Ls2 (Ls2 (Ls2 (Ls2 (Ls2 Ls0))))) (s_X12_ruled_41 g e2 e3 N a1 a2 _ (fun z11 M12 => ?_) N ((-9), 0) M6)
      refine r_iload_n (pc' := 84) g dX12_ruled_83 rfl rfl ?_
      refine r_bipush (pc' := 86) (v := -9) g dX12_ruled_84 rfl rfl ?_
      refine r_ceq (pc' := 89) (tgt := 93) g dX12_ruled_86 rfl rfl ?_ ?_
      · skip
        refine r_iload_n (pc' := 94) g dX12_ruled_93 rfl rfl ?_
        refine r_goto (tgt := 106) g dX12_ruled_94 rfl ?_
        exact r_iret g e3 dX12_ruled_106
      · skip
        refine r_iload_n (pc' := 90) g dX12_ruled_89 rfl rfl ?_
        refine r_ifne (pc' := 93) (tgt := 97) g dX12_ruled_90 rfl rfl ?_ ?_
        · skip
          refine r_iload_n (pc' := 98) g dX12_ruled_97 rfl rfl ?_
          refine r_aload_n (pc' := 99) g dX12_ruled_98 rfl rfl ?_
          refine r_iload_n (pc' := 100) g dX12_ruled_99 rfl rfl ?_
          refine r_iconst (pc' := 101) (v := 0) g dX12_ruled_100 rfl rfl ?_
          refine r_iconst (pc' := 102) (v := 0) g dX12_ruled_101 rfl rfl ?_
          refine r_callVi (pc' := 105) (As := [.int a1, .int 0, .int 0]) (rest := [.int z11]) g dX12_ruled_102 rfl ml_X12_288 mw_X12_worstOf mv_X12_worstOf (Nat.le_of_ble_eq_true rfl) (c_X12_worstOf _ w N a1 0 0 M12) rfl lM_0 (eM_0 w _ _) rfl rfl (Nat.le_of_ble_eq_true rfl) (fun r13 M14 => ?_)
          refine r_isub (pc' := 106) g dX12_ruled_105 rfl ?_
          exact r_iret g e3 dX12_ruled_106
        · skip
          refine r_iload_n (pc' := 94) g dX12_ruled_93 rfl rfl ?_
          refine r_goto (tgt := 106) g dX12_ruled_94 rfl ?_
          exact r_iret g e3 dX12_ruled_106
    · skip
      refine r_aload_n (pc' := 25) g dX12_ruled_24 rfl rfl ?_
      refine r_bipush (pc' := 27) (v := -2) g dX12_ruled_25 rfl rfl ?_
      refine r_callVi (pc' := 30) (As := [.int (-2)]) (rest := []) g dX12_ruled_27 rfl ml_X12_113 mw_X12_no mv_X12_no (Nat.le_of_ble_eq_true rfl) (c_X12_no _ w N (-2) M4) rfl lM_0 (eM_0 w _ _) rfl rfl (Nat.le_of_ble_eq_true rfl) (fun r15 M16 => ?_)
      exact r_iret g e3 dX12_ruled_30
  · skip
    refine r_aload_n (pc' := 9) g dX12_ruled_8 rfl rfl ?_
    refine r_iconst (pc' := 10) (v := -1) g dX12_ruled_9 rfl rfl ?_
    refine r_callVi (pc' := 13) (As := [.int (-1)]) (rest := []) g dX12_ruled_10 rfl ml_X12_113 mw_X12_no mv_X12_no (Nat.le_of_ble_eq_true rfl) (c_X12_no _ w N (-1) M2) rfl lM_0 (eM_0 w _ _) rfl rfl (Nat.le_of_ble_eq_true rfl) (fun r17 M18 => ?_)
    exact r_iret g e3 dX12_ruled_13
def B_X12_borneMost_4 (N : Nat) (p1 : Int32) (G : Int32 → Mm → Rs) (rec : (Int32 × Int32) → Mm → Rs) (s : Int32 × Int32) (M : Mm) : Rs :=
  if s.2 < 16 then
      (if inb s.2 16 then
      (if (M.1 22 (ix s.2)) = 0 then
        (rec (s.1, s.2 + 1) M)
      else
        (if inb ((16 * p1) + s.2) 4096 then
        (if s.1 < (M.1 18 (ix ((16 * p1) + s.2))) then
          (if inb ((16 * p1) + s.2) 4096 then
          (lt' (M.1 18 (ix ((16 * p1) + s.2))) fun x1 =>
          (rec (x1, s.2 + 1) M)) else none)
        else
          (rec (s.1, s.2 + 1) M)) else none)) else none)
    else
      (G s.1 M)

def f_X12_borneMost (N : Nat) (a1 : Int32) (M : Mm) : Rs :=
  itr (B_X12_borneMost_4 N a1 fun z2 M3 =>
  (some (z2, M3))) N ((-1), 0) M

set_option maxHeartbeats 4000000 in
set_option maxRecDepth 100000 in
theorem s_X12_borneMost_4 {w : W0} {Z : Zx} (g : Good KM w Z cX12_borneMost RX12 0) (e2 : Z.2.2.1 = 4) (e3 : Z.2.2.2 = (some .int)) (N : Nat) (p1 : Int32) (G : Int32 → Mm → Rs) (kG : ∀ (x : Int32) (M : Mm), Sim KM w Z 56 [.null, .null, .int x, .null] [] M (G x M)) : ∀ (n : Nat) (s : Int32 × Int32) (M : Mm), Sim KM w Z 4 [rf w 0, .int p1, .int s.1, .int s.2] [] M (itr (B_X12_borneMost_4 N p1 G) n s M) := by
  have n2 : 2 < Z.2.2.1 := by rw [e2]; decide
  have n3 : 3 < Z.2.2.1 := by rw [e2]; decide
  refine r_itr (Lf := fun (s : Int32 × Int32) => [rf w 0, .int p1, .int s.1, .int s.2]) (fun rec hr s M => ?_)
  unfold B_X12_borneMost_4
  refine r_iload_n (pc' := 5) g dX12_borneMost_4 rfl rfl ?_
  refine r_bipush (pc' := 7) (v := 16) g dX12_borneMost_5 rfl rfl ?_
  refine r_cge (pc' := 10) (tgt := 56) g dX12_borneMost_7 rfl rfl ?_ ?_
  · skip
    exact r_weak (Ls1 (Ls1 (Ls2 (Ls1 Ls0)))) (kG s.1 M)
  · skip
    refine r_aload_n (pc' := 11) g dX12_borneMost_10 rfl rfl ?_
    refine r_get (pc' := 14) g dX12_borneMost_11 rfl fl_X12_74 lM_0 (eM_0 w _ _) rfl ?_
    refine r_iload_n (pc' := 15) g dX12_borneMost_14 rfl rfl ?_
    refine r_zald (pc' := 16) g dX12_borneMost_15 rfl lM_22 (eM_22 w _ _) ?_
    refine r_ifeq (pc' := 19) (tgt := 48) g dX12_borneMost_16 rfl rfl ?_ ?_
    · skip
      refine r_iload_n (pc' := 49) g dX12_borneMost_48 rfl rfl ?_
      refine r_istore_n (pc' := 50) (L' := [rf w 0, .int p1, .int s.1, .int s.2]) g dX12_borneMost_49 rfl n2 rfl rfl ?_
      refine r_iinc (pc' := 53) (b := 1) (L' := [rf w 0, .int p1, .int s.1, .int (s.2 + 1)]) g dX12_borneMost_50 rfl rfl rfl n3 rfl rfl ?_
      refine r_goto (tgt := 4) g dX12_borneMost_53 rfl ?_
      exact r_weak (Ls2 (Ls2 (Ls2 (Ls2 Ls0)))) (hr (s.1, s.2 + 1) M)
    · skip
      refine r_aload_n (pc' := 20) g dX12_borneMost_19 rfl rfl ?_
      refine r_get (pc' := 23) g dX12_borneMost_20 rfl fl_X12_62 lM_0 (eM_0 w _ _) rfl ?_
      refine r_bipush (pc' := 25) (v := 16) g dX12_borneMost_23 rfl rfl ?_
      refine r_iload_n (pc' := 26) g dX12_borneMost_25 rfl rfl ?_
      refine r_imul (pc' := 27) g dX12_borneMost_26 rfl ?_
      refine r_iload_n (pc' := 28) g dX12_borneMost_27 rfl rfl ?_
      refine r_iadd (pc' := 29) g dX12_borneMost_28 rfl ?_
      refine r_iald (pc' := 30) g dX12_borneMost_29 rfl lM_18 (eM_18 w _ _) ?_
      refine r_iload_n (pc' := 31) g dX12_borneMost_30 rfl rfl ?_
      refine r_cle (pc' := 34) (tgt := 48) g dX12_borneMost_31 rfl rfl ?_ ?_
      · skip
        refine r_iload_n (pc' := 49) g dX12_borneMost_48 rfl rfl ?_
        refine r_istore_n (pc' := 50) (L' := [rf w 0, .int p1, .int s.1, .int s.2]) g dX12_borneMost_49 rfl n2 rfl rfl ?_
        refine r_iinc (pc' := 53) (b := 1) (L' := [rf w 0, .int p1, .int s.1, .int (s.2 + 1)]) g dX12_borneMost_50 rfl rfl rfl n3 rfl rfl ?_
        refine r_goto (tgt := 4) g dX12_borneMost_53 rfl ?_
        exact r_weak (Ls2 (Ls2 (Ls2 (Ls2 Ls0)))) (hr (s.1, s.2 + 1) M)
      · skip
        refine r_aload_n (pc' := 35) g dX12_borneMost_34 rfl rfl ?_
        refine r_get (pc' := 38) g dX12_borneMost_35 rfl fl_X12_62 lM_0 (eM_0 w _ _) rfl ?_
        refine r_bipush (pc' := 40) (v := 16) g dX12_borneMost_38 rfl rfl ?_
        refine r_iload_n (pc' := 41) g dX12_borneMost_40 rfl rfl ?_
        refine r_imul (pc' := 42) g dX12_borneMost_41 rfl ?_
        refine r_iload_n (pc' := 43) g dX12_borneMost_42 rfl rfl ?_
        refine r_iadd (pc' := 44) g dX12_borneMost_43 rfl ?_
        refine r_iald (pc' := 45) g dX12_borneMost_44 rfl lM_18 (eM_18 w _ _) ?_
        refine r_goto (tgt := 49) g dX12_borneMost_45 rfl ?_
        refine r_ltI (fun x1 => ?_)
        refine r_istore_n (pc' := 50) (L' := [rf w 0, .int p1, .int x1, .int s.2]) g dX12_borneMost_49 rfl n2 rfl rfl ?_
        refine r_iinc (pc' := 53) (b := 1) (L' := [rf w 0, .int p1, .int x1, .int (s.2 + 1)]) g dX12_borneMost_50 rfl rfl rfl n3 rfl rfl ?_
        refine r_goto (tgt := 4) g dX12_borneMost_53 rfl ?_
        exact r_weak (Ls2 (Ls2 (Ls2 (Ls2 Ls0)))) (hr (x1, s.2 + 1) M)
set_option maxHeartbeats 4000000 in
set_option maxRecDepth 100000 in
theorem c_X12_borneMost (l : Launch) (w : W0) (N : Nat) (a1 : Int32) (M : Mm) : Ct l KM w 0 yX12_borneMost cX12_borneMost 4 (some .int) [rf w 0, .int a1] M (f_X12_borneMost N a1 M) := by
  refine ct_of [rf w 0, .int a1, .null, .null] (by decide) (Nat.le_of_ble_eq_true rfl) rfl (fun Z e1 e2 e3 g => ?_)
  have g : Good KM w Z cX12_borneMost RX12 0 := g
  unfold f_X12_borneMost
  have n2 : 2 < Z.2.2.1 := by rw [e2]; decide
  have n3 : 3 < Z.2.2.1 := by rw [e2]; decide
  refine r_iconst (pc' := 1) (v := -1) g dX12_borneMost_0 rfl rfl ?_
  refine r_istore_n (pc' := 2) (L' := [rf w 0, .int a1, .int (-1), .null]) g dX12_borneMost_1 rfl n2 rfl rfl ?_
  refine r_iconst (pc' := 3) (v := 0) g dX12_borneMost_2 rfl rfl ?_
  refine r_istore_n (pc' := 4) (L' := [rf w 0, .int a1, .int (-1), .int 0]) g dX12_borneMost_3 rfl n3 rfl rfl ?_
  refine r_weak (Ls2 (Ls2 (Ls2 (Ls2 Ls0)))) (s_X12_borneMost_4 g e2 e3 N a1 _ (fun z2 M3 => ?_) N ((-1), 0) M)
  refine r_iload_n (pc' := 57) g dX12_borneMost_56 rfl rfl ?_
  exact r_iret g e3 dX12_borneMost_57
def B_X12_close_50 (N : Nat) (p1 : Int32) (p2 : Int32) (G : Int32 → Mm → Rs) (rec : (Int32 × Int32) → Mm → Rs) (s : Int32 × Int32) (M : Mm) : Rs :=
  if s.2 < 0 then
      (G s.1 M)
    else
      (if inb s.2 16 then
      (lt' (wI M 22 (ix s.2) (zn 0)) fun M7 =>
      (if inb s.2 16 then
      (if (M7.1 19 (ix s.2)) = 0 then
        (lt' (s.2 + (-1)) fun x8 =>
        (rec (s.1, x8) M7))
      else
        (lt' (s.2 + (-1)) fun x9 =>
        (rec (s.2, x9) M7))) else none)) else none)

def B_X12_close_144 (N : Nat) (p1 : Int32) (p2 : Int32) (p6 : Int32) (p7 : Int32) (p8 : Int32) (G : Int32 → Mm → Rs) (rec : (Int32 × Int32) → Mm → Rs) (s : Int32 × Int32) (M : Mm) : Rs :=
  if s.2 < 256 then
      (if inb s.2 256 then
      (if (M.1 20 (ix s.2)) = 0 then
        (rec (s.1, s.2 + 1) M)
      else
        (if s.1 < 0 then
          (rec (s.2, s.2 + 1) M)
        else
          (bd (f_X12_borneMost N s.2 M) fun r13 M14 =>
          (bd (f_X12_borneMost N s.1 M14) fun r15 M16 =>
          (if r13 < r15 then
            (rec (s.2, s.2 + 1) M16)
          else
            (rec (s.1, s.2 + 1) M16)))))) else none)
    else
      (G s.1 M)

def B_X12_close_124 (N : Nat) (p1 : Int32) (p2 : Int32) (G : (Int32 × Int32 × Int32 × Int32 × Int32) → Mm → Rs) (rec : (Int32 × Int32 × Int32 × Int32 × Int32) → Mm → Rs) (s : Int32 × Int32 × Int32 × Int32 × Int32) (M : Mm) : Rs :=
  if s.2.2.2.1 < p1 then
      (if s.2.2.2.2 = 0 then
        (itr (B_X12_close_144 N p1 p2 s.2.1 s.2.2.1 (s.2.2.2.1 + 1) fun z17 M18 =>
        (bd (f_X12_borneMost N z17 M18) fun r19 M20 =>
        (bd (f_X12_worstOf N z17 0 0 M20) fun r21 M22 =>
        (lt' (fun (s23 : Int32 × Int32) (M24 : Mm) =>
          ((lt' (fun (s26 : Int32) (M27 : Mm) =>
            ((if s26 = 0 then
              (if inb (M27.1 0 33) 16 then
              (lt' (wI M27 22 (ix (M27.1 0 33)) (zn 1)) fun M29 =>
              (rec (r19, s23.1, s23.2, s.2.2.2.1 + 1, s26) M29)) else none)
            else
              (rec (r19, s23.1, s23.2, s.2.2.2.1 + 1, s26) M27)) : Rs)) fun jn28 =>
          (if s23.1 = r19 then
            (jn28 1 M24)
          else
            (jn28 0 M24))) : Rs)) fun jn25 =>
        (lt' (fun (s30 : Unit) (M31 : Mm) =>
          ((jn25 (r21, z17) M31) : Rs)) fun jn32 =>
        (if s.2.1 < 0 then
          (jn32 () M22)
        else
          (if r21 < s.2.1 then
            (jn32 () M22)
          else
            (jn25 (s.2.1, s.2.2.1) M22)))))))) N ((-1), 0) M)
      else
        (G (s.1, s.2.1, s.2.2.1, s.2.2.2.1, s.2.2.2.2) M))
    else
      (G (s.1, s.2.1, s.2.2.1, s.2.2.2.1, s.2.2.2.2) M)

def B_X12_close_268 (N : Nat) (p2 : Int32) (p5 : Int32) (p6 : Int32) (p7 : Int32) (p8 : Int32) (p9 : Int32) (G : Int32 → Mm → Rs) (rec : (Int32 × Int32) → Mm → Rs) (s : Int32 × Int32) (M : Mm) : Rs :=
  if s.2 < 16 then
      (if inb s.2 16 then
      (if (M.1 22 (ix s.2)) = 0 then
        (lt' (s.1 + 0) fun x35 =>
        (rec (x35, s.2 + 1) M))
      else
        (lt' (s.1 + 1) fun x36 =>
        (rec (x36, s.2 + 1) M))) else none)
    else
      (G s.1 M)

def f_X12_close (N : Nat) (a1 : Int32) (a2 : Int32) (M : Mm) : Rs :=
  bd (f_X12_isIn N a2.toInt64 0 5 M) fun r1 M2 =>
  (if r1 = 0 then
    (bd (f_X12_no N (-2) M2) fun r41 M42 =>
    (some (r41, M42)))
  else
    (bd (f_X12_outOf N a1.toInt64 1 99 M2) fun r3 M4 =>
    (if r3 = 0 then
      (bd (f_X12_finds N  M4) fun r5 M6 =>
      (itr (B_X12_close_50 N a1 a2 fun z10 M11 =>
      (if inb z10 16 then
      (if (M11.1 19 (ix z10)) = 0 then
        (some ((-9), M11))
      else
        (if inb z10 16 then
        (lt' (wI M11 22 (ix z10) (zn 1)) fun M12 =>
        (itr (B_X12_close_124 N a1 a2 fun z33 M34 =>
        (itr (B_X12_close_268 N a2 z33.1 z33.2.1 z33.2.2.1 z33.2.2.2.1 z33.2.2.2.2 fun z37 M38 =>
        (if a2 = 0 then
          (some (z33.1, M38))
        else
          (if a2 = 1 then
            (some (z33.2.1, M38))
          else
            (if a2 = 2 then
              (some (z33.2.2.1, M38))
            else
              (if a2 = 3 then
                (some (z33.2.2.2.1, M38))
              else
                (if a2 = 4 then
                  (some (z37, M38))
                else
                  (if z33.2.2.2.2 = 0 then
                    (some (0, M38))
                  else
                    (some (1, M38))))))))) N (0, 0) M34)) N (0, (-1), 0, 0, 0) M12)) else none)) else none)) N (0, 15) M6))
    else
      (bd (f_X12_no N r3 M4) fun r39 M40 =>
      (some (r39, M40))))))

set_option maxHeartbeats 4000000 in
set_option maxRecDepth 100000 in
theorem s_X12_close_50 {w : W0} {Z : Zx} (g : Good KM w Z cX12_close RX12 6) (e2 : Z.2.2.1 = 12) (e3 : Z.2.2.2 = (some .int)) (N : Nat) (p1 : Int32) (p2 : Int32) (G : Int32 → Mm → Rs) (kG : ∀ (x : Int32) (M : Mm), Sim KM w Z 88 [rf w 0, .int p1, .int p2, .null, .int x, .null, .null, .null, .null, .null, .null, .null] [] M (G x M)) : ∀ (n : Nat) (s : Int32 × Int32) (M : Mm), Sim KM w Z 50 [rf w 0, .int p1, .int p2, .null, .int s.1, .int s.2, .null, .null, .null, .null, .null, .null] [] M (itr (B_X12_close_50 N p1 p2 G) n s M) := by
  have n4 : 4 < Z.2.2.1 := by rw [e2]; decide
  have n5 : 5 < Z.2.2.1 := by rw [e2]; decide
  refine r_itr (Lf := fun (s : Int32 × Int32) => [rf w 0, .int p1, .int p2, .null, .int s.1, .int s.2, .null, .null, .null, .null, .null, .null]) (fun rec hr s M => ?_)
  unfold B_X12_close_50
  refine r_iload (pc' := 52) g dX12_close_50 rfl rfl ?_
  refine r_iflt (pc' := 55) (tgt := 88) g dX12_close_52 rfl rfl ?_ ?_
  · skip
    exact r_weak (Ls2 (Ls2 (Ls2 (Ls1 (Ls2 (Ls1 (Ls1 (Ls1 (Ls1 (Ls1 (Ls1 (Ls1 Ls0)))))))))))) (kG s.1 M)
  · skip
    refine r_aload_n (pc' := 56) g dX12_close_55 rfl rfl ?_
    refine r_get (pc' := 59) g dX12_close_56 rfl fl_X12_74 lM_0 (eM_0 w _ _) rfl ?_
    refine r_iload (pc' := 61) g dX12_close_59 rfl rfl ?_
    refine r_iconst (pc' := 62) (v := 0) g dX12_close_61 rfl rfl ?_
    refine r_zast (pc' := 63) g dX12_close_62 rfl lM_22 (fun m => eM_22 w m _) ?_
    refine r_ltM (fun M7 => ?_)
    refine r_aload_n (pc' := 64) g dX12_close_63 rfl rfl ?_
    refine r_get (pc' := 67) g dX12_close_64 rfl fl_X12_65 lM_0 (eM_0 w _ _) rfl ?_
    refine r_iload (pc' := 69) g dX12_close_67 rfl rfl ?_
    refine r_zald (pc' := 70) g dX12_close_69 rfl lM_19 (eM_19 w _ _) ?_
    refine r_ifeq (pc' := 73) (tgt := 78) g dX12_close_70 rfl rfl ?_ ?_
    · skip
      refine r_iload (pc' := 80) g dX12_close_78 rfl rfl ?_
      refine r_istore (pc' := 82) (L' := [rf w 0, .int p1, .int p2, .null, .int s.1, .int s.2, .null, .null, .null, .null, .null, .null]) g dX12_close_80 rfl n4 rfl rfl ?_
      refine r_iincn (pc' := 85) (b := -1) (L' := fun x8 => [rf w 0, .int p1, .int p2, .null, .int s.1, .int x8, .null, .null, .null, .null, .null, .null]) g dX12_close_82 rfl rfl rfl n5 rfl (fun _ => rfl) (fun x8 => ?_)
      refine r_goto (tgt := 50) g dX12_close_85 rfl ?_
      exact r_weak (Ls2 (Ls2 (Ls2 (Ls1 (Ls2 (Ls2 (Ls1 (Ls1 (Ls1 (Ls1 (Ls1 (Ls1 Ls0)))))))))))) (hr (s.1, x8) M7)
    · skip
      refine r_iload (pc' := 75) g dX12_close_73 rfl rfl ?_
      refine r_goto (tgt := 80) g dX12_close_75 rfl ?_
      refine r_istore (pc' := 82) (L' := [rf w 0, .int p1, .int p2, .null, .int s.2, .int s.2, .null, .null, .null, .null, .null, .null]) g dX12_close_80 rfl n4 rfl rfl ?_
      refine r_iincn (pc' := 85) (b := -1) (L' := fun x9 => [rf w 0, .int p1, .int p2, .null, .int s.2, .int x9, .null, .null, .null, .null, .null, .null]) g dX12_close_82 rfl rfl rfl n5 rfl (fun _ => rfl) (fun x9 => ?_)
      refine r_goto (tgt := 50) g dX12_close_85 rfl ?_
      exact r_weak (Ls2 (Ls2 (Ls2 (Ls1 (Ls2 (Ls2 (Ls1 (Ls1 (Ls1 (Ls1 (Ls1 (Ls1 Ls0)))))))))))) (hr (s.2, x9) M7)
set_option maxHeartbeats 4000000 in
set_option maxRecDepth 100000 in
theorem s_X12_close_144 {w : W0} {Z : Zx} (g : Good KM w Z cX12_close RX12 6) (e2 : Z.2.2.1 = 12) (e3 : Z.2.2.2 = (some .int)) (N : Nat) (p1 : Int32) (p2 : Int32) (p6 : Int32) (p7 : Int32) (p8 : Int32) (G : Int32 → Mm → Rs) (kG : ∀ (x : Int32) (M : Mm), Sim KM w Z 192 [rf w 0, .int p1, .int p2, .null, .null, .null, .int p6, .int p7, .int p8, .null, .int x, .null] [] M (G x M)) : ∀ (n : Nat) (s : Int32 × Int32) (M : Mm), Sim KM w Z 144 [rf w 0, .int p1, .int p2, .null, .null, .null, .int p6, .int p7, .int p8, .null, .int s.1, .int s.2] [] M (itr (B_X12_close_144 N p1 p2 p6 p7 p8 G) n s M) := by
  have n10 : 10 < Z.2.2.1 := by rw [e2]; decide
  have n11 : 11 < Z.2.2.1 := by rw [e2]; decide
  refine r_itr (Lf := fun (s : Int32 × Int32) => [rf w 0, .int p1, .int p2, .null, .null, .null, .int p6, .int p7, .int p8, .null, .int s.1, .int s.2]) (fun rec hr s M => ?_)
  unfold B_X12_close_144
  refine r_iload (pc' := 146) g dX12_close_144 rfl rfl ?_
  refine r_sipush (pc' := 149) (v := 256) g dX12_close_146 rfl rfl ?_
  refine r_cge (pc' := 152) (tgt := 192) g dX12_close_149 rfl rfl ?_ ?_
  · skip
    exact r_weak (Ls2 (Ls2 (Ls2 (Ls1 (Ls1 (Ls1 (Ls2 (Ls2 (Ls2 (Ls1 (Ls2 (Ls1 Ls0)))))))))))) (kG s.1 M)
  · skip
    refine r_aload_n (pc' := 153) g dX12_close_152 rfl rfl ?_
    refine r_get (pc' := 156) g dX12_close_153 rfl fl_X12_68 lM_0 (eM_0 w _ _) rfl ?_
    refine r_iload (pc' := 158) g dX12_close_156 rfl rfl ?_
    refine r_zald (pc' := 159) g dX12_close_158 rfl lM_20 (eM_20 w _ _) ?_
    refine r_ifeq (pc' := 162) (tgt := 186) g dX12_close_159 rfl rfl ?_ ?_
    · skip
      refine r_iinc (pc' := 189) (b := 1) (L' := [rf w 0, .int p1, .int p2, .null, .null, .null, .int p6, .int p7, .int p8, .null, .int s.1, .int (s.2 + 1)]) g dX12_close_186 rfl rfl rfl n11 rfl rfl ?_
      refine r_goto (tgt := 144) g dX12_close_189 rfl ?_
      exact r_weak (Ls2 (Ls2 (Ls2 (Ls1 (Ls1 (Ls1 (Ls2 (Ls2 (Ls2 (Ls1 (Ls2 (Ls2 Ls0)))))))))))) (hr (s.1, s.2 + 1) M)
    · skip
      refine r_iload (pc' := 164) g dX12_close_162 rfl rfl ?_
      refine r_iflt (pc' := 167) (tgt := 182) g dX12_close_164 rfl rfl ?_ ?_
      · skip
        refine r_iload (pc' := 184) g dX12_close_182 rfl rfl ?_
        refine r_istore (pc' := 186) (L' := [rf w 0, .int p1, .int p2, .null, .null, .null, .int p6, .int p7, .int p8, .null, .int s.2, .int s.2]) g dX12_close_184 rfl n10 rfl rfl ?_
        refine r_iinc (pc' := 189) (b := 1) (L' := [rf w 0, .int p1, .int p2, .null, .null, .null, .int p6, .int p7, .int p8, .null, .int s.2, .int (s.2 + 1)]) g dX12_close_186 rfl rfl rfl n11 rfl rfl ?_
        refine r_goto (tgt := 144) g dX12_close_189 rfl ?_
        exact r_weak (Ls2 (Ls2 (Ls2 (Ls1 (Ls1 (Ls1 (Ls2 (Ls2 (Ls2 (Ls1 (Ls2 (Ls2 Ls0)))))))))))) (hr (s.2, s.2 + 1) M)
      · skip
        refine r_aload_n (pc' := 168) g dX12_close_167 rfl rfl ?_
        refine r_iload (pc' := 170) g dX12_close_168 rfl rfl ?_
        refine r_callVi (pc' := 173) (As := [.int s.2]) (rest := []) g dX12_close_170 rfl ml_X12_310 mw_X12_borneMost mv_X12_borneMost (Nat.le_of_ble_eq_true rfl) (c_X12_borneMost _ w N s.2 M) rfl lM_0 (eM_0 w _ _) rfl rfl (Nat.le_of_ble_eq_true rfl) (fun r13 M14 => ?_)
        refine r_aload_n (pc' := 174) g dX12_close_173 rfl rfl ?_
        refine r_iload (pc' := 176) g dX12_close_174 rfl rfl ?_
        refine r_callVi (pc' := 179) (As := [.int s.1]) (rest := [.int r13]) g dX12_close_176 rfl ml_X12_310 mw_X12_borneMost mv_X12_borneMost (Nat.le_of_ble_eq_true rfl) (c_X12_borneMost _ w N s.1 M14) rfl lM_0 (eM_0 w _ _) rfl rfl (Nat.le_of_ble_eq_true rfl) (fun r15 M16 => ?_)
        refine r_cge (pc' := 182) (tgt := 186) g dX12_close_179 rfl rfl ?_ ?_
        · skip
          refine r_iinc (pc' := 189) (b := 1) (L' := [rf w 0, .int p1, .int p2, .null, .null, .null, .int p6, .int p7, .int p8, .null, .int s.1, .int (s.2 + 1)]) g dX12_close_186 rfl rfl rfl n11 rfl rfl ?_
          refine r_goto (tgt := 144) g dX12_close_189 rfl ?_
          exact r_weak (Ls2 (Ls2 (Ls2 (Ls1 (Ls1 (Ls1 (Ls2 (Ls2 (Ls2 (Ls1 (Ls2 (Ls2 Ls0)))))))))))) (hr (s.1, s.2 + 1) M16)
        · skip
          refine r_iload (pc' := 184) g dX12_close_182 rfl rfl ?_
          refine r_istore (pc' := 186) (L' := [rf w 0, .int p1, .int p2, .null, .null, .null, .int p6, .int p7, .int p8, .null, .int s.2, .int s.2]) g dX12_close_184 rfl n10 rfl rfl ?_
          refine r_iinc (pc' := 189) (b := 1) (L' := [rf w 0, .int p1, .int p2, .null, .null, .null, .int p6, .int p7, .int p8, .null, .int s.2, .int (s.2 + 1)]) g dX12_close_186 rfl rfl rfl n11 rfl rfl ?_
          refine r_goto (tgt := 144) g dX12_close_189 rfl ?_
          exact r_weak (Ls2 (Ls2 (Ls2 (Ls1 (Ls1 (Ls1 (Ls2 (Ls2 (Ls2 (Ls1 (Ls2 (Ls2 Ls0)))))))))))) (hr (s.2, s.2 + 1) M16)
set_option maxHeartbeats 4000000 in
set_option maxRecDepth 100000 in
theorem s_X12_close_124 {w : W0} {Z : Zx} (g : Good KM w Z cX12_close RX12 6) (e2 : Z.2.2.1 = 12) (e3 : Z.2.2.2 = (some .int)) (N : Nat) (p1 : Int32) (p2 : Int32) (G : (Int32 × Int32 × Int32 × Int32 × Int32) → Mm → Rs) (kG : ∀ (x : Int32 × Int32 × Int32 × Int32 × Int32) (M : Mm), Sim KM w Z 262 [rf w 0, .null, .int p2, .null, .null, .int x.1, .int x.2.1, .int x.2.2.1, .int x.2.2.2.1, .int x.2.2.2.2, .null, .null] [] M (G x M)) : ∀ (n : Nat) (s : Int32 × Int32 × Int32 × Int32 × Int32) (M : Mm), Sim KM w Z 124 [rf w 0, .int p1, .int p2, .null, .null, .int s.1, .int s.2.1, .int s.2.2.1, .int s.2.2.2.1, .int s.2.2.2.2, .null, .null] [] M (itr (B_X12_close_124 N p1 p2 G) n s M) := by
  have n5 : 5 < Z.2.2.1 := by rw [e2]; decide
  have n6 : 6 < Z.2.2.1 := by rw [e2]; decide
  have n7 : 7 < Z.2.2.1 := by rw [e2]; decide
  have n8 : 8 < Z.2.2.1 := by rw [e2]; decide
  have n9 : 9 < Z.2.2.1 := by rw [e2]; decide
  have n10 : 10 < Z.2.2.1 := by rw [e2]; decide
  have n11 : 11 < Z.2.2.1 := by rw [e2]; decide
  refine r_itr (Lf := fun (s : Int32 × Int32 × Int32 × Int32 × Int32) => [rf w 0, .int p1, .int p2, .null, .null, .int s.1, .int s.2.1, .int s.2.2.1, .int s.2.2.2.1, .int s.2.2.2.2, .null, .null]) (fun rec hr s M => ?_)
  unfold B_X12_close_124
  refine r_iload (pc' := 126) g dX12_close_124 rfl rfl ?_
  refine r_iload_n (pc' := 127) g dX12_close_126 rfl rfl ?_
  refine r_cge (pc' := 130) (tgt := 262) g dX12_close_127 rfl rfl ?_ ?_
  · skip
    exact r_weak (Ls2 (Ls1 (Ls2 (Ls1 (Ls1 (Ls2 (Ls2 (Ls2 (Ls2 (Ls2 (Ls1 (Ls1 Ls0)))))))))))) (kG (s.1, s.2.1, s.2.2.1, s.2.2.2.1, s.2.2.2.2) M)
  · skip
    refine r_iload (pc' := 132) g dX12_close_130 rfl rfl ?_
    refine r_ifne (pc' := 135) (tgt := 262) g dX12_close_132 rfl rfl ?_ ?_
    · skip
      exact r_weak (Ls2 (Ls1 (Ls2 (Ls1 (Ls1 (Ls2 (Ls2 (Ls2 (Ls2 (Ls2 (Ls1 (Ls1 Ls0)))))))))))) (kG (s.1, s.2.1, s.2.2.1, s.2.2.2.1, s.2.2.2.2) M)
    · skip
      refine r_iinc (pc' := 138) (b := 1) (L' := [rf w 0, .int p1, .int p2, .null, .null, .int s.1, .int s.2.1, .int s.2.2.1, .int (s.2.2.2.1 + 1), .int s.2.2.2.2, .null, .null]) g dX12_close_135 rfl rfl rfl n8 rfl rfl ?_
      refine r_iconst (pc' := 139) (v := -1) g dX12_close_138 rfl rfl ?_
      refine r_istore (pc' := 141) (L' := [rf w 0, .int p1, .int p2, .null, .null, .int s.1, .int s.2.1, .int s.2.2.1, .int (s.2.2.2.1 + 1), .int s.2.2.2.2, .int (-1), .null]) g dX12_close_139 rfl n10 rfl rfl ?_
      refine r_iconst (pc' := 142) (v := 0) g dX12_close_141 rfl rfl ?_
      refine r_istore (pc' := 144) (L' := [rf w 0, .int p1, .int p2, .null, .null, .int s.1, .int s.2.1, .int s.2.2.1, .int (s.2.2.2.1 + 1), .int s.2.2.2.2, .int (-1), .int 0]) g dX12_close_142 rfl n11 rfl rfl ?_
      refine r_weak (Ls2 (Ls2 (Ls2 (Ls1 (Ls1 (Ls1 (Ls2 (Ls2 (Ls2 (Ls1 (Ls2 (Ls2 Ls0)))))))))))) (s_X12_close_144 g e2 e3 N p1 p2 s.2.1 s.2.2.1 (s.2.2.2.1 + 1) _ (fun z17 M18 => ?_) N ((-1), 0) M)
      refine r_aload_n (pc' := 193) g dX12_close_192 rfl rfl ?_
      refine r_iload (pc' := 195) g dX12_close_193 rfl rfl ?_
      refine r_callVi (pc' := 198) (As := [.int z17]) (rest := []) g dX12_close_195 rfl ml_X12_310 mw_X12_borneMost mv_X12_borneMost (Nat.le_of_ble_eq_true rfl) (c_X12_borneMost _ w N z17 M18) rfl lM_0 (eM_0 w _ _) rfl rfl (Nat.le_of_ble_eq_true rfl) (fun r19 M20 => ?_)
      refine r_istore (pc' := 200) (L' := [rf w 0, .int p1, .int p2, .null, .null, .int r19, .int s.2.1, .int s.2.2.1, .int (s.2.2.2.1 + 1), .null, .int z17, .null]) g dX12_close_198 rfl n5 rfl rfl ?_
      refine r_aload_n (pc' := 201) g dX12_close_200 rfl rfl ?_
      refine r_iload (pc' := 203) g dX12_close_201 rfl rfl ?_
      refine r_iconst (pc' := 204) (v := 0) g dX12_close_203 rfl rfl ?_
      refine r_iconst (pc' := 205) (v := 0) g dX12_close_204 rfl rfl ?_
      refine r_callVi (pc' := 208) (As := [.int z17, .int 0, .int 0]) (rest := []) g dX12_close_205 rfl ml_X12_288 mw_X12_worstOf mv_X12_worstOf (Nat.le_of_ble_eq_true rfl) (c_X12_worstOf _ w N z17 0 0 M20) rfl lM_0 (eM_0 w _ _) rfl rfl (Nat.le_of_ble_eq_true rfl) (fun r21 M22 => ?_)
      refine r_istore (pc' := 210) (L' := [rf w 0, .int p1, .int p2, .null, .null, .int r19, .int s.2.1, .int s.2.2.1, .int (s.2.2.2.1 + 1), .null, .int z17, .int r21]) g dX12_close_208 rfl n11 rfl rfl ?_
      refine r_iload (pc' := 212) g dX12_close_210 rfl rfl ?_
      refine r_jn (pj := 230) (Lj := fun (s23 : Int32 × Int32) => [rf w 0, .int p1, .int p2, .null, .null, .int r19, .int s23.1, .int s23.2, .int (s.2.2.2.1 + 1), .null, .null, .null]) (stj := fun (s23 : Int32 × Int32) => []) (fun s23 M24 => ?_) (fun jn25 hjn25 => ?_)
      · skip
        refine r_iload (pc' := 232) g dX12_close_230 rfl rfl ?_
        refine r_iload (pc' := 234) g dX12_close_232 rfl rfl ?_
        refine r_jn (pj := 242) (Lj := fun (s26 : Int32) => [rf w 0, .int p1, .int p2, .null, .null, .int r19, .int s23.1, .int s23.2, .int (s.2.2.2.1 + 1), .null, .null, .null]) (stj := fun (s26 : Int32) => [.int s26]) (fun s26 M27 => ?_) (fun jn28 hjn28 => ?_)
        · skip
          refine r_istore (pc' := 244) (L' := [rf w 0, .int p1, .int p2, .null, .null, .int r19, .int s23.1, .int s23.2, .int (s.2.2.2.1 + 1), .int s26, .null, .null]) g dX12_close_242 rfl n9 rfl rfl ?_
          refine r_iload (pc' := 246) g dX12_close_244 rfl rfl ?_
          refine r_ifne (pc' := 249) (tgt := 259) g dX12_close_246 rfl rfl ?_ ?_
          · skip
            refine r_goto (tgt := 124) g dX12_close_259 rfl ?_
            exact r_weak (Ls2 (Ls2 (Ls2 (Ls1 (Ls1 (Ls2 (Ls2 (Ls2 (Ls2 (Ls2 (Ls1 (Ls1 Ls0)))))))))))) (hr (r19, s23.1, s23.2, s.2.2.2.1 + 1, s26) M27)
          · skip
            refine r_aload_n (pc' := 250) g dX12_close_249 rfl rfl ?_
            refine r_get (pc' := 253) g dX12_close_250 rfl fl_X12_74 lM_0 (eM_0 w _ _) rfl ?_
            refine r_aload_n (pc' := 254) g dX12_close_253 rfl rfl ?_
            refine r_get (pc' := 257) g dX12_close_254 rfl fl_X12_285 lM_0 (eM_0 w _ _) rfl ?_
            refine r_iconst (pc' := 258) (v := 1) g dX12_close_257 rfl rfl ?_
            refine r_zast (pc' := 259) g dX12_close_258 rfl lM_22 (fun m => eM_22 w m _) ?_
            refine r_ltM (fun M29 => ?_)
            refine r_goto (tgt := 124) g dX12_close_259 rfl ?_
            exact r_weak (Ls2 (Ls2 (Ls2 (Ls1 (Ls1 (Ls2 (Ls2 (Ls2 (Ls2 (Ls2 (Ls1 (Ls1 Ls0)))))))))))) (hr (r19, s23.1, s23.2, s.2.2.2.1 + 1, s26) M29)
        refine r_cne (pc' := 237) (tgt := 241) g dX12_close_234 rfl rfl ?_ ?_
        · skip
          refine r_iconst (pc' := 242) (v := 0) g dX12_close_241 rfl rfl ?_
          exact r_weak (Ls2 (Ls2 (Ls2 (Ls1 (Ls1 (Ls2 (Ls2 (Ls2 (Ls2 (Ls1 (Ls1 (Ls1 Ls0)))))))))))) (hjn28 0 M24)
        · skip
          refine r_iconst (pc' := 238) (v := 1) g dX12_close_237 rfl rfl ?_
          refine r_goto (tgt := 242) g dX12_close_238 rfl ?_
          exact r_weak (Ls2 (Ls2 (Ls2 (Ls1 (Ls1 (Ls2 (Ls2 (Ls2 (Ls2 (Ls1 (Ls1 (Ls1 Ls0)))))))))))) (hjn28 1 M24)
      refine r_jn (pj := 222) (Lj := fun (s30 : Unit) => [rf w 0, .int p1, .int p2, .null, .null, .int r19, .null, .null, .int (s.2.2.2.1 + 1), .null, .int z17, .int r21]) (stj := fun (s30 : Unit) => []) (fun s30 M31 => ?_) (fun jn32 hjn32 => ?_)
      · skip
        refine r_iload (pc' := 224) g dX12_close_222 rfl rfl ?_
        refine r_istore (pc' := 226) (L' := [rf w 0, .int p1, .int p2, .null, .null, .int r19, .int r21, .null, .int (s.2.2.2.1 + 1), .null, .int z17, .int r21]) g dX12_close_224 rfl n6 rfl rfl ?_
        refine r_iload (pc' := 228) g dX12_close_226 rfl rfl ?_
        refine r_istore (pc' := 230) (L' := [rf w 0, .int p1, .int p2, .null, .null, .int r19, .int r21, .int z17, .int (s.2.2.2.1 + 1), .null, .int z17, .int r21]) g dX12_close_228 rfl n7 rfl rfl ?_
        exact r_weak (Ls2 (Ls2 (Ls2 (Ls1 (Ls1 (Ls2 (Ls2 (Ls2 (Ls2 (Ls1 (Ls1 (Ls1 Ls0)))))))))))) (hjn25 (r21, z17) M31)
      refine r_iflt (pc' := 215) (tgt := 222) g dX12_close_212 rfl rfl ?_ ?_
      · skip
        exact r_weak (Ls2 (Ls2 (Ls2 (Ls1 (Ls1 (Ls2 (Ls1 (Ls1 (Ls2 (Ls1 (Ls2 (Ls2 Ls0)))))))))))) (hjn32 () M22)
      · skip
        refine r_iload (pc' := 217) g dX12_close_215 rfl rfl ?_
        refine r_iload (pc' := 219) g dX12_close_217 rfl rfl ?_
        refine r_cge (pc' := 222) (tgt := 230) g dX12_close_219 rfl rfl ?_ ?_
        · skip
          exact r_weak (Ls2 (Ls2 (Ls2 (Ls1 (Ls1 (Ls2 (Ls2 (Ls2 (Ls2 (Ls1 (Ls1 (Ls1 Ls0)))))))))))) (hjn25 (s.2.1, s.2.2.1) M22)
        · skip
          exact r_weak (Ls2 (Ls2 (Ls2 (Ls1 (Ls1 (Ls2 (Ls1 (Ls1 (Ls2 (Ls1 (Ls2 (Ls2 Ls0)))))))))))) (hjn32 () M22)
set_option maxHeartbeats 4000000 in
set_option maxRecDepth 100000 in
theorem s_X12_close_268 {w : W0} {Z : Zx} (g : Good KM w Z cX12_close RX12 6) (e2 : Z.2.2.1 = 12) (e3 : Z.2.2.2 = (some .int)) (N : Nat) (p2 : Int32) (p5 : Int32) (p6 : Int32) (p7 : Int32) (p8 : Int32) (p9 : Int32) (G : Int32 → Mm → Rs) (kG : ∀ (x : Int32) (M : Mm), Sim KM w Z 301 [.null, .null, .int p2, .null, .null, .int p5, .int p6, .int p7, .int p8, .int p9, .int x, .null] [] M (G x M)) : ∀ (n : Nat) (s : Int32 × Int32) (M : Mm), Sim KM w Z 268 [rf w 0, .null, .int p2, .null, .null, .int p5, .int p6, .int p7, .int p8, .int p9, .int s.1, .int s.2] [] M (itr (B_X12_close_268 N p2 p5 p6 p7 p8 p9 G) n s M) := by
  have n10 : 10 < Z.2.2.1 := by rw [e2]; decide
  have n11 : 11 < Z.2.2.1 := by rw [e2]; decide
  refine r_itr (Lf := fun (s : Int32 × Int32) => [rf w 0, .null, .int p2, .null, .null, .int p5, .int p6, .int p7, .int p8, .int p9, .int s.1, .int s.2]) (fun rec hr s M => ?_)
  unfold B_X12_close_268
  refine r_iload (pc' := 270) g dX12_close_268 rfl rfl ?_
  refine r_bipush (pc' := 272) (v := 16) g dX12_close_270 rfl rfl ?_
  refine r_cge (pc' := 275) (tgt := 301) g dX12_close_272 rfl rfl ?_ ?_
  · skip
    exact r_weak (Ls1 (Ls1 (Ls2 (Ls1 (Ls1 (Ls2 (Ls2 (Ls2 (Ls2 (Ls2 (Ls2 (Ls1 Ls0)))))))))))) (kG s.1 M)
  · skip
    refine r_iload (pc' := 277) g dX12_close_275 rfl rfl ?_
    refine r_aload_n (pc' := 278) g dX12_close_277 rfl rfl ?_
    refine r_get (pc' := 281) g dX12_close_278 rfl fl_X12_74 lM_0 (eM_0 w _ _) rfl ?_
    refine r_iload (pc' := 283) g dX12_close_281 rfl rfl ?_
    refine r_zald (pc' := 284) g dX12_close_283 rfl lM_22 (eM_22 w _ _) ?_
    refine r_ifeq (pc' := 287) (tgt := 291) g dX12_close_284 rfl rfl ?_ ?_
    · skip
      refine r_iconst (pc' := 292) (v := 0) g dX12_close_291 rfl rfl ?_
      refine r_iadd (pc' := 293) g dX12_close_292 rfl ?_
      refine r_ltI (fun x35 => ?_)
      refine r_istore (pc' := 295) (L' := [rf w 0, .null, .int p2, .null, .null, .int p5, .int p6, .int p7, .int p8, .int p9, .int x35, .int s.2]) g dX12_close_293 rfl n10 rfl rfl ?_
      refine r_iinc (pc' := 298) (b := 1) (L' := [rf w 0, .null, .int p2, .null, .null, .int p5, .int p6, .int p7, .int p8, .int p9, .int x35, .int (s.2 + 1)]) g dX12_close_295 rfl rfl rfl n11 rfl rfl ?_
      refine r_goto (tgt := 268) g dX12_close_298 rfl ?_
      exact r_weak (Ls2 (Ls1 (Ls2 (Ls1 (Ls1 (Ls2 (Ls2 (Ls2 (Ls2 (Ls2 (Ls2 (Ls2 Ls0)))))))))))) (hr (x35, s.2 + 1) M)
    · skip
      refine r_iconst (pc' := 288) (v := 1) g dX12_close_287 rfl rfl ?_
      refine r_goto (tgt := 292) g dX12_close_288 rfl ?_
      refine r_iadd (pc' := 293) g dX12_close_292 rfl ?_
      refine r_ltI (fun x36 => ?_)
      refine r_istore (pc' := 295) (L' := [rf w 0, .null, .int p2, .null, .null, .int p5, .int p6, .int p7, .int p8, .int p9, .int x36, .int s.2]) g dX12_close_293 rfl n10 rfl rfl ?_
      refine r_iinc (pc' := 298) (b := 1) (L' := [rf w 0, .null, .int p2, .null, .null, .int p5, .int p6, .int p7, .int p8, .int p9, .int x36, .int (s.2 + 1)]) g dX12_close_295 rfl rfl rfl n11 rfl rfl ?_
      refine r_goto (tgt := 268) g dX12_close_298 rfl ?_
      exact r_weak (Ls2 (Ls1 (Ls2 (Ls1 (Ls1 (Ls2 (Ls2 (Ls2 (Ls2 (Ls2 (Ls2 (Ls2 Ls0)))))))))))) (hr (x36, s.2 + 1) M)
set_option maxHeartbeats 4000000 in
set_option maxRecDepth 100000 in
theorem c_X12_close (l : Launch) (w : W0) (N : Nat) (a1 : Int32) (a2 : Int32) (M : Mm) : Ct l KM w 6 yX12_close cX12_close 12 (some .int) [rf w 0, .int a1, .int a2] M (f_X12_close N a1 a2 M) := by
  refine ct_of [rf w 0, .int a1, .int a2, .null, .null, .null, .null, .null, .null, .null, .null, .null] (by decide) (Nat.le_of_ble_eq_true rfl) rfl (fun Z e1 e2 e3 g => ?_)
  have g : Good KM w Z cX12_close RX12 6 := g
  unfold f_X12_close
  have n3 : 3 < Z.2.2.1 := by rw [e2]; decide
  have n4 : 4 < Z.2.2.1 := by rw [e2]; decide
  have n5 : 5 < Z.2.2.1 := by rw [e2]; decide
  have n6 : 6 < Z.2.2.1 := by rw [e2]; decide
  have n7 : 7 < Z.2.2.1 := by rw [e2]; decide
  have n8 : 8 < Z.2.2.1 := by rw [e2]; decide
  have n9 : 9 < Z.2.2.1 := by rw [e2]; decide
  have n10 : 10 < Z.2.2.1 := by rw [e2]; decide
  have n11 : 11 < Z.2.2.1 := by rw [e2]; decide
  refine r_iload_n (pc' := 1) g dX12_close_0 rfl rfl ?_
  refine r_i2l (pc' := 2) g dX12_close_1 rfl ?_
  refine r_lconst (pc' := 3) (v := 0) g dX12_close_2 rfl rfl ?_
  refine r_ldc2 (pc' := 6) g dX12_close_3 rfl kc_X12_129 ?_
  refine r_callSi (pc' := 9) (As := [.long a2.toInt64, .long 0, .long 5]) (rest := []) g dX12_close_6 rfl ml_X12_109 mw_X12_isIn ms_X12_isIn (Nat.le_of_ble_eq_true rfl) (c_X12_isIn _ w N a2.toInt64 0 5 M) rfl rfl (Nat.le_of_ble_eq_true rfl) (fun r1 M2 => ?_)
  refine r_ifne (pc' := 12) (tgt := 19) g dX12_close_9 rfl rfl ?_ ?_
  · skip
    refine r_iload_n (pc' := 20) g dX12_close_19 rfl rfl ?_
    refine r_i2l (pc' := 21) g dX12_close_20 rfl ?_
    refine r_lconst (pc' := 22) (v := 1) g dX12_close_21 rfl rfl ?_
    refine r_ldc2 (pc' := 25) g dX12_close_22 rfl kc_X12_135 ?_
    refine r_callSi (pc' := 28) (As := [.long a1.toInt64, .long 1, .long 99]) (rest := []) g dX12_close_25 rfl ml_X12_137 mw_X12_outOf ms_X12_outOf (Nat.le_of_ble_eq_true rfl) (c_X12_outOf _ w N a1.toInt64 1 99 M2) rfl rfl (Nat.le_of_ble_eq_true rfl) (fun r3 M4 => ?_)
    refine r_istore_n (pc' := 29) (L' := [rf w 0, .int a1, .int a2, .int r3, .null, .null, .null, .null, .null, .null, .null, .null]) g dX12_close_28 rfl n3 rfl rfl ?_
    refine r_iload_n (pc' := 30) g dX12_close_29 rfl rfl ?_
    refine r_ifeq (pc' := 33) (tgt := 39) g dX12_close_30 rfl rfl ?_ ?_
    · skip
      refine r_aload_n (pc' := 40) g dX12_close_39 rfl rfl ?_
      refine r_callVv (pc' := 43) (As := []) (rest := []) g dX12_close_40 rfl ml_X12_282 mw_X12_finds mv_X12_finds (Nat.le_of_ble_eq_true rfl) (c_X12_finds _ w N  M4) rfl lM_0 (eM_0 w _ _) rfl rfl (Nat.le_of_ble_eq_true rfl) (fun r5 M6 => ?_)
      refine r_iconst (pc' := 44) (v := 0) g dX12_close_43 rfl rfl ?_
      refine r_istore (pc' := 46) (L' := [rf w 0, .int a1, .int a2, .int r3, .int 0, .null, .null, .null, .null, .null, .null, .null]) g dX12_close_44 rfl n4 rfl rfl ?_
      refine r_bipush (pc' := 48) (v := 15) g dX12_close_46 rfl rfl ?_
      refine r_istore (pc' := 50) (L' := [rf w 0, .int a1, .int a2, .int r3, .int 0, .int 15, .null, .null, .null, .null, .null, .null]) g dX12_close_48 rfl n5 rfl rfl ?_
      refine r_weak (Ls2 (Ls2 (Ls2 (Ls1 (Ls2 (Ls2 (Ls1 (Ls1 (Ls1 (Ls1 (Ls1 (Ls1 Ls0)))))))))))) (s_X12_close_50 g e2 e3 N a1 a2 _ (fun z10 M11 => ?_) N (0, 15) M6)
      refine r_aload_n (pc' := 89) g dX12_close_88 rfl rfl ?_
      refine r_get (pc' := 92) g dX12_close_89 rfl fl_X12_65 lM_0 (eM_0 w _ _) rfl ?_
      refine r_iload (pc' := 94) g dX12_close_92 rfl rfl ?_
      refine r_zald (pc' := 95) g dX12_close_94 rfl lM_19 (eM_19 w _ _) ?_
      refine r_ifne (pc' := 98) (tgt := 101) g dX12_close_95 rfl rfl ?_ ?_
      · skip
        refine r_aload_n (pc' := 102) g dX12_close_101 rfl rfl ?_
        refine r_get (pc' := 105) g dX12_close_102 rfl fl_X12_74 lM_0 (eM_0 w _ _) rfl ?_
        refine r_iload (pc' := 107) g dX12_close_105 rfl rfl ?_
        refine r_iconst (pc' := 108) (v := 1) g dX12_close_107 rfl rfl ?_
        refine r_zast (pc' := 109) g dX12_close_108 rfl lM_22 (fun m => eM_22 w m _) ?_
        refine r_ltM (fun M12 => ?_)
        refine r_iconst (pc' := 110) (v := 0) g dX12_close_109 rfl rfl ?_
        refine r_istore (pc' := 112) (L' := [rf w 0, .int a1, .int a2, .null, .int z10, .int 0, .null, .null, .null, .null, .null, .null]) g dX12_close_110 rfl n5 rfl rfl ?_
        refine r_iconst (pc' := 113) (v := -1) g dX12_close_112 rfl rfl ?_
        refine r_istore (pc' := 115) (L' := [rf w 0, .int a1, .int a2, .null, .int z10, .int 0, .int (-1), .null, .null, .null, .null, .null]) g dX12_close_113 rfl n6 rfl rfl ?_
        refine r_iconst (pc' := 116) (v := 0) g dX12_close_115 rfl rfl ?_
        refine r_istore (pc' := 118) (L' := [rf w 0, .int a1, .int a2, .null, .int z10, .int 0, .int (-1), .int 0, .null, .null, .null, .null]) g dX12_close_116 rfl n7 rfl rfl ?_
        refine r_iconst (pc' := 119) (v := 0) g dX12_close_118 rfl rfl ?_
        refine r_istore (pc' := 121) (L' := [rf w 0, .int a1, .int a2, .null, .int z10, .int 0, .int (-1), .int 0, .int 0, .null, .null, .null]) g dX12_close_119 rfl n8 rfl rfl ?_
        refine r_iconst (pc' := 122) (v := 0) g dX12_close_121 rfl rfl ?_
        refine r_istore (pc' := 124) (L' := [rf w 0, .int a1, .int a2, .null, .int z10, .int 0, .int (-1), .int 0, .int 0, .int 0, .null, .null]) g dX12_close_122 rfl n9 rfl rfl ?_
        refine r_weak (Ls2 (Ls2 (Ls2 (Ls1 (Ls1 (Ls2 (Ls2 (Ls2 (Ls2 (Ls2 (Ls1 (Ls1 Ls0)))))))))))) (s_X12_close_124 g e2 e3 N a1 a2 _ (fun z33 M34 => ?_) N (0, (-1), 0, 0, 0) M12)
        refine r_iconst (pc' := 263) (v := 0) g dX12_close_262 rfl rfl ?_
        refine r_istore (pc' := 265) (L' := [rf w 0, .null, .int a2, .null, .null, .int z33.1, .int z33.2.1, .int z33.2.2.1, .int z33.2.2.2.1, .int z33.2.2.2.2, .int 0, .null]) g dX12_close_263 rfl n10 rfl rfl ?_
        refine r_iconst (pc' := 266) (v := 0) g dX12_close_265 rfl rfl ?_
        refine r_istore (pc' := 268) (L' := [rf w 0, .null, .int a2, .null, .null, .int z33.1, .int z33.2.1, .int z33.2.2.1, .int z33.2.2.2.1, .int z33.2.2.2.2, .int 0, .int 0]) g dX12_close_266 rfl n11 rfl rfl ?_
        refine r_weak (Ls2 (Ls1 (Ls2 (Ls1 (Ls1 (Ls2 (Ls2 (Ls2 (Ls2 (Ls2 (Ls2 (Ls2 Ls0)))))))))))) (s_X12_close_268 g e2 e3 N a2 z33.1 z33.2.1 z33.2.2.1 z33.2.2.2.1 z33.2.2.2.2 _ (fun z37 M38 => ?_) N (0, 0) M34)
        refine r_iload_n (pc' := 302) g dX12_close_301 rfl rfl ?_
        refine r_ifne (pc' := 305) (tgt := 310) g dX12_close_302 rfl rfl ?_ ?_
        · skip
          refine r_iload_n (pc' := 311) g dX12_close_310 rfl rfl ?_
          refine r_iconst (pc' := 312) (v := 1) g dX12_close_311 rfl rfl ?_
          refine r_cne (pc' := 315) (tgt := 320) g dX12_close_312 rfl rfl ?_ ?_
          · skip
            refine r_iload_n (pc' := 321) g dX12_close_320 rfl rfl ?_
            refine r_iconst (pc' := 322) (v := 2) g dX12_close_321 rfl rfl ?_
            refine r_cne (pc' := 325) (tgt := 330) g dX12_close_322 rfl rfl ?_ ?_
            · skip
              refine r_iload_n (pc' := 331) g dX12_close_330 rfl rfl ?_
              refine r_iconst (pc' := 332) (v := 3) g dX12_close_331 rfl rfl ?_
              refine r_cne (pc' := 335) (tgt := 340) g dX12_close_332 rfl rfl ?_ ?_
              · skip
                refine r_iload_n (pc' := 341) g dX12_close_340 rfl rfl ?_
                refine r_iconst (pc' := 342) (v := 4) g dX12_close_341 rfl rfl ?_
                refine r_cne (pc' := 345) (tgt := 350) g dX12_close_342 rfl rfl ?_ ?_
                · skip
                  refine r_iload (pc' := 352) g dX12_close_350 rfl rfl ?_
                  refine r_ifeq (pc' := 355) (tgt := 359) g dX12_close_352 rfl rfl ?_ ?_
                  · skip
                    refine r_iconst (pc' := 360) (v := 0) g dX12_close_359 rfl rfl ?_
                    exact r_iret g e3 dX12_close_360
                  · skip
                    refine r_iconst (pc' := 356) (v := 1) g dX12_close_355 rfl rfl ?_
                    refine r_goto (tgt := 360) g dX12_close_356 rfl ?_
                    exact r_iret g e3 dX12_close_360
                · skip
                  refine r_iload (pc' := 347) g dX12_close_345 rfl rfl ?_
                  refine r_goto (tgt := 360) g dX12_close_347 rfl ?_
                  exact r_iret g e3 dX12_close_360
              · skip
                refine r_iload (pc' := 337) g dX12_close_335 rfl rfl ?_
                refine r_goto (tgt := 360) g dX12_close_337 rfl ?_
                exact r_iret g e3 dX12_close_360
            · skip
              refine r_iload (pc' := 327) g dX12_close_325 rfl rfl ?_
              refine r_goto (tgt := 360) g dX12_close_327 rfl ?_
              exact r_iret g e3 dX12_close_360
          · skip
            refine r_iload (pc' := 317) g dX12_close_315 rfl rfl ?_
            refine r_goto (tgt := 360) g dX12_close_317 rfl ?_
            exact r_iret g e3 dX12_close_360
        · skip
          refine r_iload (pc' := 307) g dX12_close_305 rfl rfl ?_
          refine r_goto (tgt := 360) g dX12_close_307 rfl ?_
          exact r_iret g e3 dX12_close_360
      · skip
        refine r_bipush (pc' := 100) (v := -9) g dX12_close_98 rfl rfl ?_
        exact r_iret g e3 dX12_close_100
    · skip
      refine r_aload_n (pc' := 34) g dX12_close_33 rfl rfl ?_
      refine r_iload_n (pc' := 35) g dX12_close_34 rfl rfl ?_
      refine r_callVi (pc' := 38) (As := [.int r3]) (rest := []) g dX12_close_35 rfl ml_X12_113 mw_X12_no mv_X12_no (Nat.le_of_ble_eq_true rfl) (c_X12_no _ w N r3 M4) rfl lM_0 (eM_0 w _ _) rfl rfl (Nat.le_of_ble_eq_true rfl) (fun r39 M40 => ?_)
      exact r_iret g e3 dX12_close_38
  · skip
    refine r_aload_n (pc' := 13) g dX12_close_12 rfl rfl ?_
    refine r_bipush (pc' := 15) (v := -2) g dX12_close_13 rfl rfl ?_
    refine r_callVi (pc' := 18) (As := [.int (-2)]) (rest := []) g dX12_close_15 rfl ml_X12_113 mw_X12_no mv_X12_no (Nat.le_of_ble_eq_true rfl) (c_X12_no _ w N (-2) M2) rfl lM_0 (eM_0 w _ _) rfl rfl (Nat.le_of_ble_eq_true rfl) (fun r41 M42 => ?_)
    exact r_iret g e3 dX12_close_18
def f_X12_put (N : Nat) (a1 : Int32) (M : Mm) : Rs :=
  if (M.1 0 37) = 12 then
    (bd (f_X12_no N (-6) M) fun r3 M4 =>
    (some (r3, M4)))
  else
    (if inb (M.1 0 37) 12 then
    (lt' (wI M 23 (ix (M.1 0 37)) a1) fun M1 =>
    (lt' (wI M1 0 37 ((M1.1 0 37) + 1)) fun M2 =>
    (some (M2.1 0 37, M2)))) else none)

set_option maxHeartbeats 4000000 in
set_option maxRecDepth 100000 in
theorem c_X12_put (l : Launch) (w : W0) (N : Nat) (a1 : Int32) (M : Mm) : Ct l KM w 1 yX12_put cX12_put 2 (some .int) [rf w 0, .int a1] M (f_X12_put N a1 M) := by
  refine ct_of [rf w 0, .int a1] (by decide) (Nat.le_of_ble_eq_true rfl) rfl (fun Z e1 e2 e3 g => ?_)
  have g : Good KM w Z cX12_put RX12 1 := g
  unfold f_X12_put
  refine r_aload_n (pc' := 1) g dX12_put_0 rfl rfl ?_
  refine r_get (pc' := 4) g dX12_put_1 rfl fl_X12_313 lM_0 (eM_0 w _ _) rfl ?_
  refine r_bipush (pc' := 6) (v := 12) g dX12_put_4 rfl rfl ?_
  refine r_cne (pc' := 9) (tgt := 16) g dX12_put_6 rfl rfl ?_ ?_
  · skip
    refine r_aload_n (pc' := 17) g dX12_put_16 rfl rfl ?_
    refine r_get (pc' := 20) g dX12_put_17 rfl fl_X12_77 lM_0 (eM_0 w _ _) rfl ?_
    refine r_aload_n (pc' := 21) g dX12_put_20 rfl rfl ?_
    refine r_get (pc' := 24) g dX12_put_21 rfl fl_X12_313 lM_0 (eM_0 w _ _) rfl ?_
    refine r_iload_n (pc' := 25) g dX12_put_24 rfl rfl ?_
    refine r_iast (pc' := 26) g dX12_put_25 rfl lM_23 (fun m => eM_23 w m _) ?_
    refine r_ltM (fun M1 => ?_)
    refine r_aload_n (pc' := 27) g dX12_put_26 rfl rfl ?_
    refine r_dupa (pc' := 28) g dX12_put_27 rfl ?_
    refine r_get (pc' := 31) g dX12_put_28 rfl fl_X12_313 lM_0 (eM_0 w _ _) rfl ?_
    refine r_iconst (pc' := 32) (v := 1) g dX12_put_31 rfl rfl ?_
    refine r_iadd (pc' := 33) g dX12_put_32 rfl ?_
    refine r_put (pc' := 36) g dX12_put_33 rfl fl_X12_313 rfl lM_0 (eM_0 w _ _) (Nat.le_of_ble_eq_true rfl) (sM_0_37 w _ _ _) ?_
    refine r_ltM (fun M2 => ?_)
    refine r_aload_n (pc' := 37) g dX12_put_36 rfl rfl ?_
    refine r_get (pc' := 40) g dX12_put_37 rfl fl_X12_313 lM_0 (eM_0 w _ _) rfl ?_
    exact r_iret g e3 dX12_put_40
  · skip
    refine r_aload_n (pc' := 10) g dX12_put_9 rfl rfl ?_
    refine r_bipush (pc' := 12) (v := -6) g dX12_put_10 rfl rfl ?_
    refine r_callVi (pc' := 15) (As := [.int (-6)]) (rest := []) g dX12_put_12 rfl ml_X12_113 mw_X12_no mv_X12_no (Nat.le_of_ble_eq_true rfl) (c_X12_no _ w N (-6) M) rfl lM_0 (eM_0 w _ _) rfl rfl (Nat.le_of_ble_eq_true rfl) (fun r3 M4 => ?_)
    exact r_iret g e3 dX12_put_15
def B_X12_fails_2 (N : Nat) (G : Unit → Mm → Rs) (rec : Int32 → Mm → Rs) (s : Int32) (M : Mm) : Rs :=
  if s < 12 then
      (if inb s 12 then
      (bd (f_X12_isIn N ((M.1 23 (ix s)).toInt64) 0 9999 M) fun r1 M2 =>
      (if r1 = 0 then
        (some (s, M2))
      else
        (rec (s + 1) M2))) else none)
    else
      (G () M)

def B_X12_fails_54 (N : Nat) (p1 : Int32) (G : Unit → Mm → Rs) (rec : Int32 → Mm → Rs) (s : Int32) (M : Mm) : Rs :=
  if s < 4 then
      (if inb s 4 then
      (if 0 < (M.1 15 (ix s)) then
        (if inb p1 12 then
        (if inb (4 + s) 12 then
        (if inb ((24 + (4 * s)) + p1) 47 then
        (if ((M.1 23 (ix (4 + s))) + (M.1 2 (ix ((24 + (4 * s)) + p1)))) < (M.1 23 (ix p1)) then
          (some ((100 + (10 * s)) + p1, M))
        else
          (rec (s + 1) M)) else none) else none) else none)
      else
        (rec (s + 1) M)) else none)
    else
      (G () M)

def B_X12_fails_35 (N : Nat) (G : Unit → Mm → Rs) (rec : Int32 → Mm → Rs) (s : Int32) (M : Mm) : Rs :=
  if s < 4 then
      (if inb s 4 then
      (if (M.1 16 (ix s)) = 0 then
        (rec (s + 1) M)
      else
        (itr (B_X12_fails_54 N s fun z5 M6 =>
        (if inb s 12 then
        (if inb (8 + s) 12 then
        (if inb ((6 * s) + 3) 47 then
        (if ((M6.1 23 (ix (8 + s))) + (M6.1 2 (ix ((6 * s) + 3)))) < (M6.1 23 (ix s)) then
          (some (200 + s, M6))
        else
          (if inb s 12 then
          (if (M6.1 2 (ix 41)) < (M6.1 23 (ix s)) then
            (some (300 + s, M6))
          else
            (rec (s + 1) M6)) else none)) else none) else none) else none)) N 0 M)) else none)
    else
      (G () M)

def f_X12_fails (N : Nat) (M : Mm) : Rs :=
  itr (B_X12_fails_2 N fun z3 M4 =>
  (itr (B_X12_fails_35 N fun z7 M8 =>
  (some ((-1), M8))) N 0 M4)) N 0 M

set_option maxHeartbeats 4000000 in
set_option maxRecDepth 100000 in
theorem s_X12_fails_2 {w : W0} {Z : Zx} (g : Good KM w Z cX12_fails RX12 1) (e2 : Z.2.2.1 = 3) (e3 : Z.2.2.2 = (some .int)) (N : Nat) (G : Unit → Mm → Rs) (kG : ∀ (x : Unit) (M : Mm), Sim KM w Z 33 [rf w 0, .null, .null] [] M (G x M)) : ∀ (n : Nat) (s : Int32) (M : Mm), Sim KM w Z 2 [rf w 0, .int s, .null] [] M (itr (B_X12_fails_2 N G) n s M) := by
  have n1 : 1 < Z.2.2.1 := by rw [e2]; decide
  refine r_itr (Lf := fun (s : Int32) => [rf w 0, .int s, .null]) (fun rec hr s M => ?_)
  unfold B_X12_fails_2
  refine r_iload_n (pc' := 3) g dX12_fails_2 rfl rfl ?_
  refine r_bipush (pc' := 5) (v := 12) g dX12_fails_3 rfl rfl ?_
  refine r_cge (pc' := 8) (tgt := 33) g dX12_fails_5 rfl rfl ?_ ?_
  · skip
    exact r_weak (Ls2 (Ls1 (Ls1 Ls0))) (kG () M)
  · skip
    refine r_aload_n (pc' := 9) g dX12_fails_8 rfl rfl ?_
    refine r_get (pc' := 12) g dX12_fails_9 rfl fl_X12_77 lM_0 (eM_0 w _ _) rfl ?_
    refine r_iload_n (pc' := 13) g dX12_fails_12 rfl rfl ?_
    refine r_iald (pc' := 14) g dX12_fails_13 rfl lM_23 (eM_23 w _ _) ?_
    refine r_i2l (pc' := 15) g dX12_fails_14 rfl ?_
    refine r_lconst (pc' := 16) (v := 0) g dX12_fails_15 rfl rfl ?_
    refine r_ldc2 (pc' := 19) g dX12_fails_16 rfl kc_X12_316 ?_
    refine r_callSi (pc' := 22) (As := [.long ((M.1 23 (ix s)).toInt64), .long 0, .long 9999]) (rest := []) g dX12_fails_19 rfl ml_X12_109 mw_X12_isIn ms_X12_isIn (Nat.le_of_ble_eq_true rfl) (c_X12_isIn _ w N ((M.1 23 (ix s)).toInt64) 0 9999 M) rfl rfl (Nat.le_of_ble_eq_true rfl) (fun r1 M2 => ?_)
    refine r_ifne (pc' := 25) (tgt := 27) g dX12_fails_22 rfl rfl ?_ ?_
    · skip
      refine r_iinc (pc' := 30) (b := 1) (L' := [rf w 0, .int (s + 1), .null]) g dX12_fails_27 rfl rfl rfl n1 rfl rfl ?_
      refine r_goto (tgt := 2) g dX12_fails_30 rfl ?_
      exact r_weak (Ls2 (Ls2 (Ls1 Ls0))) (hr (s + 1) M2)
    · skip
      refine r_iload_n (pc' := 26) g dX12_fails_25 rfl rfl ?_
      exact r_iret g e3 dX12_fails_26
set_option maxHeartbeats 4000000 in
set_option maxRecDepth 100000 in
theorem s_X12_fails_54 {w : W0} {Z : Zx} (g : Good KM w Z cX12_fails RX12 1) (e2 : Z.2.2.1 = 3) (e3 : Z.2.2.2 = (some .int)) (N : Nat) (p1 : Int32) (G : Unit → Mm → Rs) (kG : ∀ (x : Unit) (M : Mm), Sim KM w Z 115 [rf w 0, .int p1, .null] [] M (G x M)) : ∀ (n : Nat) (s : Int32) (M : Mm), Sim KM w Z 54 [rf w 0, .int p1, .int s] [] M (itr (B_X12_fails_54 N p1 G) n s M) := by
  have n2 : 2 < Z.2.2.1 := by rw [e2]; decide
  refine r_itr (Lf := fun (s : Int32) => [rf w 0, .int p1, .int s]) (fun rec hr s M => ?_)
  unfold B_X12_fails_54
  refine r_iload_n (pc' := 55) g dX12_fails_54 rfl rfl ?_
  refine r_iconst (pc' := 56) (v := 4) g dX12_fails_55 rfl rfl ?_
  refine r_cge (pc' := 59) (tgt := 115) g dX12_fails_56 rfl rfl ?_ ?_
  · skip
    exact r_weak (Ls2 (Ls2 (Ls1 Ls0))) (kG () M)
  · skip
    refine r_aload_n (pc' := 60) g dX12_fails_59 rfl rfl ?_
    refine r_get (pc' := 63) g dX12_fails_60 rfl fl_X12_53 lM_0 (eM_0 w _ _) rfl ?_
    refine r_iload_n (pc' := 64) g dX12_fails_63 rfl rfl ?_
    refine r_iald (pc' := 65) g dX12_fails_64 rfl lM_15 (eM_15 w _ _) ?_
    refine r_ifle (pc' := 68) (tgt := 109) g dX12_fails_65 rfl rfl ?_ ?_
    · skip
      refine r_iinc (pc' := 112) (b := 1) (L' := [rf w 0, .int p1, .int (s + 1)]) g dX12_fails_109 rfl rfl rfl n2 rfl rfl ?_
      refine r_goto (tgt := 54) g dX12_fails_112 rfl ?_
      exact r_weak (Ls2 (Ls2 (Ls2 Ls0))) (hr (s + 1) M)
    · skip
      refine r_aload_n (pc' := 69) g dX12_fails_68 rfl rfl ?_
      refine r_get (pc' := 72) g dX12_fails_69 rfl fl_X12_77 lM_0 (eM_0 w _ _) rfl ?_
      refine r_iload_n (pc' := 73) g dX12_fails_72 rfl rfl ?_
      refine r_iald (pc' := 74) g dX12_fails_73 rfl lM_23 (eM_23 w _ _) ?_
      refine r_aload_n (pc' := 75) g dX12_fails_74 rfl rfl ?_
      refine r_get (pc' := 78) g dX12_fails_75 rfl fl_X12_77 lM_0 (eM_0 w _ _) rfl ?_
      refine r_iconst (pc' := 79) (v := 4) g dX12_fails_78 rfl rfl ?_
      refine r_iload_n (pc' := 80) g dX12_fails_79 rfl rfl ?_
      refine r_iadd (pc' := 81) g dX12_fails_80 rfl ?_
      refine r_iald (pc' := 82) g dX12_fails_81 rfl lM_23 (eM_23 w _ _) ?_
      refine r_aload_n (pc' := 83) g dX12_fails_82 rfl rfl ?_
      refine r_get (pc' := 86) g dX12_fails_83 rfl fl_X12_13 lM_0 (eM_0 w _ _) rfl ?_
      refine r_bipush (pc' := 88) (v := 24) g dX12_fails_86 rfl rfl ?_
      refine r_iconst (pc' := 89) (v := 4) g dX12_fails_88 rfl rfl ?_
      refine r_iload_n (pc' := 90) g dX12_fails_89 rfl rfl ?_
      refine r_imul (pc' := 91) g dX12_fails_90 rfl ?_
      refine r_iadd (pc' := 92) g dX12_fails_91 rfl ?_
      refine r_iload_n (pc' := 93) g dX12_fails_92 rfl rfl ?_
      refine r_iadd (pc' := 94) g dX12_fails_93 rfl ?_
      refine r_iald (pc' := 95) g dX12_fails_94 rfl lM_2 (eM_2 w _ _) ?_
      refine r_iadd (pc' := 96) g dX12_fails_95 rfl ?_
      refine r_cle (pc' := 99) (tgt := 109) g dX12_fails_96 rfl rfl ?_ ?_
      · skip
        refine r_iinc (pc' := 112) (b := 1) (L' := [rf w 0, .int p1, .int (s + 1)]) g dX12_fails_109 rfl rfl rfl n2 rfl rfl ?_
        refine r_goto (tgt := 54) g dX12_fails_112 rfl ?_
        exact r_weak (Ls2 (Ls2 (Ls2 Ls0))) (hr (s + 1) M)
      · skip
        refine r_bipush (pc' := 101) (v := 100) g dX12_fails_99 rfl rfl ?_
        refine r_bipush (pc' := 103) (v := 10) g dX12_fails_101 rfl rfl ?_
        refine r_iload_n (pc' := 104) g dX12_fails_103 rfl rfl ?_
        refine r_imul (pc' := 105) g dX12_fails_104 rfl ?_
        refine r_iadd (pc' := 106) g dX12_fails_105 rfl ?_
        refine r_iload_n (pc' := 107) g dX12_fails_106 rfl rfl ?_
        refine r_iadd (pc' := 108) g dX12_fails_107 rfl ?_
        exact r_iret g e3 dX12_fails_108
set_option maxHeartbeats 4000000 in
set_option maxRecDepth 100000 in
theorem s_X12_fails_35 {w : W0} {Z : Zx} (g : Good KM w Z cX12_fails RX12 1) (e2 : Z.2.2.1 = 3) (e3 : Z.2.2.2 = (some .int)) (N : Nat) (G : Unit → Mm → Rs) (kG : ∀ (x : Unit) (M : Mm), Sim KM w Z 179 [.null, .null, .null] [] M (G x M)) : ∀ (n : Nat) (s : Int32) (M : Mm), Sim KM w Z 35 [rf w 0, .int s, .null] [] M (itr (B_X12_fails_35 N G) n s M) := by
  have n1 : 1 < Z.2.2.1 := by rw [e2]; decide
  have n2 : 2 < Z.2.2.1 := by rw [e2]; decide
  refine r_itr (Lf := fun (s : Int32) => [rf w 0, .int s, .null]) (fun rec hr s M => ?_)
  unfold B_X12_fails_35
  refine r_iload_n (pc' := 36) g dX12_fails_35 rfl rfl ?_
  refine r_iconst (pc' := 37) (v := 4) g dX12_fails_36 rfl rfl ?_
  refine r_cge (pc' := 40) (tgt := 179) g dX12_fails_37 rfl rfl ?_ ?_
  · skip
    exact r_weak (Ls1 (Ls1 (Ls1 Ls0))) (kG () M)
  · skip
    refine r_aload_n (pc' := 41) g dX12_fails_40 rfl rfl ?_
    refine r_get (pc' := 44) g dX12_fails_41 rfl fl_X12_56 lM_0 (eM_0 w _ _) rfl ?_
    refine r_iload_n (pc' := 45) g dX12_fails_44 rfl rfl ?_
    refine r_iald (pc' := 46) g dX12_fails_45 rfl lM_16 (eM_16 w _ _) ?_
    refine r_ifne (pc' := 49) (tgt := 52) g dX12_fails_46 rfl rfl ?_ ?_
    · skip
      refine r_iconst (pc' := 53) (v := 0) g dX12_fails_52 rfl rfl ?_
      refine r_istore_n (pc' := 54) (L' := [rf w 0, .int s, .int 0]) g dX12_fails_53 rfl n2 rfl rfl ?_
      refine r_weak (Ls2 (Ls2 (Ls2 Ls0))) (s_X12_fails_54 g e2 e3 N s _ (fun z5 M6 => ?_) N 0 M)
      refine r_aload_n (pc' := 116) g dX12_fails_115 rfl rfl ?_
      refine r_get (pc' := 119) g dX12_fails_116 rfl fl_X12_77 lM_0 (eM_0 w _ _) rfl ?_
      refine r_iload_n (pc' := 120) g dX12_fails_119 rfl rfl ?_
      refine r_iald (pc' := 121) g dX12_fails_120 rfl lM_23 (eM_23 w _ _) ?_
      refine r_aload_n (pc' := 122) g dX12_fails_121 rfl rfl ?_
      refine r_get (pc' := 125) g dX12_fails_122 rfl fl_X12_77 lM_0 (eM_0 w _ _) rfl ?_
      refine r_bipush (pc' := 127) (v := 8) g dX12_fails_125 rfl rfl ?_
      refine r_iload_n (pc' := 128) g dX12_fails_127 rfl rfl ?_
      refine r_iadd (pc' := 129) g dX12_fails_128 rfl ?_
      refine r_iald (pc' := 130) g dX12_fails_129 rfl lM_23 (eM_23 w _ _) ?_
      refine r_aload_n (pc' := 131) g dX12_fails_130 rfl rfl ?_
      refine r_get (pc' := 134) g dX12_fails_131 rfl fl_X12_13 lM_0 (eM_0 w _ _) rfl ?_
      refine r_bipush (pc' := 136) (v := 6) g dX12_fails_134 rfl rfl ?_
      refine r_iload_n (pc' := 137) g dX12_fails_136 rfl rfl ?_
      refine r_imul (pc' := 138) g dX12_fails_137 rfl ?_
      refine r_iconst (pc' := 139) (v := 3) g dX12_fails_138 rfl rfl ?_
      refine r_iadd (pc' := 140) g dX12_fails_139 rfl ?_
      refine r_iald (pc' := 141) g dX12_fails_140 rfl lM_2 (eM_2 w _ _) ?_
      refine r_iadd (pc' := 142) g dX12_fails_141 rfl ?_
      refine r_cle (pc' := 145) (tgt := 151) g dX12_fails_142 rfl rfl ?_ ?_
      · skip
        refine r_aload_n (pc' := 152) g dX12_fails_151 rfl rfl ?_
        refine r_get (pc' := 155) g dX12_fails_152 rfl fl_X12_77 lM_0 (eM_0 w _ _) rfl ?_
        refine r_iload_n (pc' := 156) g dX12_fails_155 rfl rfl ?_
        refine r_iald (pc' := 157) g dX12_fails_156 rfl lM_23 (eM_23 w _ _) ?_
        refine r_aload_n (pc' := 158) g dX12_fails_157 rfl rfl ?_
        refine r_get (pc' := 161) g dX12_fails_158 rfl fl_X12_13 lM_0 (eM_0 w _ _) rfl ?_
        refine r_bipush (pc' := 163) (v := 41) g dX12_fails_161 rfl rfl ?_
        refine r_ialdc (pc' := 164) g dX12_fails_163 rfl lM_2 (eM_2 w _ _) rfl ?_
        refine r_cle (pc' := 167) (tgt := 173) g dX12_fails_164 rfl rfl ?_ ?_
        · skip
          refine r_iinc (pc' := 176) (b := 1) (L' := [rf w 0, .int (s + 1), .null]) g dX12_fails_173 rfl rfl rfl n1 rfl rfl ?_
          refine r_goto (tgt := 35) g dX12_fails_176 rfl ?_
          exact r_weak (Ls2 (Ls2 (Ls1 Ls0))) (hr (s + 1) M6)
        · skip
          refine r_sipush (pc' := 170) (v := 300) g dX12_fails_167 rfl rfl ?_
          refine r_iload_n (pc' := 171) g dX12_fails_170 rfl rfl ?_
          refine r_iadd (pc' := 172) g dX12_fails_171 rfl ?_
          exact r_iret g e3 dX12_fails_172
      · skip
        refine r_sipush (pc' := 148) (v := 200) g dX12_fails_145 rfl rfl ?_
        refine r_iload_n (pc' := 149) g dX12_fails_148 rfl rfl ?_
        refine r_iadd (pc' := 150) g dX12_fails_149 rfl ?_
        exact r_iret g e3 dX12_fails_150
    · skip
      refine r_goto (tgt := 173) g dX12_fails_49 rfl ?_
      refine r_iinc (pc' := 176) (b := 1) (L' := [rf w 0, .int (s + 1), .null]) g dX12_fails_173 rfl rfl rfl n1 rfl rfl ?_
      refine r_goto (tgt := 35) g dX12_fails_176 rfl ?_
      exact r_weak (Ls2 (Ls2 (Ls1 Ls0))) (hr (s + 1) M)
set_option maxHeartbeats 4000000 in
set_option maxRecDepth 100000 in
theorem c_X12_fails (l : Launch) (w : W0) (N : Nat) (M : Mm) : Ct l KM w 1 yX12_fails cX12_fails 3 (some .int) [rf w 0] M (f_X12_fails N M) := by
  refine ct_of [rf w 0, .null, .null] (by decide) (Nat.le_of_ble_eq_true rfl) rfl (fun Z e1 e2 e3 g => ?_)
  have g : Good KM w Z cX12_fails RX12 1 := g
  unfold f_X12_fails
  have n1 : 1 < Z.2.2.1 := by rw [e2]; decide
  refine r_iconst (pc' := 1) (v := 0) g dX12_fails_0 rfl rfl ?_
  refine r_istore_n (pc' := 2) (L' := [rf w 0, .int 0, .null]) g dX12_fails_1 rfl n1 rfl rfl ?_
  refine r_weak (Ls2 (Ls2 (Ls1 Ls0))) (s_X12_fails_2 g e2 e3 N _ (fun z3 M4 => ?_) N 0 M)
  refine r_iconst (pc' := 34) (v := 0) g dX12_fails_33 rfl rfl ?_
  refine r_istore_n (pc' := 35) (L' := [rf w 0, .int 0, .null]) g dX12_fails_34 rfl n1 rfl rfl ?_
  refine r_weak (Ls2 (Ls2 (Ls1 Ls0))) (s_X12_fails_35 g e2 e3 N _ (fun z7 M8 => ?_) N 0 M4)
  refine r_iconst (pc' := 180) (v := -1) g dX12_fails_179 rfl rfl ?_
  exact r_iret g e3 dX12_fails_180
