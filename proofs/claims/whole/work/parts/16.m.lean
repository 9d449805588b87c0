def f_X12_isIn (N : Nat) (b0 : Int64) (b2 : Int64) (b4 : Int64) (M : Mm) : Rs :=
  if (lg_cmp b0 b2) < 0 then
    (some (0, M))
  else
    (if 0 < (lg_cmp b0 b4) then
      (some (0, M))
    else
      (some (1, M)))

set_option maxHeartbeats 4000000 in
set_option maxRecDepth 100000 in
theorem c_X12_isIn (l : Launch) (w : W0) (N : Nat) (b0 : Int64) (b2 : Int64) (b4 : Int64) (M : Mm) : Ct l KM w 0 yX12_isIn cX12_isIn 6 (some .boolean) [.long b0, .long b2, .long b4] M (f_X12_isIn N b0 b2 b4 M) := by
  refine ct_of [.long b0, .null, .long b2, .null, .long b4, .null] (by decide) (Nat.le_of_ble_eq_true rfl) rfl (fun Z e1 e2 e3 g => ?_)
  have g : Good KM w Z cX12_isIn RX12 0 := g
  unfold f_X12_isIn
  refine r_lload_n (pc' := 1) g dX12_isIn_0 rfl rfl ?_
  refine r_lload_n (pc' := 2) g dX12_isIn_1 rfl rfl ?_
  refine r_lcmp (pc' := 3) g dX12_isIn_2 rfl ?_
  refine r_iflt (pc' := 6) (tgt := 17) g dX12_isIn_3 rfl rfl ?_ ?_
  · skip
    refine r_iconst (pc' := 18) (v := 0) g dX12_isIn_17 rfl rfl ?_
    exact r_zretc g e3 rfl dX12_isIn_18
  · skip
    refine r_lload_n (pc' := 7) g dX12_isIn_6 rfl rfl ?_
    refine r_lload (pc' := 9) g dX12_isIn_7 rfl rfl ?_
    refine r_lcmp (pc' := 10) g dX12_isIn_9 rfl ?_
    refine r_ifgt (pc' := 13) (tgt := 17) g dX12_isIn_10 rfl rfl ?_ ?_
    · skip
      refine r_iconst (pc' := 18) (v := 0) g dX12_isIn_17 rfl rfl ?_
      exact r_zretc g e3 rfl dX12_isIn_18
    · skip
      refine r_iconst (pc' := 14) (v := 1) g dX12_isIn_13 rfl rfl ?_
      refine r_goto (tgt := 18) g dX12_isIn_14 rfl ?_
      exact r_zretc g e3 rfl dX12_isIn_18
def f_X12_no (N : Nat) (a1 : Int32) (M : Mm) : Rs :=
  lt' (-a1) fun x1 =>
  (if inb x1 7 then
  (if inb x1 7 then
  (lt' (wI M 1 (ix x1) ((M.1 1 (ix x1)) + 1)) fun M2 =>
  (some (a1, M2))) else none) else none)

set_option maxHeartbeats 4000000 in
set_option maxRecDepth 100000 in
theorem c_X12_no (l : Launch) (w : W0) (N : Nat) (a1 : Int32) (M : Mm) : Ct l KM w 0 yX12_no cX12_no 2 (some .int) [rf w 0, .int a1] M (f_X12_no N a1 M) := by
  refine ct_of [rf w 0, .int a1] (by decide) (Nat.le_of_ble_eq_true rfl) rfl (fun Z e1 e2 e3 g => ?_)
  have g : Good KM w Z cX12_no RX12 0 := g
  unfold f_X12_no
  refine r_aload_n (pc' := 1) g dX12_no_0 rfl rfl ?_
  refine r_get (pc' := 4) g dX12_no_1 rfl fl_X12_7 lM_0 (eM_0 w _ _) rfl ?_
  refine r_iload_n (pc' := 5) g dX12_no_4 rfl rfl ?_
  refine r_ineg (pc' := 6) g dX12_no_5 rfl ?_
  refine r_ltI (fun x1 => ?_)
  refine r_dup2 (pc' := 7) g dX12_no_6 rfl ?_
  refine r_iald (pc' := 8) g dX12_no_7 rfl lM_1 (eM_1 w _ _) ?_
  refine r_iconst (pc' := 9) (v := 1) g dX12_no_8 rfl rfl ?_
  refine r_iadd (pc' := 10) g dX12_no_9 rfl ?_
  refine r_iast (pc' := 11) g dX12_no_10 rfl lM_1 (fun m => eM_1 w m _) ?_
  refine r_ltM (fun M2 => ?_)
  refine r_iload_n (pc' := 12) g dX12_no_11 rfl rfl ?_
  exact r_iret g e3 dX12_no_12
def f_X12_isThere (N : Nat) (a1 : Int32) (M : Mm) : Rs :=
  if a1 < 0 then
    (some (0, M))
  else
    (if a1 < 4 then
      (if inb (43 + a1) 47 then
      (if (M.1 2 (ix (43 + a1))) = 1 then
        (some (1, M))
      else
        (some (0, M))) else none)
    else
      (some (0, M)))

set_option maxHeartbeats 4000000 in
set_option maxRecDepth 100000 in
theorem c_X12_isThere (l : Launch) (w : W0) (N : Nat) (a1 : Int32) (M : Mm) : Ct l KM w 0 yX12_isThere cX12_isThere 2 (some .boolean) [rf w 0, .int a1] M (f_X12_isThere N a1 M) := by
  refine ct_of [rf w 0, .int a1] (by decide) (Nat.le_of_ble_eq_true rfl) rfl (fun Z e1 e2 e3 g => ?_)
  have g : Good KM w Z cX12_isThere RX12 0 := g
  unfold f_X12_isThere
  refine r_iload_n (pc' := 1) g dX12_isThere_0 rfl rfl ?_
  refine r_iflt (pc' := 4) (tgt := 26) g dX12_isThere_1 rfl rfl ?_ ?_
  · skip
    refine r_iconst (pc' := 27) (v := 0) g dX12_isThere_26 rfl rfl ?_
    exact r_zretc g e3 rfl dX12_isThere_27
  · skip
    refine r_iload_n (pc' := 5) g dX12_isThere_4 rfl rfl ?_
    refine r_iconst (pc' := 6) (v := 4) g dX12_isThere_5 rfl rfl ?_
    refine r_cge (pc' := 9) (tgt := 26) g dX12_isThere_6 rfl rfl ?_ ?_
    · skip
      refine r_iconst (pc' := 27) (v := 0) g dX12_isThere_26 rfl rfl ?_
      exact r_zretc g e3 rfl dX12_isThere_27
    · skip
      refine r_aload_n (pc' := 10) g dX12_isThere_9 rfl rfl ?_
      refine r_get (pc' := 13) g dX12_isThere_10 rfl fl_X12_13 lM_0 (eM_0 w _ _) rfl ?_
      refine r_bipush (pc' := 15) (v := 43) g dX12_isThere_13 rfl rfl ?_
      refine r_iload_n (pc' := 16) g dX12_isThere_15 rfl rfl ?_
      refine r_iadd (pc' := 17) g dX12_isThere_16 rfl ?_
      refine r_iald (pc' := 18) g dX12_isThere_17 rfl lM_2 (eM_2 w _ _) ?_
      refine r_iconst (pc' := 19) (v := 1) g dX12_isThere_18 rfl rfl ?_
      refine r_cne (pc' := 22) (tgt := 26) g dX12_isThere_19 rfl rfl ?_ ?_
      · skip
        refine r_iconst (pc' := 27) (v := 0) g dX12_isThere_26 rfl rfl ?_
        exact r_zretc g e3 rfl dX12_isThere_27
      · skip
        refine r_iconst (pc' := 23) (v := 1) g dX12_isThere_22 rfl rfl ?_
        refine r_goto (tgt := 27) g dX12_isThere_23 rfl ?_
        exact r_zretc g e3 rfl dX12_isThere_27
def B_X12_harbour_45 (N : Nat) (p1 : Int32) (G : Unit → Mm → Rs) (rec : Int32 → Mm → Rs) (s : Int32) (M : Mm) : Rs :=
  if s < 6 then
      (if inb ((6 * p1) + s) 47 then
      (lt' (wI M 2 (ix ((6 * p1) + s)) 0) fun M6 =>
      (rec (s + 1) M6)) else none)
    else
      (G () M)

def f_X12_harbour (N : Nat) (a1 : Int32) (M : Mm) : Rs :=
  bd (f_X12_isIn N a1.toInt64 0 3 M) fun r1 M2 =>
  (if r1 = 0 then
    (bd (f_X12_no N (-1) M2) fun r12 M13 =>
    (some (r12, M13)))
  else
    (bd (f_X12_isThere N a1 M2) fun r3 M4 =>
    (if r3 = 0 then
      (if inb (43 + a1) 47 then
      (lt' (wI M4 2 (ix (43 + a1)) 1) fun M5 =>
      (itr (B_X12_harbour_45 N a1 fun z7 M8 =>
      (lt' (wI M8 0 2 0) fun M9 =>
      (some (1, M9)))) N 0 M5)) else none)
    else
      (bd (f_X12_no N (-3) M4) fun r10 M11 =>
      (some (r10, M11))))))

set_option maxHeartbeats 4000000 in
set_option maxRecDepth 100000 in
theorem s_X12_harbour_45 {w : W0} {Z : Zx} (g : Good KM w Z cX12_harbour RX12 1) (e2 : Z.2.2.1 = 3) (e3 : Z.2.2.2 = (some .int)) (N : Nat) (p1 : Int32) (G : Unit → Mm → Rs) (kG : ∀ (x : Unit) (M : Mm), Sim KM w Z 69 [rf w 0, .null, .null] [] M (G x M)) : ∀ (n : Nat) (s : Int32) (M : Mm), Sim KM w Z 45 [rf w 0, .int p1, .int s] [] M (itr (B_X12_harbour_45 N p1 G) n s M) := by
  have n2 : 2 < Z.2.2.1 := by rw [e2]; decide
  refine r_itr (Lf := fun (s : Int32) => [rf w 0, .int p1, .int s]) (fun rec hr s M => ?_)
  unfold B_X12_harbour_45
  refine r_iload_n (pc' := 46) g dX12_harbour_45 rfl rfl ?_
  refine r_bipush (pc' := 48) (v := 6) g dX12_harbour_46 rfl rfl ?_
  refine r_cge (pc' := 51) (tgt := 69) g dX12_harbour_48 rfl rfl ?_ ?_
  · skip
    exact r_weak (Ls2 (Ls1 (Ls1 Ls0))) (kG () M)
  · skip
    refine r_aload_n (pc' := 52) g dX12_harbour_51 rfl rfl ?_
    refine r_get (pc' := 55) g dX12_harbour_52 rfl fl_X12_13 lM_0 (eM_0 w _ _) rfl ?_
    refine r_bipush (pc' := 57) (v := 6) g dX12_harbour_55 rfl rfl ?_
    refine r_iload_n (pc' := 58) g dX12_harbour_57 rfl rfl ?_
    refine r_imul (pc' := 59) g dX12_harbour_58 rfl ?_
    refine r_iload_n (pc' := 60) g dX12_harbour_59 rfl rfl ?_
    refine r_iadd (pc' := 61) g dX12_harbour_60 rfl ?_
    refine r_iconst (pc' := 62) (v := 0) g dX12_harbour_61 rfl rfl ?_
    refine r_iast (pc' := 63) g dX12_harbour_62 rfl lM_2 (fun m => eM_2 w m _) ?_
    refine r_ltM (fun M6 => ?_)
    refine r_iinc (pc' := 66) (b := 1) (L' := [rf w 0, .int p1, .int (s + 1)]) g dX12_harbour_63 rfl rfl rfl n2 rfl rfl ?_
    refine r_goto (tgt := 45) g dX12_harbour_66 rfl ?_
    exact r_weak (Ls2 (Ls2 (Ls2 Ls0))) (hr (s + 1) M6)
set_option maxHeartbeats 4000000 in
set_option maxRecDepth 100000 in
theorem c_X12_harbour (l : Launch) (w : W0) (N : Nat) (a1 : Int32) (M : Mm) : Ct l KM w 1 yX12_harbour cX12_harbour 3 (some .int) [rf w 0, .int a1] M (f_X12_harbour N a1 M) := by
  refine ct_of [rf w 0, .int a1, .null] (by decide) (Nat.le_of_ble_eq_true rfl) rfl (fun Z e1 e2 e3 g => ?_)
  have g : Good KM w Z cX12_harbour RX12 1 := g
  unfold f_X12_harbour
  have n2 : 2 < Z.2.2.1 := by rw [e2]; decide
  refine r_iload_n (pc' := 1) g dX12_harbour_0 rfl rfl ?_
  refine r_i2l (pc' := 2) g dX12_harbour_1 rfl ?_
  refine r_lconst (pc' := 3) (v := 0) g dX12_harbour_2 rfl rfl ?_
  refine r_ldc2 (pc' := 6) g dX12_harbour_3 rfl kc_X12_107 ?_
  refine r_callSi (pc' := 9) (As := [.long a1.toInt64, .long 0, .long 3]) (rest := []) g dX12_harbour_6 rfl ml_X12_109 mw_X12_isIn ms_X12_isIn (Nat.le_of_ble_eq_true rfl) (c_X12_isIn _ w N a1.toInt64 0 3 M) rfl rfl (Nat.le_of_ble_eq_true rfl) (fun r1 M2 => ?_)
  refine r_ifne (pc' := 12) (tgt := 18) g dX12_harbour_9 rfl rfl ?_ ?_
  · skip
    refine r_aload_n (pc' := 19) g dX12_harbour_18 rfl rfl ?_
    refine r_iload_n (pc' := 20) g dX12_harbour_19 rfl rfl ?_
    refine r_callVi (pc' := 23) (As := [.int a1]) (rest := []) g dX12_harbour_20 rfl ml_X12_117 mw_X12_isThere mv_X12_isThere (Nat.le_of_ble_eq_true rfl) (c_X12_isThere _ w N a1 M2) rfl lM_0 (eM_0 w _ _) rfl rfl (Nat.le_of_ble_eq_true rfl) (fun r3 M4 => ?_)
    refine r_ifeq (pc' := 26) (tgt := 33) g dX12_harbour_23 rfl rfl ?_ ?_
    · skip
      refine r_aload_n (pc' := 34) g dX12_harbour_33 rfl rfl ?_
      refine r_get (pc' := 37) g dX12_harbour_34 rfl fl_X12_13 lM_0 (eM_0 w _ _) rfl ?_
      refine r_bipush (pc' := 39) (v := 43) g dX12_harbour_37 rfl rfl ?_
      refine r_iload_n (pc' := 40) g dX12_harbour_39 rfl rfl ?_
      refine r_iadd (pc' := 41) g dX12_harbour_40 rfl ?_
      refine r_iconst (pc' := 42) (v := 1) g dX12_harbour_41 rfl rfl ?_
      refine r_iast (pc' := 43) g dX12_harbour_42 rfl lM_2 (fun m => eM_2 w m _) ?_
      refine r_ltM (fun M5 => ?_)
      refine r_iconst (pc' := 44) (v := 0) g dX12_harbour_43 rfl rfl ?_
      refine r_istore_n (pc' := 45) (L' := [rf w 0, .int a1, .int 0]) g dX12_harbour_44 rfl n2 rfl rfl ?_
      refine r_weak (Ls2 (Ls2 (Ls2 Ls0))) (s_X12_harbour_45 g e2 e3 N a1 _ (fun z7 M8 => ?_) N 0 M5)
      refine r_aload_n (pc' := 70) g dX12_harbour_69 rfl rfl ?_
      refine r_iconst (pc' := 71) (v := 0) g dX12_harbour_70 rfl rfl ?_
      refine r_putz (pc' := 74) g dX12_harbour_71 rfl fl_X12_121 rfl rfl lM_0 (eM_0 w _ _) (Nat.le_of_ble_eq_true rfl) (sM_0_2 w _ _ _) ?_
      refine r_ltM (fun M9 => ?_)
      refine r_iconst (pc' := 75) (v := 1) g dX12_harbour_74 rfl rfl ?_
      exact r_iret g e3 dX12_harbour_75
    · skip
      refine r_aload_n (pc' := 27) g dX12_harbour_26 rfl rfl ?_
      refine r_bipush (pc' := 29) (v := -3) g dX12_harbour_27 rfl rfl ?_
      refine r_callVi (pc' := 32) (As := [.int (-3)]) (rest := []) g dX12_harbour_29 rfl ml_X12_113 mw_X12_no mv_X12_no (Nat.le_of_ble_eq_true rfl) (c_X12_no _ w N (-3) M4) rfl lM_0 (eM_0 w _ _) rfl rfl (Nat.le_of_ble_eq_true rfl) (fun r10 M11 => ?_)
      exact r_iret g e3 dX12_harbour_32
  · skip
    refine r_aload_n (pc' := 13) g dX12_harbour_12 rfl rfl ?_
    refine r_iconst (pc' := 14) (v := -1) g dX12_harbour_13 rfl rfl ?_
    refine r_callVi (pc' := 17) (As := [.int (-1)]) (rest := []) g dX12_harbour_14 rfl ml_X12_113 mw_X12_no mv_X12_no (Nat.le_of_ble_eq_true rfl) (c_X12_no _ w N (-1) M2) rfl lM_0 (eM_0 w _ _) rfl rfl (Nat.le_of_ble_eq_true rfl) (fun r12 M13 => ?_)
    exact r_iret g e3 dX12_harbour_17
def f_X12_outOf (N : Nat) (b0 : Int64) (b2 : Int64) (b4 : Int64) (M : Mm) : Rs :=
  if (lg_cmp b0 b2) < 0 then
    (some ((-4), M))
  else
    (if 0 < (lg_cmp b0 b4) then
      (some ((-6), M))
    else
      (some (0, M)))

set_option maxHeartbeats 4000000 in
set_option maxRecDepth 100000 in
theorem c_X12_outOf (l : Launch) (w : W0) (N : Nat) (b0 : Int64) (b2 : Int64) (b4 : Int64) (M : Mm) : Ct l KM w 0 yX12_outOf cX12_outOf 6 (some .int) [.long b0, .long b2, .long b4] M (f_X12_outOf N b0 b2 b4 M) := by
  refine ct_of [.long b0, .null, .long b2, .null, .long b4, .null] (by decide) (Nat.le_of_ble_eq_true rfl) rfl (fun Z e1 e2 e3 g => ?_)
  have g : Good KM w Z cX12_outOf RX12 0 := g
  unfold f_X12_outOf
  refine r_lload_n (pc' := 1) g dX12_outOf_0 rfl rfl ?_
  refine r_lload_n (pc' := 2) g dX12_outOf_1 rfl rfl ?_
  refine r_lcmp (pc' := 3) g dX12_outOf_2 rfl ?_
  refine r_ifge (pc' := 6) (tgt := 11) g dX12_outOf_3 rfl rfl ?_ ?_
  · skip
    refine r_lload_n (pc' := 12) g dX12_outOf_11 rfl rfl ?_
    refine r_lload (pc' := 14) g dX12_outOf_12 rfl rfl ?_
    refine r_lcmp (pc' := 15) g dX12_outOf_14 rfl ?_
    refine r_ifle (pc' := 18) (tgt := 23) g dX12_outOf_15 rfl rfl ?_ ?_
    · skip
      refine r_iconst (pc' := 24) (v := 0) g dX12_outOf_23 rfl rfl ?_
      exact r_iret g e3 dX12_outOf_24
    · skip
      refine r_bipush (pc' := 20) (v := -6) g dX12_outOf_18 rfl rfl ?_
      refine r_goto (tgt := 24) g dX12_outOf_20 rfl ?_
      exact r_iret g e3 dX12_outOf_24
  · skip
    refine r_bipush (pc' := 8) (v := -4) g dX12_outOf_6 rfl rfl ?_
    refine r_goto (tgt := 24) g dX12_outOf_8 rfl ?_
    exact r_iret g e3 dX12_outOf_24
def B_X12_becomes_11 (N : Nat) (p1 : Int32) (p2 : Int32) (G : Unit → Mm → Rs) (rec : Int32 → Mm → Rs) (s : Int32) (M : Mm) : Rs :=
  if s < 40 then
      (if inb s 40 then
      (if inb (s - 1) 40 then
      (lt' (wI M 3 (ix (s - 1)) (M.1 3 (ix s))) fun M9 =>
      (if inb s 40 then
      (if inb (s - 1) 40 then
      (lt' (wI M9 4 (ix (s - 1)) (M9.1 4 (ix s))) fun M10 =>
      (rec (s + 1) M10)) else none) else none)) else none) else none)
    else
      (G () M)

def f_X12_becomes (N : Nat) (a1 : Int32) (a2 : Int32) (M : Mm) : Rs :=
  lt' (fun (s1 : Unit) (M2 : Mm) =>
    ((if inb (M2.1 0 5) 40 then
    (lt' (wI M2 3 (ix (M2.1 0 5)) a1) fun M4 =>
    (if inb a1 47 then
    (if inb (M4.1 0 5) 40 then
    (lt' (wI M4 4 (ix (M4.1 0 5)) (M4.1 2 (ix a1))) fun M5 =>
    (lt' (wI M5 0 5 ((M5.1 0 5) + 1)) fun M6 =>
    (if inb a1 47 then
    (if inb a1 47 then
    (lt' (wI M6 2 (ix a1) a2) fun M7 =>
    (lt' (wI M7 0 2 0) fun M8 =>
    (some (M6.1 2 (ix a1), M8)))) else none) else none))) else none) else none)) else none) : Rs)) fun jn3 =>
  (if (M.1 0 5) = 40 then
    (itr (B_X12_becomes_11 N a1 a2 fun z11 M12 =>
    (lt' (wI M12 0 5 ((M12.1 0 5) - 1)) fun M13 =>
    (jn3 () M13))) N 1 M)
  else
    (jn3 () M))

set_option maxHeartbeats 4000000 in
set_option maxRecDepth 100000 in
theorem s_X12_becomes_11 {w : W0} {Z : Zx} (g : Good KM w Z cX12_becomes RX12 0) (e2 : Z.2.2.1 = 4) (e3 : Z.2.2.2 = (some .int)) (N : Nat) (p1 : Int32) (p2 : Int32) (G : Unit → Mm → Rs) (kG : ∀ (x : Unit) (M : Mm), Sim KM w Z 51 [rf w 0, .int p1, .int p2, .null] [] M (G x M)) : ∀ (n : Nat) (s : Int32) (M : Mm), Sim KM w Z 11 [rf w 0, .int p1, .int p2, .int s] [] M (itr (B_X12_becomes_11 N p1 p2 G) n s M) := by
  have n3 : 3 < Z.2.2.1 := by rw [e2]; decide
  refine r_itr (Lf := fun (s : Int32) => [rf w 0, .int p1, .int p2, .int s]) (fun rec hr s M => ?_)
  unfold B_X12_becomes_11
  refine r_iload_n (pc' := 12) g dX12_becomes_11 rfl rfl ?_
  refine r_bipush (pc' := 14) (v := 40) g dX12_becomes_12 rfl rfl ?_
  refine r_cge (pc' := 17) (tgt := 51) g dX12_becomes_14 rfl rfl ?_ ?_
  · skip
    exact r_weak (Ls2 (Ls2 (Ls2 (Ls1 Ls0)))) (kG () M)
  · skip
    refine r_aload_n (pc' := 18) g dX12_becomes_17 rfl rfl ?_
    refine r_get (pc' := 21) g dX12_becomes_18 rfl fl_X12_16 lM_0 (eM_0 w _ _) rfl ?_
    refine r_iload_n (pc' := 22) g dX12_becomes_21 rfl rfl ?_
    refine r_iconst (pc' := 23) (v := 1) g dX12_becomes_22 rfl rfl ?_
    refine r_isub (pc' := 24) g dX12_becomes_23 rfl ?_
    refine r_aload_n (pc' := 25) g dX12_becomes_24 rfl rfl ?_
    refine r_get (pc' := 28) g dX12_becomes_25 rfl fl_X12_16 lM_0 (eM_0 w _ _) rfl ?_
    refine r_iload_n (pc' := 29) g dX12_becomes_28 rfl rfl ?_
    refine r_iald (pc' := 30) g dX12_becomes_29 rfl lM_3 (eM_3 w _ _) ?_
    refine r_iast (pc' := 31) g dX12_becomes_30 rfl lM_3 (fun m => eM_3 w m _) ?_
    refine r_ltM (fun M9 => ?_)
    refine r_aload_n (pc' := 32) g dX12_becomes_31 rfl rfl ?_
    refine r_get (pc' := 35) g dX12_becomes_32 rfl fl_X12_19 lM_0 (eM_0 w _ _) rfl ?_
    refine r_iload_n (pc' := 36) g dX12_becomes_35 rfl rfl ?_
    refine r_iconst (pc' := 37) (v := 1) g dX12_becomes_36 rfl rfl ?_
    refine r_isub (pc' := 38) g dX12_becomes_37 rfl ?_
    refine r_aload_n (pc' := 39) g dX12_becomes_38 rfl rfl ?_
    refine r_get (pc' := 42) g dX12_becomes_39 rfl fl_X12_19 lM_0 (eM_0 w _ _) rfl ?_
    refine r_iload_n (pc' := 43) g dX12_becomes_42 rfl rfl ?_
    refine r_iald (pc' := 44) g dX12_becomes_43 rfl lM_4 (eM_4 w _ _) ?_
    refine r_iast (pc' := 45) g dX12_becomes_44 rfl lM_4 (fun m => eM_4 w m _) ?_
    refine r_ltM (fun M10 => ?_)
    refine r_iinc (pc' := 48) (b := 1) (L' := [rf w 0, .int p1, .int p2, .int (s + 1)]) g dX12_becomes_45 rfl rfl rfl n3 rfl rfl ?_
    refine r_goto (tgt := 11) g dX12_becomes_48 rfl ?_
    exact r_weak (Ls2 (Ls2 (Ls2 (Ls2 Ls0)))) (hr (s + 1) M10)
set_option maxHeartbeats 4000000 in
set_option maxRecDepth 100000 in
theorem c_X12_becomes (l : Launch) (w : W0) (N : Nat) (a1 : Int32) (a2 : Int32) (M : Mm) : Ct l KM w 0 yX12_becomes cX12_becomes 4 (some .int) [rf w 0, .int a1, .int a2] M (f_X12_becomes N a1 a2 M) := by
  refine ct_of [rf w 0, .int a1, .int a2, .null] (by decide) (Nat.le_of_ble_eq_true rfl) rfl (fun Z e1 e2 e3 g => ?_)
  have g : Good KM w Z cX12_becomes RX12 0 := g
  unfold f_X12_becomes
  have n3 : 3 < Z.2.2.1 := by rw [e2]; decide
  refine r_aload_n (pc' := 1) g dX12_becomes_0 rfl rfl ?_
  refine r_get (pc' := 4) g dX12_becomes_1 rfl fl_X12_125 lM_0 (eM_0 w _ _) rfl ?_
  refine r_bipush (pc' := 6) (v := 40) g dX12_becomes_4 rfl rfl ?_
  refine r_jn (pj := 61) (Lj := fun (s1 : Unit) => [rf w 0, .int a1, .int a2, .null]) (stj := fun (s1 : Unit) => []) (fun s1 M2 => ?_) (fun jn3 hjn3 => ?_)
  · skip
    refine r_aload_n (pc' := 62) g dX12_becomes_61 rfl rfl ?_
    refine r_get (pc' := 65) g dX12_becomes_62 rfl fl_X12_16 lM_0 (eM_0 w _ _) rfl ?_
    refine r_aload_n (pc' := 66) g dX12_becomes_65 rfl rfl ?_
    refine r_get (pc' := 69) g dX12_becomes_66 rfl fl_X12_125 lM_0 (eM_0 w _ _) rfl ?_
    refine r_iload_n (pc' := 70) g dX12_becomes_69 rfl rfl ?_
    refine r_iast (pc' := 71) g dX12_becomes_70 rfl lM_3 (fun m => eM_3 w m _) ?_
    refine r_ltM (fun M4 => ?_)
    refine r_aload_n (pc' := 72) g dX12_becomes_71 rfl rfl ?_
    refine r_get (pc' := 75) g dX12_becomes_72 rfl fl_X12_19 lM_0 (eM_0 w _ _) rfl ?_
    refine r_aload_n (pc' := 76) g dX12_becomes_75 rfl rfl ?_
    refine r_get (pc' := 79) g dX12_becomes_76 rfl fl_X12_125 lM_0 (eM_0 w _ _) rfl ?_
    refine r_aload_n (pc' := 80) g dX12_becomes_79 rfl rfl ?_
    refine r_get (pc' := 83) g dX12_becomes_80 rfl fl_X12_13 lM_0 (eM_0 w _ _) rfl ?_
    refine r_iload_n (pc' := 84) g dX12_becomes_83 rfl rfl ?_
    refine r_iald (pc' := 85) g dX12_becomes_84 rfl lM_2 (eM_2 w _ _) ?_
    refine r_iast (pc' := 86) g dX12_becomes_85 rfl lM_4 (fun m => eM_4 w m _) ?_
    refine r_ltM (fun M5 => ?_)
    refine r_aload_n (pc' := 87) g dX12_becomes_86 rfl rfl ?_
    refine r_dupa (pc' := 88) g dX12_becomes_87 rfl ?_
    refine r_get (pc' := 91) g dX12_becomes_88 rfl fl_X12_125 lM_0 (eM_0 w _ _) rfl ?_
    refine r_iconst (pc' := 92) (v := 1) g dX12_becomes_91 rfl rfl ?_
    refine r_iadd (pc' := 93) g dX12_becomes_92 rfl ?_
    refine r_put (pc' := 96) g dX12_becomes_93 rfl fl_X12_125 rfl lM_0 (eM_0 w _ _) (Nat.le_of_ble_eq_true rfl) (sM_0_5 w _ _ _) ?_
    refine r_ltM (fun M6 => ?_)
    refine r_aload_n (pc' := 97) g dX12_becomes_96 rfl rfl ?_
    refine r_get (pc' := 100) g dX12_becomes_97 rfl fl_X12_13 lM_0 (eM_0 w _ _) rfl ?_
    refine r_iload_n (pc' := 101) g dX12_becomes_100 rfl rfl ?_
    refine r_iald (pc' := 102) g dX12_becomes_101 rfl lM_2 (eM_2 w _ _) ?_
    refine r_istore_n (pc' := 103) (L' := [rf w 0, .int a1, .int a2, .int (M6.1 2 (ix a1))]) g dX12_becomes_102 rfl n3 rfl rfl ?_
    refine r_aload_n (pc' := 104) g dX12_becomes_103 rfl rfl ?_
    refine r_get (pc' := 107) g dX12_becomes_104 rfl fl_X12_13 lM_0 (eM_0 w _ _) rfl ?_
    refine r_iload_n (pc' := 108) g dX12_becomes_107 rfl rfl ?_
    refine r_iload_n (pc' := 109) g dX12_becomes_108 rfl rfl ?_
    refine r_iast (pc' := 110) g dX12_becomes_109 rfl lM_2 (fun m => eM_2 w m _) ?_
    refine r_ltM (fun M7 => ?_)
    refine r_aload_n (pc' := 111) g dX12_becomes_110 rfl rfl ?_
    refine r_iconst (pc' := 112) (v := 0) g dX12_becomes_111 rfl rfl ?_
    refine r_putz (pc' := 115) g dX12_becomes_112 rfl fl_X12_121 rfl rfl lM_0 (eM_0 w _ _) (Nat.le_of_ble_eq_true rfl) (sM_0_2 w _ _ _) ?_
    refine r_ltM (fun M8 => ?_)
    refine r_iload_n (pc' := 116) g dX12_becomes_115 rfl rfl ?_
    exact r_iret g e3 dX12_becomes_116
  refine r_cne (pc' := 9) (tgt := 61) g dX12_becomes_6 rfl rfl ?_ ?_
  · skip
    exact r_weak (Ls2 (Ls2 (Ls2 (Ls1 Ls0)))) (hjn3 () M)
  · skip
    refine r_iconst (pc' := 10) (v := 1) g dX12_becomes_9 rfl rfl ?_
    refine r_istore_n (pc' := 11) (L' := [rf w 0, .int a1, .int a2, .int 1]) g dX12_becomes_10 rfl n3 rfl rfl ?_
    refine r_weak (Ls2 (Ls2 (Ls2 (Ls2 Ls0)))) (s_X12_becomes_11 g e2 e3 N a1 a2 _ (fun z11 M12 => ?_) N 1 M)
    refine r_aload_n (pc' := 52) g dX12_becomes_51 rfl rfl ?_
    refine r_dupa (pc' := 53) g dX12_becomes_52 rfl ?_
    refine r_get (pc' := 56) g dX12_becomes_53 rfl fl_X12_125 lM_0 (eM_0 w _ _) rfl ?_
    refine r_iconst (pc' := 57) (v := 1) g dX12_becomes_56 rfl rfl ?_
    refine r_isub (pc' := 58) g dX12_becomes_57 rfl ?_
    refine r_put (pc' := 61) g dX12_becomes_58 rfl fl_X12_125 rfl lM_0 (eM_0 w _ _) (Nat.le_of_ble_eq_true rfl) (sM_0_5 w _ _ _) ?_
    refine r_ltM (fun M13 => ?_)
    exact r_weak (Ls2 (Ls2 (Ls2 (Ls1 Ls0)))) (hjn3 () M13)
def f_X12_tell (N : Nat) (a1 : Int32) (a2 : Int32) (a3 : Int32) (M : Mm) : Rs :=
  bd (f_X12_isThere N a1 M) fun r1 M2 =>
  (if r1 = 0 then
    (bd (f_X12_no N (-1) M2) fun r16 M17 =>
    (some (r16, M17)))
  else
    (bd (f_X12_isIn N a2.toInt64 0 5 M2) fun r3 M4 =>
    (if r3 = 0 then
      (bd (f_X12_no N (-2) M4) fun r14 M15 =>
      (some (r14, M15)))
    else
      (lt' (fun (s5 : Int64) (M6 : Mm) =>
        ((bd (f_X12_outOf N a3.toInt64 0 s5 M6) fun r8 M9 =>
        (if r8 = 0 then
          (bd (f_X12_becomes N ((6 * a1) + a2) a3 M9) fun r10 M11 =>
          (some (r10, M11)))
        else
          (bd (f_X12_no N r8 M9) fun r12 M13 =>
          (some (r12, M13))))) : Rs)) fun jn7 =>
      (if a2 = 2 then
        (jn7 999 M4)
      else
        (if a2 = 5 then
          (jn7 9 M4)
        else
          (jn7 99 M4)))))))

set_option maxHeartbeats 4000000 in
set_option maxRecDepth 100000 in
theorem c_X12_tell (l : Launch) (w : W0) (N : Nat) (a1 : Int32) (a2 : Int32) (a3 : Int32) (M : Mm) : Ct l KM w 1 yX12_tell cX12_tell 5 (some .int) [rf w 0, .int a1, .int a2, .int a3] M (f_X12_tell N a1 a2 a3 M) := by
  refine ct_of [rf w 0, .int a1, .int a2, .int a3, .null] (by decide) (Nat.le_of_ble_eq_true rfl) rfl (fun Z e1 e2 e3 g => ?_)
  have g : Good KM w Z cX12_tell RX12 1 := g
  unfold f_X12_tell
  have n4 : 4 < Z.2.2.1 := by rw [e2]; decide
  refine r_aload_n (pc' := 1) g dX12_tell_0 rfl rfl ?_
  refine r_iload_n (pc' := 2) g dX12_tell_1 rfl rfl ?_
  refine r_callVi (pc' := 5) (As := [.int a1]) (rest := []) g dX12_tell_2 rfl ml_X12_117 mw_X12_isThere mv_X12_isThere (Nat.le_of_ble_eq_true rfl) (c_X12_isThere _ w N a1 M) rfl lM_0 (eM_0 w _ _) rfl rfl (Nat.le_of_ble_eq_true rfl) (fun r1 M2 => ?_)
  refine r_ifne (pc' := 8) (tgt := 14) g dX12_tell_5 rfl rfl ?_ ?_
  · skip
    refine r_iload_n (pc' := 15) g dX12_tell_14 rfl rfl ?_
    refine r_i2l (pc' := 16) g dX12_tell_15 rfl ?_
    refine r_lconst (pc' := 17) (v := 0) g dX12_tell_16 rfl rfl ?_
    refine r_ldc2 (pc' := 20) g dX12_tell_17 rfl kc_X12_129 ?_
    refine r_callSi (pc' := 23) (As := [.long a2.toInt64, .long 0, .long 5]) (rest := []) g dX12_tell_20 rfl ml_X12_109 mw_X12_isIn ms_X12_isIn (Nat.le_of_ble_eq_true rfl) (c_X12_isIn _ w N a2.toInt64 0 5 M2) rfl rfl (Nat.le_of_ble_eq_true rfl) (fun r3 M4 => ?_)
    refine r_ifne (pc' := 26) (tgt := 33) g dX12_tell_23 rfl rfl ?_ ?_
    · skip
      refine r_iload_n (pc' := 34) g dX12_tell_33 rfl rfl ?_
      refine r_i2l (pc' := 35) g dX12_tell_34 rfl ?_
      refine r_lconst (pc' := 36) (v := 0) g dX12_tell_35 rfl rfl ?_
      refine r_iload_n (pc' := 37) g dX12_tell_36 rfl rfl ?_
      refine r_iconst (pc' := 38) (v := 2) g dX12_tell_37 rfl rfl ?_
      refine r_jn (pj := 61) (Lj := fun (s5 : Int64) => [rf w 0, .int a1, .int a2, .int a3, .null]) (stj := fun (s5 : Int64) => [.long s5, .long 0, .long a3.toInt64]) (fun s5 M6 => ?_) (fun jn7 hjn7 => ?_)
      · skip
        refine r_callSi (pc' := 64) (As := [.long a3.toInt64, .long 0, .long s5]) (rest := []) g dX12_tell_61 rfl ml_X12_137 mw_X12_outOf ms_X12_outOf (Nat.le_of_ble_eq_true rfl) (c_X12_outOf _ w N a3.toInt64 0 s5 M6) rfl rfl (Nat.le_of_ble_eq_true rfl) (fun r8 M9 => ?_)
        refine r_istore (pc' := 66) (L' := [rf w 0, .int a1, .int a2, .int a3, .int r8]) g dX12_tell_64 rfl n4 rfl rfl ?_
        refine r_iload (pc' := 68) g dX12_tell_66 rfl rfl ?_
        refine r_ifeq (pc' := 71) (tgt := 80) g dX12_tell_68 rfl rfl ?_ ?_
        · skip
          refine r_aload_n (pc' := 81) g dX12_tell_80 rfl rfl ?_
          refine r_bipush (pc' := 83) (v := 6) g dX12_tell_81 rfl rfl ?_
          refine r_iload_n (pc' := 84) g dX12_tell_83 rfl rfl ?_
          refine r_imul (pc' := 85) g dX12_tell_84 rfl ?_
          refine r_iload_n (pc' := 86) g dX12_tell_85 rfl rfl ?_
          refine r_iadd (pc' := 87) g dX12_tell_86 rfl ?_
          refine r_iload_n (pc' := 88) g dX12_tell_87 rfl rfl ?_
          refine r_callVi (pc' := 91) (As := [.int ((6 * a1) + a2), .int a3]) (rest := []) g dX12_tell_88 rfl ml_X12_141 mw_X12_becomes mv_X12_becomes (Nat.le_of_ble_eq_true rfl) (c_X12_becomes _ w N ((6 * a1) + a2) a3 M9) rfl lM_0 (eM_0 w _ _) rfl rfl (Nat.le_of_ble_eq_true rfl) (fun r10 M11 => ?_)
          exact r_iret g e3 dX12_tell_91
        · skip
          refine r_aload_n (pc' := 72) g dX12_tell_71 rfl rfl ?_
          refine r_iload (pc' := 74) g dX12_tell_72 rfl rfl ?_
          refine r_callVi (pc' := 77) (As := [.int r8]) (rest := []) g dX12_tell_74 rfl ml_X12_113 mw_X12_no mv_X12_no (Nat.le_of_ble_eq_true rfl) (c_X12_no _ w N r8 M9) rfl lM_0 (eM_0 w _ _) rfl rfl (Nat.le_of_ble_eq_true rfl) (fun r12 M13 => ?_)
          refine r_goto (tgt := 91) g dX12_tell_77 rfl ?_
          exact r_iret g e3 dX12_tell_91
      refine r_cne (pc' := 41) (tgt := 47) g dX12_tell_38 rfl rfl ?_ ?_
      · skip
        refine r_iload_n (pc' := 48) g dX12_tell_47 rfl rfl ?_
        refine r_iconst (pc' := 49) (v := 5) g dX12_tell_48 rfl rfl ?_
        refine r_cne (pc' := 52) (tgt := 58) g dX12_tell_49 rfl rfl ?_ ?_
        · skip
          refine r_ldc2 (pc' := 61) g dX12_tell_58 rfl kc_X12_135 ?_
          exact r_weak (Ls2 (Ls2 (Ls2 (Ls2 (Ls1 Ls0))))) (hjn7 99 M4)
        · skip
          refine r_ldc2 (pc' := 55) g dX12_tell_52 rfl kc_X12_133 ?_
          refine r_goto (tgt := 61) g dX12_tell_55 rfl ?_
          exact r_weak (Ls2 (Ls2 (Ls2 (Ls2 (Ls1 Ls0))))) (hjn7 9 M4)
      · skip
        refine r_ldc2 (pc' := 44) g dX12_tell_41 rfl kc_X12_131 ?_
        refine r_goto (tgt := 61) g dX12_tell_44 rfl ?_
        exact r_weak (Ls2 (Ls2 (Ls2 (Ls2 (Ls1 Ls0))))) (hjn7 999 M4)
    · skip
      refine r_aload_n (pc' := 27) g dX12_tell_26 rfl rfl ?_
      refine r_bipush (pc' := 29) (v := -2) g dX12_tell_27 rfl rfl ?_
      refine r_callVi (pc' := 32) (As := [.int (-2)]) (rest := []) g dX12_tell_29 rfl ml_X12_113 mw_X12_no mv_X12_no (Nat.le_of_ble_eq_true rfl) (c_X12_no _ w N (-2) M4) rfl lM_0 (eM_0 w _ _) rfl rfl (Nat.le_of_ble_eq_true rfl) (fun r14 M15 => ?_)
      exact r_iret g e3 dX12_tell_32
  · skip
    refine r_aload_n (pc' := 9) g dX12_tell_8 rfl rfl ?_
    refine r_iconst (pc' := 10) (v := -1) g dX12_tell_9 rfl rfl ?_
    refine r_callVi (pc' := 13) (As := [.int (-1)]) (rest := []) g dX12_tell_10 rfl ml_X12_113 mw_X12_no mv_X12_no (Nat.le_of_ble_eq_true rfl) (c_X12_no _ w N (-1) M2) rfl lM_0 (eM_0 w _ _) rfl rfl (Nat.le_of_ble_eq_true rfl) (fun r16 M17 => ?_)
    exact r_iret g e3 dX12_tell_13
def f_X12_move (N : Nat) (a1 : Int32) (a2 : Int32) (a3 : Int32) (M : Mm) : Rs :=
  bd (f_X12_isThere N a1 M) fun r1 M2 =>
  (if r1 = 0 then
    (bd (f_X12_no N (-1) M2) fun r3 M4 =>
    (some (r3, M4)))
  else
    (bd (f_X12_isThere N a2 M2) fun r5 M6 =>
    (if r5 = 0 then
      (bd (f_X12_no N (-1) M6) fun r7 M8 =>
      (some (r7, M8)))
    else
      (if a1 = a2 then
        (bd (f_X12_no N (-1) M6) fun r15 M16 =>
        (some (r15, M16)))
      else
        (bd (f_X12_outOf N a3.toInt64 0 99 M6) fun r9 M10 =>
        (if r9 = 0 then
          (bd (f_X12_becomes N ((24 + (4 * a1)) + a2) a3 M10) fun r11 M12 =>
          (some (r11, M12)))
        else
          (bd (f_X12_no N r9 M10) fun r13 M14 =>
          (some (r13, M14)))))))))

set_option maxHeartbeats 4000000 in
set_option maxRecDepth 100000 in
theorem c_X12_move (l : Launch) (w : W0) (N : Nat) (a1 : Int32) (a2 : Int32) (a3 : Int32) (M : Mm) : Ct l KM w 1 yX12_move cX12_move 5 (some .int) [rf w 0, .int a1, .int a2, .int a3] M (f_X12_move N a1 a2 a3 M) := by
  refine ct_of [rf w 0, .int a1, .int a2, .int a3, .null] (by decide) (Nat.le_of_ble_eq_true rfl) rfl (fun Z e1 e2 e3 g => ?_)
  have g : Good KM w Z cX12_move RX12 1 := g
  unfold f_X12_move
  have n4 : 4 < Z.2.2.1 := by rw [e2]; decide
  refine r_aload_n (pc' := 1) g dX12_move_0 rfl rfl ?_
  refine r_iload_n (pc' := 2) g dX12_move_1 rfl rfl ?_
  refine r_callVi (pc' := 5) (As := [.int a1]) (rest := []) g dX12_move_2 rfl ml_X12_117 mw_X12_isThere mv_X12_isThere (Nat.le_of_ble_eq_true rfl) (c_X12_isThere _ w N a1 M) rfl lM_0 (eM_0 w _ _) rfl rfl (Nat.le_of_ble_eq_true rfl) (fun r1 M2 => ?_)
  refine r_ifeq (pc' := 8) (tgt := 21) g dX12_move_5 rfl rfl ?_ ?_
  · skip
    refine r_aload_n (pc' := 22) g dX12_move_21 rfl rfl ?_
    refine r_iconst (pc' := 23) (v := -1) g dX12_move_22 rfl rfl ?_
    refine r_callVi (pc' := 26) (As := [.int (-1)]) (rest := []) g dX12_move_23 rfl ml_X12_113 mw_X12_no mv_X12_no (Nat.le_of_ble_eq_true rfl) (c_X12_no _ w N (-1) M2) rfl lM_0 (eM_0 w _ _) rfl rfl (Nat.le_of_ble_eq_true rfl) (fun r3 M4 => ?_)
    exact r_iret g e3 dX12_move_26
  · skip
    refine r_aload_n (pc' := 9) g dX12_move_8 rfl rfl ?_
    refine r_iload_n (pc' := 10) g dX12_move_9 rfl rfl ?_
    refine r_callVi (pc' := 13) (As := [.int a2]) (rest := []) g dX12_move_10 rfl ml_X12_117 mw_X12_isThere mv_X12_isThere (Nat.le_of_ble_eq_true rfl) (c_X12_isThere _ w N a2 M2) rfl lM_0 (eM_0 w _ _) rfl rfl (Nat.le_of_ble_eq_true rfl) (fun r5 M6 => ?_)
    refine r_ifeq (pc' := 16) (tgt := 21) g dX12_move_13 rfl rfl ?_ ?_
    · skip
      refine r_aload_n (pc' := 22) g dX12_move_21 rfl rfl ?_
      refine r_iconst (pc' := 23) (v := -1) g dX12_move_22 rfl rfl ?_
      refine r_callVi (pc' := 26) (As := [.int (-1)]) (rest := []) g dX12_move_23 rfl ml_X12_113 mw_X12_no mv_X12_no (Nat.le_of_ble_eq_true rfl) (c_X12_no _ w N (-1) M6) rfl lM_0 (eM_0 w _ _) rfl rfl (Nat.le_of_ble_eq_true rfl) (fun r7 M8 => ?_)
      exact r_iret g e3 dX12_move_26
    · skip
      refine r_iload_n (pc' := 17) g dX12_move_16 rfl rfl ?_
      refine r_iload_n (pc' := 18) g dX12_move_17 rfl rfl ?_
      refine r_cne (pc' := 21) (tgt := 27) g dX12_move_18 rfl rfl ?_ ?_
      · skip
        refine r_iload_n (pc' := 28) g dX12_move_27 rfl rfl ?_
        refine r_i2l (pc' := 29) g dX12_move_28 rfl ?_
        refine r_lconst (pc' := 30) (v := 0) g dX12_move_29 rfl rfl ?_
        refine r_ldc2 (pc' := 33) g dX12_move_30 rfl kc_X12_135 ?_
        refine r_callSi (pc' := 36) (As := [.long a3.toInt64, .long 0, .long 99]) (rest := []) g dX12_move_33 rfl ml_X12_137 mw_X12_outOf ms_X12_outOf (Nat.le_of_ble_eq_true rfl) (c_X12_outOf _ w N a3.toInt64 0 99 M6) rfl rfl (Nat.le_of_ble_eq_true rfl) (fun r9 M10 => ?_)
        refine r_istore (pc' := 38) (L' := [rf w 0, .int a1, .int a2, .int a3, .int r9]) g dX12_move_36 rfl n4 rfl rfl ?_
        refine r_iload (pc' := 40) g dX12_move_38 rfl rfl ?_
        refine r_ifeq (pc' := 43) (tgt := 52) g dX12_move_40 rfl rfl ?_ ?_
        · skip
          refine r_aload_n (pc' := 53) g dX12_move_52 rfl rfl ?_
          refine r_bipush (pc' := 55) (v := 24) g dX12_move_53 rfl rfl ?_
          refine r_iconst (pc' := 56) (v := 4) g dX12_move_55 rfl rfl ?_
          refine r_iload_n (pc' := 57) g dX12_move_56 rfl rfl ?_
          refine r_imul (pc' := 58) g dX12_move_57 rfl ?_
          refine r_iadd (pc' := 59) g dX12_move_58 rfl ?_
          refine r_iload_n (pc' := 60) g dX12_move_59 rfl rfl ?_
          refine r_iadd (pc' := 61) g dX12_move_60 rfl ?_
          refine r_iload_n (pc' := 62) g dX12_move_61 rfl rfl ?_
          refine r_callVi (pc' := 65) (As := [.int ((24 + (4 * a1)) + a2), .int a3]) (rest := []) g dX12_move_62 rfl ml_X12_141 mw_X12_becomes mv_X12_becomes (Nat.le_of_ble_eq_true rfl) (c_X12_becomes _ w N ((24 + (4 * a1)) + a2) a3 M10) rfl lM_0 (eM_0 w _ _) rfl rfl (Nat.le_of_ble_eq_true rfl) (fun r11 M12 => ?_)
          exact r_iret g e3 dX12_move_65
        · skip
          refine r_aload_n (pc' := 44) g dX12_move_43 rfl rfl ?_
          refine r_iload (pc' := 46) g dX12_move_44 rfl rfl ?_
          refine r_callVi (pc' := 49) (As := [.int r9]) (rest := []) g dX12_move_46 rfl ml_X12_113 mw_X12_no mv_X12_no (Nat.le_of_ble_eq_true rfl) (c_X12_no _ w N r9 M10) rfl lM_0 (eM_0 w _ _) rfl rfl (Nat.le_of_ble_eq_true rfl) (fun r13 M14 => ?_)
          refine r_goto (tgt := 65) g dX12_move_49 rfl ?_
          exact r_iret g e3 dX12_move_65
      · skip
        refine r_aload_n (pc' := 22) g dX12_move_21 rfl rfl ?_
        refine r_iconst (pc' := 23) (v := -1) g dX12_move_22 rfl rfl ?_
        refine r_callVi (pc' := 26) (As := [.int (-1)]) (rest := []) g dX12_move_23 rfl ml_X12_113 mw_X12_no mv_X12_no (Nat.le_of_ble_eq_true rfl) (c_X12_no _ w N (-1) M6) rfl lM_0 (eM_0 w _ _) rfl rfl (Nat.le_of_ble_eq_true rfl) (fun r15 M16 => ?_)
        exact r_iret g e3 dX12_move_26
def f_X12_set (N : Nat) (a1 : Int32) (a2 : Int32) (M : Mm) : Rs :=
  bd (f_X12_isIn N a1.toInt64 0 2 M) fun r1 M2 =>
  (if r1 = 0 then
    (bd (f_X12_no N (-2) M2) fun r15 M16 =>
    (some (r15, M16)))
  else
    (lt' (fun (s3 : Int64) (M4 : Mm) =>
      ((lt' (fun (s6 : Int64) (M7 : Mm) =>
        ((bd (f_X12_outOf N a2.toInt64 s3 s6 M7) fun r9 M10 =>
        (if r9 = 0 then
          (bd (f_X12_becomes N (40 + a1) a2 M10) fun r11 M12 =>
          (some (r11, M12)))
        else
          (bd (f_X12_no N r9 M10) fun r13 M14 =>
          (some (r13, M14))))) : Rs)) fun jn8 =>
      (if a1 = 0 then
        (jn8 50 M4)
      else
        (if a1 = 1 then
          (jn8 999 M4)
        else
          (jn8 4 M4)))) : Rs)) fun jn5 =>
    (if a1 = 0 then
      (jn5 1 M2)
    else
      (jn5 0 M2))))

set_option maxHeartbeats 4000000 in
set_option maxRecDepth 100000 in
theorem c_X12_set (l : Launch) (w : W0) (N : Nat) (a1 : Int32) (a2 : Int32) (M : Mm) : Ct l KM w 1 yX12_set cX12_set 4 (some .int) [rf w 0, .int a1, .int a2] M (f_X12_set N a1 a2 M) := by
  refine ct_of [rf w 0, .int a1, .int a2, .null] (by decide) (Nat.le_of_ble_eq_true rfl) rfl (fun Z e1 e2 e3 g => ?_)
  have g : Good KM w Z cX12_set RX12 1 := g
  unfold f_X12_set
  have n3 : 3 < Z.2.2.1 := by rw [e2]; decide
  refine r_iload_n (pc' := 1) g dX12_set_0 rfl rfl ?_
  refine r_i2l (pc' := 2) g dX12_set_1 rfl ?_
  refine r_lconst (pc' := 3) (v := 0) g dX12_set_2 rfl rfl ?_
  refine r_ldc2 (pc' := 6) g dX12_set_3 rfl kc_X12_145 ?_
  refine r_callSi (pc' := 9) (As := [.long a1.toInt64, .long 0, .long 2]) (rest := []) g dX12_set_6 rfl ml_X12_109 mw_X12_isIn ms_X12_isIn (Nat.le_of_ble_eq_true rfl) (c_X12_isIn _ w N a1.toInt64 0 2 M) rfl rfl (Nat.le_of_ble_eq_true rfl) (fun r1 M2 => ?_)
  refine r_ifne (pc' := 12) (tgt := 19) g dX12_set_9 rfl rfl ?_ ?_
  · skip
    refine r_iload_n (pc' := 20) g dX12_set_19 rfl rfl ?_
    refine r_i2l (pc' := 21) g dX12_set_20 rfl ?_
    refine r_iload_n (pc' := 22) g dX12_set_21 rfl rfl ?_
    refine r_jn (pj := 30) (Lj := fun (s3 : Int64) => [rf w 0, .int a1, .int a2, .null]) (stj := fun (s3 : Int64) => [.long s3, .long a2.toInt64]) (fun s3 M4 => ?_) (fun jn5 hjn5 => ?_)
    · skip
      refine r_iload_n (pc' := 31) g dX12_set_30 rfl rfl ?_
      refine r_jn (pj := 54) (Lj := fun (s6 : Int64) => [rf w 0, .int a1, .int a2, .null]) (stj := fun (s6 : Int64) => [.long s6, .long s3, .long a2.toInt64]) (fun s6 M7 => ?_) (fun jn8 hjn8 => ?_)
      · skip
        refine r_callSi (pc' := 57) (As := [.long a2.toInt64, .long s3, .long s6]) (rest := []) g dX12_set_54 rfl ml_X12_137 mw_X12_outOf ms_X12_outOf (Nat.le_of_ble_eq_true rfl) (c_X12_outOf _ w N a2.toInt64 s3 s6 M7) rfl rfl (Nat.le_of_ble_eq_true rfl) (fun r9 M10 => ?_)
        refine r_istore_n (pc' := 58) (L' := [rf w 0, .int a1, .int a2, .int r9]) g dX12_set_57 rfl n3 rfl rfl ?_
        refine r_iload_n (pc' := 59) g dX12_set_58 rfl rfl ?_
        refine r_ifeq (pc' := 62) (tgt := 70) g dX12_set_59 rfl rfl ?_ ?_
        · skip
          refine r_aload_n (pc' := 71) g dX12_set_70 rfl rfl ?_
          refine r_bipush (pc' := 73) (v := 40) g dX12_set_71 rfl rfl ?_
          refine r_iload_n (pc' := 74) g dX12_set_73 rfl rfl ?_
          refine r_iadd (pc' := 75) g dX12_set_74 rfl ?_
          refine r_iload_n (pc' := 76) g dX12_set_75 rfl rfl ?_
          refine r_callVi (pc' := 79) (As := [.int (40 + a1), .int a2]) (rest := []) g dX12_set_76 rfl ml_X12_141 mw_X12_becomes mv_X12_becomes (Nat.le_of_ble_eq_true rfl) (c_X12_becomes _ w N (40 + a1) a2 M10) rfl lM_0 (eM_0 w _ _) rfl rfl (Nat.le_of_ble_eq_true rfl) (fun r11 M12 => ?_)
          exact r_iret g e3 dX12_set_79
        · skip
          refine r_aload_n (pc' := 63) g dX12_set_62 rfl rfl ?_
          refine r_iload_n (pc' := 64) g dX12_set_63 rfl rfl ?_
          refine r_callVi (pc' := 67) (As := [.int r9]) (rest := []) g dX12_set_64 rfl ml_X12_113 mw_X12_no mv_X12_no (Nat.le_of_ble_eq_true rfl) (c_X12_no _ w N r9 M10) rfl lM_0 (eM_0 w _ _) rfl rfl (Nat.le_of_ble_eq_true rfl) (fun r13 M14 => ?_)
          refine r_goto (tgt := 79) g dX12_set_67 rfl ?_
          exact r_iret g e3 dX12_set_79
      refine r_ifne (pc' := 34) (tgt := 40) g dX12_set_31 rfl rfl ?_ ?_
      · skip
        refine r_iload_n (pc' := 41) g dX12_set_40 rfl rfl ?_
        refine r_iconst (pc' := 42) (v := 1) g dX12_set_41 rfl rfl ?_
        refine r_cne (pc' := 45) (tgt := 51) g dX12_set_42 rfl rfl ?_ ?_
        · skip
          refine r_ldc2 (pc' := 54) g dX12_set_51 rfl kc_X12_149 ?_
          exact r_weak (Ls2 (Ls2 (Ls2 (Ls1 Ls0)))) (hjn8 4 M4)
        · skip
          refine r_ldc2 (pc' := 48) g dX12_set_45 rfl kc_X12_131 ?_
          refine r_goto (tgt := 54) g dX12_set_48 rfl ?_
          exact r_weak (Ls2 (Ls2 (Ls2 (Ls1 Ls0)))) (hjn8 999 M4)
      · skip
        refine r_ldc2 (pc' := 37) g dX12_set_34 rfl kc_X12_147 ?_
        refine r_goto (tgt := 54) g dX12_set_37 rfl ?_
        exact r_weak (Ls2 (Ls2 (Ls2 (Ls1 Ls0)))) (hjn8 50 M4)
    refine r_ifne (pc' := 25) (tgt := 29) g dX12_set_22 rfl rfl ?_ ?_
    · skip
      refine r_lconst (pc' := 30) (v := 0) g dX12_set_29 rfl rfl ?_
      exact r_weak (Ls2 (Ls2 (Ls2 (Ls1 Ls0)))) (hjn5 0 M2)
    · skip
      refine r_lconst (pc' := 26) (v := 1) g dX12_set_25 rfl rfl ?_
      refine r_goto (tgt := 30) g dX12_set_26 rfl ?_
      exact r_weak (Ls2 (Ls2 (Ls2 (Ls1 Ls0)))) (hjn5 1 M2)
  · skip
    refine r_aload_n (pc' := 13) g dX12_set_12 rfl rfl ?_
    refine r_bipush (pc' := 15) (v := -2) g dX12_set_13 rfl rfl ?_
    refine r_callVi (pc' := 18) (As := [.int (-2)]) (rest := []) g dX12_set_15 rfl ml_X12_113 mw_X12_no mv_X12_no (Nat.le_of_ble_eq_true rfl) (c_X12_no _ w N (-2) M2) rfl lM_0 (eM_0 w _ _) rfl rfl (Nat.le_of_ble_eq_true rfl) (fun r15 M16 => ?_)
    exact r_iret g e3 dX12_set_18
def f_X12_undo (N : Nat) (M : Mm) : Rs :=
  if (M.1 0 5) = 0 then
    (bd (f_X12_no N (-3) M) fun r4 M5 =>
    (some (r4, M5)))
  else
    (lt' (wI M 0 5 ((M.1 0 5) - 1)) fun M1 =>
    (if inb (M1.1 0 5) 40 then
    (if inb (M1.1 0 5) 40 then
    (if inb (M1.1 3 (ix (M1.1 0 5))) 47 then
    (lt' (wI M1 2 (ix (M1.1 3 (ix (M1.1 0 5)))) (M1.1 4 (ix (M1.1 0 5)))) fun M2 =>
    (lt' (wI M2 0 2 0) fun M3 =>
    (some (1, M3)))) else none) else none) else none))

set_option maxHeartbeats 4000000 in
set_option maxRecDepth 100000 in
theorem c_X12_undo (l : Launch) (w : W0) (N : Nat) (M : Mm) : Ct l KM w 1 yX12_undo cX12_undo 1 (some .int) [rf w 0] M (f_X12_undo N M) := by
  refine ct_of [rf w 0] (by decide) (Nat.le_of_ble_eq_true rfl) rfl (fun Z e1 e2 e3 g => ?_)
  have g : Good KM w Z cX12_undo RX12 1 := g
  unfold f_X12_undo
  refine r_aload_n (pc' := 1) g dX12_undo_0 rfl rfl ?_
  refine r_get (pc' := 4) g dX12_undo_1 rfl fl_X12_125 lM_0 (eM_0 w _ _) rfl ?_
  refine r_ifne (pc' := 7) (tgt := 14) g dX12_undo_4 rfl rfl ?_ ?_
  · skip
    refine r_aload_n (pc' := 15) g dX12_undo_14 rfl rfl ?_
    refine r_dupa (pc' := 16) g dX12_undo_15 rfl ?_
    refine r_get (pc' := 19) g dX12_undo_16 rfl fl_X12_125 lM_0 (eM_0 w _ _) rfl ?_
    refine r_iconst (pc' := 20) (v := 1) g dX12_undo_19 rfl rfl ?_
    refine r_isub (pc' := 21) g dX12_undo_20 rfl ?_
    refine r_put (pc' := 24) g dX12_undo_21 rfl fl_X12_125 rfl lM_0 (eM_0 w _ _) (Nat.le_of_ble_eq_true rfl) (sM_0_5 w _ _ _) ?_
    refine r_ltM (fun M1 => ?_)
    refine r_aload_n (pc' := 25) g dX12_undo_24 rfl rfl ?_
    refine r_get (pc' := 28) g dX12_undo_25 rfl fl_X12_13 lM_0 (eM_0 w _ _) rfl ?_
    refine r_aload_n (pc' := 29) g dX12_undo_28 rfl rfl ?_
    refine r_get (pc' := 32) g dX12_undo_29 rfl fl_X12_16 lM_0 (eM_0 w _ _) rfl ?_
    refine r_aload_n (pc' := 33) g dX12_undo_32 rfl rfl ?_
    refine r_get (pc' := 36) g dX12_undo_33 rfl fl_X12_125 lM_0 (eM_0 w _ _) rfl ?_
    refine r_iald (pc' := 37) g dX12_undo_36 rfl lM_3 (eM_3 w _ _) ?_
    refine r_aload_n (pc' := 38) g dX12_undo_37 rfl rfl ?_
    refine r_get (pc' := 41) g dX12_undo_38 rfl fl_X12_19 lM_0 (eM_0 w _ _) rfl ?_
    refine r_aload_n (pc' := 42) g dX12_undo_41 rfl rfl ?_
    refine r_get (pc' := 45) g dX12_undo_42 rfl fl_X12_125 lM_0 (eM_0 w _ _) rfl ?_
    refine r_iald (pc' := 46) g dX12_undo_45 rfl lM_4 (eM_4 w _ _) ?_
    refine r_iast (pc' := 47) g dX12_undo_46 rfl lM_2 (fun m => eM_2 w m _) ?_
    refine r_ltM (fun M2 => ?_)
    refine r_aload_n (pc' := 48) g dX12_undo_47 rfl rfl ?_
    refine r_iconst (pc' := 49) (v := 0) g dX12_undo_48 rfl rfl ?_
    refine r_putz (pc' := 52) g dX12_undo_49 rfl fl_X12_121 rfl rfl lM_0 (eM_0 w _ _) (Nat.le_of_ble_eq_true rfl) (sM_0_2 w _ _ _) ?_
    refine r_ltM (fun M3 => ?_)
    refine r_iconst (pc' := 53) (v := 1) g dX12_undo_52 rfl rfl ?_
    exact r_iret g e3 dX12_undo_53
  · skip
    refine r_aload_n (pc' := 8) g dX12_undo_7 rfl rfl ?_
    refine r_bipush (pc' := 10) (v := -3) g dX12_undo_8 rfl rfl ?_
    refine r_callVi (pc' := 13) (As := [.int (-3)]) (rest := []) g dX12_undo_10 rfl ml_X12_113 mw_X12_no mv_X12_no (Nat.le_of_ble_eq_true rfl) (c_X12_no _ w N (-3) M) rfl lM_0 (eM_0 w _ _) rfl rfl (Nat.le_of_ble_eq_true rfl) (fun r4 M5 => ?_)
    exact r_iret g e3 dX12_undo_13
def B_X12_feed_46 (N : Nat) (p1 : Int32) (p2 : Int64) (G : Unit → Mm → Rs) (rec : Int32 → Mm → Rs) (s : Int32) (M : Mm) : Rs :=
  if s < p1 then
      (if inb (M.1 0 14) 40 then
      (lt' (wI M 5 (ix (M.1 0 14)) (((lshr p2 (8 * s)) &&& 255).toInt32)) fun M6 =>
      (lt' (wI M6 0 14 ((M6.1 0 14) + 1)) fun M7 =>
      (rec (s + 1) M7))) else none)
    else
      (G () M)

def f_X12_feed (N : Nat) (a1 : Int32) (b2 : Int64) (M : Mm) : Rs :=
  bd (f_X12_outOf N a1.toInt64 1 8 M) fun r1 M2 =>
  (lt' (fun (s3 : Int32) (M4 : Mm) =>
    ((if s3 = 0 then
      (itr (B_X12_feed_46 N a1 b2 fun z8 M9 =>
      (some (M9.1 0 14, M9))) N 0 M4)
    else
      (bd (f_X12_no N s3 M4) fun r10 M11 =>
      (some (r10, M11)))) : Rs)) fun jn5 =>
  (if r1 = 0 then
    (if 40 < ((M2.1 0 14) + a1) then
      (jn5 (-6) M2)
    else
      (jn5 r1 M2))
  else
    (jn5 r1 M2)))

set_option maxHeartbeats 4000000 in
set_option maxRecDepth 100000 in
theorem s_X12_feed_46 {w : W0} {Z : Zx} (g : Good KM w Z cX12_feed RX12 1) (e2 : Z.2.2.1 = 6) (e3 : Z.2.2.2 = (some .int)) (N : Nat) (p1 : Int32) (p2 : Int64) (G : Unit → Mm → Rs) (kG : ∀ (x : Unit) (M : Mm), Sim KM w Z 89 [rf w 0, .null, .null, .null, .null, .null] [] M (G x M)) : ∀ (n : Nat) (s : Int32) (M : Mm), Sim KM w Z 46 [rf w 0, .int p1, .long p2, .null, .null, .int s] [] M (itr (B_X12_feed_46 N p1 p2 G) n s M) := by
  have n5 : 5 < Z.2.2.1 := by rw [e2]; decide
  refine r_itr (Lf := fun (s : Int32) => [rf w 0, .int p1, .long p2, .null, .null, .int s]) (fun rec hr s M => ?_)
  unfold B_X12_feed_46
  refine r_iload (pc' := 48) g dX12_feed_46 rfl rfl ?_
  refine r_iload_n (pc' := 49) g dX12_feed_48 rfl rfl ?_
  refine r_cge (pc' := 52) (tgt := 89) g dX12_feed_49 rfl rfl ?_ ?_
  · skip
    exact r_weak (Ls2 (Ls1 (Ls1 (Ls1 (Ls1 (Ls1 Ls0)))))) (kG () M)
  · skip
    refine r_aload_n (pc' := 53) g dX12_feed_52 rfl rfl ?_
    refine r_get (pc' := 56) g dX12_feed_53 rfl fl_X12_22 lM_0 (eM_0 w _ _) rfl ?_
    refine r_aload_n (pc' := 57) g dX12_feed_56 rfl rfl ?_
    refine r_get (pc' := 60) g dX12_feed_57 rfl fl_X12_160 lM_0 (eM_0 w _ _) rfl ?_
    refine r_lload_n (pc' := 61) g dX12_feed_60 rfl rfl ?_
    refine r_bipush (pc' := 63) (v := 8) g dX12_feed_61 rfl rfl ?_
    refine r_iload (pc' := 65) g dX12_feed_63 rfl rfl ?_
    refine r_imul (pc' := 66) g dX12_feed_65 rfl ?_
    refine r_lshr (pc' := 67) g dX12_feed_66 rfl ?_
    refine r_ldc2 (pc' := 70) g dX12_feed_67 rfl kc_X12_153 ?_
    refine r_land (pc' := 71) g dX12_feed_70 rfl ?_
    refine r_l2i (pc' := 72) g dX12_feed_71 rfl ?_
    refine r_iast (pc' := 73) g dX12_feed_72 rfl lM_5 (fun m => eM_5 w m _) ?_
    refine r_ltM (fun M6 => ?_)
    refine r_aload_n (pc' := 74) g dX12_feed_73 rfl rfl ?_
    refine r_dupa (pc' := 75) g dX12_feed_74 rfl ?_
    refine r_get (pc' := 78) g dX12_feed_75 rfl fl_X12_160 lM_0 (eM_0 w _ _) rfl ?_
    refine r_iconst (pc' := 79) (v := 1) g dX12_feed_78 rfl rfl ?_
    refine r_iadd (pc' := 80) g dX12_feed_79 rfl ?_
    refine r_put (pc' := 83) g dX12_feed_80 rfl fl_X12_160 rfl lM_0 (eM_0 w _ _) (Nat.le_of_ble_eq_true rfl) (sM_0_14 w _ _ _) ?_
    refine r_ltM (fun M7 => ?_)
    refine r_iinc (pc' := 86) (b := 1) (L' := [rf w 0, .int p1, .long p2, .null, .null, .int (s + 1)]) g dX12_feed_83 rfl rfl rfl n5 rfl rfl ?_
    refine r_goto (tgt := 46) g dX12_feed_86 rfl ?_
    exact r_weak (Ls2 (Ls2 (Ls2 (Ls1 (Ls1 (Ls2 Ls0)))))) (hr (s + 1) M7)
set_option maxHeartbeats 4000000 in
set_option maxRecDepth 100000 in
theorem c_X12_feed (l : Launch) (w : W0) (N : Nat) (a1 : Int32) (b2 : Int64) (M : Mm) : Ct l KM w 1 yX12_feed cX12_feed 6 (some .int) [rf w 0, .int a1, .long b2] M (f_X12_feed N a1 b2 M) := by
  refine ct_of [rf w 0, .int a1, .long b2, .null, .null, .null] (by decide) (Nat.le_of_ble_eq_true rfl) rfl (fun Z e1 e2 e3 g => ?_)
  have g : Good KM w Z cX12_feed RX12 1 := g
  unfold f_X12_feed
  have n4 : 4 < Z.2.2.1 := by rw [e2]; decide
  have n5 : 5 < Z.2.2.1 := by rw [e2]; decide
  refine r_iload_n (pc' := 1) g dX12_feed_0 rfl rfl ?_
  refine r_i2l (pc' := 2) g dX12_feed_1 rfl ?_
  refine r_lconst (pc' := 3) (v := 1) g dX12_feed_2 rfl rfl ?_
  refine r_ldc2 (pc' := 6) g dX12_feed_3 rfl kc_X12_158 ?_
  refine r_callSi (pc' := 9) (As := [.long a1.toInt64, .long 1, .long 8]) (rest := []) g dX12_feed_6 rfl ml_X12_137 mw_X12_outOf ms_X12_outOf (Nat.le_of_ble_eq_true rfl) (c_X12_outOf _ w N a1.toInt64 1 8 M) rfl rfl (Nat.le_of_ble_eq_true rfl) (fun r1 M2 => ?_)
  refine r_istore (pc' := 11) (L' := [rf w 0, .int a1, .long b2, .null, .int r1, .null]) g dX12_feed_9 rfl n4 rfl rfl ?_
  refine r_iload (pc' := 13) g dX12_feed_11 rfl rfl ?_
  refine r_jn (pj := 31) (Lj := fun (s3 : Int32) => [rf w 0, .int a1, .long b2, .null, .int s3, .null]) (stj := fun (s3 : Int32) => []) (fun s3 M4 => ?_) (fun jn5 hjn5 => ?_)
  · skip
    refine r_iload (pc' := 33) g dX12_feed_31 rfl rfl ?_
    refine r_ifeq (pc' := 36) (tgt := 43) g dX12_feed_33 rfl rfl ?_ ?_
    · skip
      refine r_iconst (pc' := 44) (v := 0) g dX12_feed_43 rfl rfl ?_
      refine r_istore (pc' := 46) (L' := [rf w 0, .int a1, .long b2, .null, .int s3, .int 0]) g dX12_feed_44 rfl n5 rfl rfl ?_
      refine r_weak (Ls2 (Ls2 (Ls2 (Ls1 (Ls1 (Ls2 Ls0)))))) (s_X12_feed_46 g e2 e3 N a1 b2 _ (fun z8 M9 => ?_) N 0 M4)
      refine r_aload_n (pc' := 90) g dX12_feed_89 rfl rfl ?_
      refine r_get (pc' := 93) g dX12_feed_90 rfl fl_X12_160 lM_0 (eM_0 w _ _) rfl ?_
      exact r_iret g e3 dX12_feed_93
    · skip
      refine r_aload_n (pc' := 37) g dX12_feed_36 rfl rfl ?_
      refine r_iload (pc' := 39) g dX12_feed_37 rfl rfl ?_
      refine r_callVi (pc' := 42) (As := [.int s3]) (rest := []) g dX12_feed_39 rfl ml_X12_113 mw_X12_no mv_X12_no (Nat.le_of_ble_eq_true rfl) (c_X12_no _ w N s3 M4) rfl lM_0 (eM_0 w _ _) rfl rfl (Nat.le_of_ble_eq_true rfl) (fun r10 M11 => ?_)
      exact r_iret g e3 dX12_feed_42
  refine r_ifne (pc' := 16) (tgt := 31) g dX12_feed_13 rfl rfl ?_ ?_
  · skip
    exact r_weak (Ls2 (Ls2 (Ls2 (Ls1 (Ls2 (Ls1 Ls0)))))) (hjn5 r1 M2)
  · skip
    refine r_aload_n (pc' := 17) g dX12_feed_16 rfl rfl ?_
    refine r_get (pc' := 20) g dX12_feed_17 rfl fl_X12_160 lM_0 (eM_0 w _ _) rfl ?_
    refine r_iload_n (pc' := 21) g dX12_feed_20 rfl rfl ?_
    refine r_iadd (pc' := 22) g dX12_feed_21 rfl ?_
    refine r_bipush (pc' := 24) (v := 40) g dX12_feed_22 rfl rfl ?_
    refine r_cle (pc' := 27) (tgt := 31) g dX12_feed_24 rfl rfl ?_ ?_
    · skip
      exact r_weak (Ls2 (Ls2 (Ls2 (Ls1 (Ls2 (Ls1 Ls0)))))) (hjn5 r1 M2)
    · skip
      refine r_bipush (pc' := 29) (v := -6) g dX12_feed_27 rfl rfl ?_
      refine r_istore (pc' := 31) (L' := [rf w 0, .int a1, .long b2, .null, .int (-6), .null]) g dX12_feed_29 rfl n4 rfl rfl ?_
      exact r_weak (Ls2 (Ls2 (Ls2 (Ls1 (Ls2 (Ls1 Ls0)))))) (hjn5 (-6) M2)
def f_X12_sign (N : Nat) (M : Mm) : Rs :=
  if (M.1 0 16) < (M.1 0 14) then
    (if inb (M.1 0 16) 40 then
    (some (M.1 5 (ix (M.1 0 16)), M)) else none)
  else
    (some ((-1), M))

set_option maxHeartbeats 4000000 in
set_option maxRecDepth 100000 in
theorem c_X12_sign (l : Launch) (w : W0) (N : Nat) (M : Mm) : Ct l KM w 0 yX12_sign cX12_sign 1 (some .int) [rf w 0] M (f_X12_sign N M) := by
  refine ct_of [rf w 0] (by decide) (Nat.le_of_ble_eq_true rfl) rfl (fun Z e1 e2 e3 g => ?_)
  have g : Good KM w Z cX12_sign RX12 0 := g
  unfold f_X12_sign
  refine r_aload_n (pc' := 1) g dX12_sign_0 rfl rfl ?_
  refine r_get (pc' := 4) g dX12_sign_1 rfl fl_X12_163 lM_0 (eM_0 w _ _) rfl ?_
  refine r_aload_n (pc' := 5) g dX12_sign_4 rfl rfl ?_
  refine r_get (pc' := 8) g dX12_sign_5 rfl fl_X12_160 lM_0 (eM_0 w _ _) rfl ?_
  refine r_cge (pc' := 11) (tgt := 23) g dX12_sign_8 rfl rfl ?_ ?_
  · skip
    refine r_iconst (pc' := 24) (v := -1) g dX12_sign_23 rfl rfl ?_
    exact r_iret g e3 dX12_sign_24
  · skip
    refine r_aload_n (pc' := 12) g dX12_sign_11 rfl rfl ?_
    refine r_get (pc' := 15) g dX12_sign_12 rfl fl_X12_22 lM_0 (eM_0 w _ _) rfl ?_
    refine r_aload_n (pc' := 16) g dX12_sign_15 rfl rfl ?_
    refine r_get (pc' := 19) g dX12_sign_16 rfl fl_X12_163 lM_0 (eM_0 w _ _) rfl ?_
    refine r_iald (pc' := 20) g dX12_sign_19 rfl lM_5 (eM_5 w _ _) ?_
    refine r_goto (tgt := 24) g dX12_sign_20 rfl ?_
    exact r_iret g e3 dX12_sign_24
def f_X12_isDigit (N : Nat) (a0 : Int32) (M : Mm) : Rs :=
  if a0 < 48 then
    (some (0, M))
  else
    (if 57 < a0 then
      (some (0, M))
    else
      (some (1, M)))

set_option maxHeartbeats 4000000 in
set_option maxRecDepth 100000 in
theorem c_X12_isDigit (l : Launch) (w : W0) (N : Nat) (a0 : Int32) (M : Mm) : Ct l KM w 0 yX12_isDigit cX12_isDigit 1 (some .boolean) [.int a0] M (f_X12_isDigit N a0 M) := by
  refine ct_of [.int a0] (by decide) (Nat.le_of_ble_eq_true rfl) rfl (fun Z e1 e2 e3 g => ?_)
  have g : Good KM w Z cX12_isDigit RX12 0 := g
  unfold f_X12_isDigit
  refine r_iload_n (pc' := 1) g dX12_isDigit_0 rfl rfl ?_
  refine r_bipush (pc' := 3) (v := 48) g dX12_isDigit_1 rfl rfl ?_
  refine r_clt (pc' := 6) (tgt := 16) g dX12_isDigit_3 rfl rfl ?_ ?_
  · skip
    refine r_iconst (pc' := 17) (v := 0) g dX12_isDigit_16 rfl rfl ?_
    exact r_zretc g e3 rfl dX12_isDigit_17
  · skip
    refine r_iload_n (pc' := 7) g dX12_isDigit_6 rfl rfl ?_
    refine r_bipush (pc' := 9) (v := 57) g dX12_isDigit_7 rfl rfl ?_
    refine r_cgt (pc' := 12) (tgt := 16) g dX12_isDigit_9 rfl rfl ?_ ?_
    · skip
      refine r_iconst (pc' := 17) (v := 0) g dX12_isDigit_16 rfl rfl ?_
      exact r_zretc g e3 rfl dX12_isDigit_17
    · skip
      refine r_iconst (pc' := 13) (v := 1) g dX12_isDigit_12 rfl rfl ?_
      refine r_goto (tgt := 17) g dX12_isDigit_13 rfl ?_
      exact r_zretc g e3 rfl dX12_isDigit_17
def f_X12_digit (N : Nat) (M : Mm) : Rs :=
  bd (f_X12_sign N  M) fun r1 M2 =>
  (bd (f_X12_isDigit N r1 M2) fun r3 M4 =>
  (if r3 = 0 then
    (some (0, M4))
  else
    (lt' (wI M4 0 16 ((M4.1 0 16) + 1)) fun M5 =>
    (some (1, M5)))))

set_option maxHeartbeats 4000000 in
set_option maxRecDepth 100000 in
theorem c_X12_digit (l : Launch) (w : W0) (N : Nat) (M : Mm) : Ct l KM w 1 yX12_digit cX12_digit 1 (some .boolean) [rf w 0] M (f_X12_digit N M) := by
  refine ct_of [rf w 0] (by decide) (Nat.le_of_ble_eq_true rfl) rfl (fun Z e1 e2 e3 g => ?_)
  have g : Good KM w Z cX12_digit RX12 1 := g
  unfold f_X12_digit
  refine r_aload_n (pc' := 1) g dX12_digit_0 rfl rfl ?_
  refine r_callVi (pc' := 4) (As := []) (rest := []) g dX12_digit_1 rfl ml_X12_166 mw_X12_sign mv_X12_sign (Nat.le_of_ble_eq_true rfl) (c_X12_sign _ w N  M) rfl lM_0 (eM_0 w _ _) rfl rfl (Nat.le_of_ble_eq_true rfl) (fun r1 M2 => ?_)
  refine r_callSi (pc' := 7) (As := [.int r1]) (rest := []) g dX12_digit_4 rfl ml_X12_170 mw_X12_isDigit ms_X12_isDigit (Nat.le_of_ble_eq_true rfl) (c_X12_isDigit _ w N r1 M2) rfl rfl (Nat.le_of_ble_eq_true rfl) (fun r3 M4 => ?_)
  refine r_ifne (pc' := 10) (tgt := 12) g dX12_digit_7 rfl rfl ?_ ?_
  · skip
    refine r_aload_n (pc' := 13) g dX12_digit_12 rfl rfl ?_
    refine r_dupa (pc' := 14) g dX12_digit_13 rfl ?_
    refine r_get (pc' := 17) g dX12_digit_14 rfl fl_X12_163 lM_0 (eM_0 w _ _) rfl ?_
    refine r_iconst (pc' := 18) (v := 1) g dX12_digit_17 rfl rfl ?_
    refine r_iadd (pc' := 19) g dX12_digit_18 rfl ?_
    refine r_put (pc' := 22) g dX12_digit_19 rfl fl_X12_163 rfl lM_0 (eM_0 w _ _) (Nat.le_of_ble_eq_true rfl) (sM_0_16 w _ _ _) ?_
    refine r_ltM (fun M5 => ?_)
    refine r_iconst (pc' := 23) (v := 1) g dX12_digit_22 rfl rfl ?_
    exact r_zretc g e3 rfl dX12_digit_23
  · skip
    refine r_iconst (pc' := 11) (v := 0) g dX12_digit_10 rfl rfl ?_
    exact r_zretc g e3 rfl dX12_digit_11
def f_X12_part (N : Nat) (M : Mm) : Rs :=
  bd (f_X12_sign N  M) fun r1 M2 =>
  (lt' (fun (s3 : Unit) (M4 : Mm) =>
    ((lt' (wI M4 0 16 ((M4.1 0 16) + 1)) fun M6 =>
    (if r1 = 98 then
      (bd (f_X12_digit N  M6) fun r19 M20 =>
      (if bz r19 then some (r19, M20) else none))
    else
      (bd (f_X12_sign N  M6) fun r7 M8 =>
      (lt' (fun (s9 : Unit) (M10 : Mm) =>
        ((lt' (wI M10 0 16 ((M10.1 0 16) + 1)) fun M12 =>
        (bd (f_X12_digit N  M12) fun r13 M14 =>
        (if bz r13 then some (r13, M14) else none))) : Rs)) fun jn11 =>
      (if r7 = 60 then
        (jn11 () M8)
      else
        (bd (f_X12_sign N  M8) fun r15 M16 =>
        (if r15 = 61 then
          (jn11 () M16)
        else
          (bd (f_X12_sign N  M16) fun r17 M18 =>
          (if r17 = 62 then
            (jn11 () M18)
          else
            (some (0, M18))))))))))) : Rs)) fun jn5 =>
  (if r1 = 98 then
    (jn5 () M2)
  else
    (if r1 = 110 then
      (jn5 () M2)
    else
      (some (0, M2)))))

set_option maxHeartbeats 4000000 in
set_option maxRecDepth 100000 in
theorem c_X12_part (l : Launch) (w : W0) (N : Nat) (M : Mm) : Ct l KM w 2 yX12_part cX12_part 2 (some .boolean) [rf w 0] M (f_X12_part N M) := by
  refine ct_of [rf w 0, .null] (by decide) (Nat.le_of_ble_eq_true rfl) rfl (fun Z e1 e2 e3 g => ?_)
  have g : Good KM w Z cX12_part RX12 2 := g
  unfold f_X12_part
  have n1 : 1 < Z.2.2.1 := by rw [e2]; decide
  refine r_aload_n (pc' := 1) g dX12_part_0 rfl rfl ?_
  refine r_callVi (pc' := 4) (As := []) (rest := []) g dX12_part_1 rfl ml_X12_166 mw_X12_sign mv_X12_sign (Nat.le_of_ble_eq_true rfl) (c_X12_sign _ w N  M) rfl lM_0 (eM_0 w _ _) rfl rfl (Nat.le_of_ble_eq_true rfl) (fun r1 M2 => ?_)
  refine r_istore_n (pc' := 5) (L' := [rf w 0, .int r1]) g dX12_part_4 rfl n1 rfl rfl ?_
  refine r_iload_n (pc' := 6) g dX12_part_5 rfl rfl ?_
  refine r_bipush (pc' := 8) (v := 98) g dX12_part_6 rfl rfl ?_
  refine r_jn (pj := 19) (Lj := fun (s3 : Unit) => [rf w 0, .int r1]) (stj := fun (s3 : Unit) => []) (fun s3 M4 => ?_) (fun jn5 hjn5 => ?_)
  · skip
    refine r_aload_n (pc' := 20) g dX12_part_19 rfl rfl ?_
    refine r_dupa (pc' := 21) g dX12_part_20 rfl ?_
    refine r_get (pc' := 24) g dX12_part_21 rfl fl_X12_163 lM_0 (eM_0 w _ _) rfl ?_
    refine r_iconst (pc' := 25) (v := 1) g dX12_part_24 rfl rfl ?_
    refine r_iadd (pc' := 26) g dX12_part_25 rfl ?_
    refine r_put (pc' := 29) g dX12_part_26 rfl fl_X12_163 rfl lM_0 (eM_0 w _ _) (Nat.le_of_ble_eq_true rfl) (sM_0_16 w _ _ _) ?_
    refine r_ltM (fun M6 => ?_)
    refine r_iload_n (pc' := 30) g dX12_part_29 rfl rfl ?_
    refine r_bipush (pc' := 32) (v := 98) g dX12_part_30 rfl rfl ?_
    refine r_cne (pc' := 35) (tgt := 40) g dX12_part_32 rfl rfl ?_ ?_
    · skip
      refine r_aload_n (pc' := 41) g dX12_part_40 rfl rfl ?_
      refine r_callVi (pc' := 44) (As := []) (rest := []) g dX12_part_41 rfl ml_X12_166 mw_X12_sign mv_X12_sign (Nat.le_of_ble_eq_true rfl) (c_X12_sign _ w N  M6) rfl lM_0 (eM_0 w _ _) rfl rfl (Nat.le_of_ble_eq_true rfl) (fun r7 M8 => ?_)
      refine r_bipush (pc' := 46) (v := 60) g dX12_part_44 rfl rfl ?_
      refine r_jn (pj := 69) (Lj := fun (s9 : Unit) => [rf w 0, .null]) (stj := fun (s9 : Unit) => []) (fun s9 M10 => ?_) (fun jn11 hjn11 => ?_)
      · skip
        refine r_aload_n (pc' := 70) g dX12_part_69 rfl rfl ?_
        refine r_dupa (pc' := 71) g dX12_part_70 rfl ?_
        refine r_get (pc' := 74) g dX12_part_71 rfl fl_X12_163 lM_0 (eM_0 w _ _) rfl ?_
        refine r_iconst (pc' := 75) (v := 1) g dX12_part_74 rfl rfl ?_
        refine r_iadd (pc' := 76) g dX12_part_75 rfl ?_
        refine r_put (pc' := 79) g dX12_part_76 rfl fl_X12_163 rfl lM_0 (eM_0 w _ _) (Nat.le_of_ble_eq_true rfl) (sM_0_16 w _ _ _) ?_
        refine r_ltM (fun M12 => ?_)
        refine r_aload_n (pc' := 80) g dX12_part_79 rfl rfl ?_
        refine r_callVi (pc' := 83) (As := []) (rest := []) g dX12_part_80 rfl ml_X12_173 mw_X12_digit mv_X12_digit (Nat.le_of_ble_eq_true rfl) (c_X12_digit _ w N  M12) rfl lM_0 (eM_0 w _ _) rfl rfl (Nat.le_of_ble_eq_true rfl) (fun r13 M14 => ?_)
        exact r_zret g e3 dX12_part_83
      refine r_ceq (pc' := 49) (tgt := 69) g dX12_part_46 rfl rfl ?_ ?_
      · skip
        exact r_weak (Ls2 (Ls1 Ls0)) (hjn11 () M8)
      · skip
        refine r_aload_n (pc' := 50) g dX12_part_49 rfl rfl ?_
        refine r_callVi (pc' := 53) (As := []) (rest := []) g dX12_part_50 rfl ml_X12_166 mw_X12_sign mv_X12_sign (Nat.le_of_ble_eq_true rfl) (c_X12_sign _ w N  M8) rfl lM_0 (eM_0 w _ _) rfl rfl (Nat.le_of_ble_eq_true rfl) (fun r15 M16 => ?_)
        refine r_bipush (pc' := 55) (v := 61) g dX12_part_53 rfl rfl ?_
        refine r_ceq (pc' := 58) (tgt := 69) g dX12_part_55 rfl rfl ?_ ?_
        · skip
          exact r_weak (Ls2 (Ls1 Ls0)) (hjn11 () M16)
        · skip
          refine r_aload_n (pc' := 59) g dX12_part_58 rfl rfl ?_
          refine r_callVi (pc' := 62) (As := []) (rest := []) g dX12_part_59 rfl ml_X12_166 mw_X12_sign mv_X12_sign (Nat.le_of_ble_eq_true rfl) (c_X12_sign _ w N  M16) rfl lM_0 (eM_0 w _ _) rfl rfl (Nat.le_of_ble_eq_true rfl) (fun r17 M18 => ?_)
          refine r_bipush (pc' := 64) (v := 62) g dX12_part_62 rfl rfl ?_
          refine r_ceq (pc' := 67) (tgt := 69) g dX12_part_64 rfl rfl ?_ ?_
          · skip
            exact r_weak (Ls2 (Ls1 Ls0)) (hjn11 () M18)
          · skip
            refine r_iconst (pc' := 68) (v := 0) g dX12_part_67 rfl rfl ?_
            exact r_zretc g e3 rfl dX12_part_68
    · skip
      refine r_aload_n (pc' := 36) g dX12_part_35 rfl rfl ?_
      refine r_callVi (pc' := 39) (As := []) (rest := []) g dX12_part_36 rfl ml_X12_173 mw_X12_digit mv_X12_digit (Nat.le_of_ble_eq_true rfl) (c_X12_digit _ w N  M6) rfl lM_0 (eM_0 w _ _) rfl rfl (Nat.le_of_ble_eq_true rfl) (fun r19 M20 => ?_)
      exact r_zret g e3 dX12_part_39
  refine r_ceq (pc' := 11) (tgt := 19) g dX12_part_8 rfl rfl ?_ ?_
  · skip
    exact r_weak (Ls2 (Ls2 Ls0)) (hjn5 () M2)
  · skip
    refine r_iload_n (pc' := 12) g dX12_part_11 rfl rfl ?_
    refine r_bipush (pc' := 14) (v := 110) g dX12_part_12 rfl rfl ?_
    refine r_ceq (pc' := 17) (tgt := 19) g dX12_part_14 rfl rfl ?_ ?_
    · skip
      exact r_weak (Ls2 (Ls2 Ls0)) (hjn5 () M2)
    · skip
      refine r_iconst (pc' := 18) (v := 0) g dX12_part_17 rfl rfl ?_
      exact r_zretc g e3 rfl dX12_part_18
def B_X12_closes_0 (N : Nat) (G : Unit → Mm → Rs) (rec : Unit → Mm → Rs) (s : Unit) (M : Mm) : Rs :=
  if 0 < (M.1 0 17) then
      (if inb ((M.1 0 17) - 1) 8 then
      (if (M.1 10 (ix ((M.1 0 17) - 1))) = 1 then
        (lt' (wI M 0 17 ((M.1 0 17) - 1)) fun M1 =>
        (rec () M1))
      else
        (G () M)) else none)
    else
      (G () M)

def f_X12_closes (N : Nat) (M : Mm) : Rs :=
  itr (B_X12_closes_0 N fun z2 M3 =>
  (some (0, M3))) N () M

set_option maxHeartbeats 4000000 in
set_option maxRecDepth 100000 in
theorem s_X12_closes_0 {w : W0} {Z : Zx} (g : Good KM w Z cX12_closes RX12 0) (e2 : Z.2.2.1 = 1) (e3 : Z.2.2.2 = none) (N : Nat) (G : Unit → Mm → Rs) (kG : ∀ (x : Unit) (M : Mm), Sim KM w Z 35 [.null] [] M (G x M)) : ∀ (n : Nat) (s : Unit) (M : Mm), Sim KM w Z 0 [rf w 0] [] M (itr (B_X12_closes_0 N G) n s M) := by
  refine r_itr (Lf := fun (s : Unit) => [rf w 0]) (fun rec hr s M => ?_)
  unfold B_X12_closes_0
  refine r_aload_n (pc' := 1) g dX12_closes_0 rfl rfl ?_
  refine r_get (pc' := 4) g dX12_closes_1 rfl fl_X12_177 lM_0 (eM_0 w _ _) rfl ?_
  refine r_ifle (pc' := 7) (tgt := 35) g dX12_closes_4 rfl rfl ?_ ?_
  · skip
    exact r_weak (Ls1 Ls0) (kG () M)
  · skip
    refine r_aload_n (pc' := 8) g dX12_closes_7 rfl rfl ?_
    refine r_get (pc' := 11) g dX12_closes_8 rfl fl_X12_37 lM_0 (eM_0 w _ _) rfl ?_
    refine r_aload_n (pc' := 12) g dX12_closes_11 rfl rfl ?_
    refine r_get (pc' := 15) g dX12_closes_12 rfl fl_X12_177 lM_0 (eM_0 w _ _) rfl ?_
    refine r_iconst (pc' := 16) (v := 1) g dX12_closes_15 rfl rfl ?_
    refine r_isub (pc' := 17) g dX12_closes_16 rfl ?_
    refine r_iald (pc' := 18) g dX12_closes_17 rfl lM_10 (eM_10 w _ _) ?_
    refine r_iconst (pc' := 19) (v := 1) g dX12_closes_18 rfl rfl ?_
    refine r_cne (pc' := 22) (tgt := 35) g dX12_closes_19 rfl rfl ?_ ?_
    · skip
      exact r_weak (Ls1 Ls0) (kG () M)
    · skip
      refine r_aload_n (pc' := 23) g dX12_closes_22 rfl rfl ?_
      refine r_dupa (pc' := 24) g dX12_closes_23 rfl ?_
      refine r_get (pc' := 27) g dX12_closes_24 rfl fl_X12_177 lM_0 (eM_0 w _ _) rfl ?_
      refine r_iconst (pc' := 28) (v := 1) g dX12_closes_27 rfl rfl ?_
      refine r_isub (pc' := 29) g dX12_closes_28 rfl ?_
      refine r_put (pc' := 32) g dX12_closes_29 rfl fl_X12_177 rfl lM_0 (eM_0 w _ _) (Nat.le_of_ble_eq_true rfl) (sM_0_17 w _ _ _) ?_
      refine r_ltM (fun M1 => ?_)
      refine r_goto (tgt := 0) g dX12_closes_32 rfl ?_
      exact r_weak (Ls2 Ls0) (hr () M1)
set_option maxHeartbeats 4000000 in
set_option maxRecDepth 100000 in
theorem c_X12_closes (l : Launch) (w : W0) (N : Nat) (M : Mm) : Ct l KM w 0 yX12_closes cX12_closes 1 none [rf w 0] M (f_X12_closes N M) := by
  refine ct_of [rf w 0] (by decide) (Nat.le_of_ble_eq_true rfl) rfl (fun Z e1 e2 e3 g => ?_)
  have g : Good KM w Z cX12_closes RX12 0 := g
  unfold f_X12_closes
  refine r_weak (Ls2 Ls0) (s_X12_closes_0 g e2 e3 N _ (fun z2 M3 => ?_) N () M)
  exact r_vret g e3 dX12_closes_35
def B_X12_isLaw_97 (N : Nat) (G : Unit → Mm → Rs) (rec : Unit → Mm → Rs) (s : Unit) (M : Mm) : Rs :=
  bd (f_X12_sign N  M) fun r22 M23 =>
    (if r22 = 41 then
      (if 0 < (M23.1 0 17) then
        (lt' (wI M23 0 16 ((M23.1 0 16) + 1)) fun M24 =>
        (lt' (wI M24 0 17 ((M24.1 0 17) - 1)) fun M25 =>
        (bd (f_X12_closes N  M25) fun r26 M27 =>
        (rec () M27))))
      else
        (G () M23))
    else
      (G () M23))

def B_X12_isLaw_10 (N : Nat) (rec : Unit → Mm → Rs) (s : Unit) (M : Mm) : Rs :=
  bd (f_X12_sign N  M) fun r3 M4 =>
    (lt' (fun (s5 : Unit) (M6 : Mm) =>
      ((if (M6.1 0 17) = 4 then
        (some (0, M6))
      else
        (bd (f_X12_sign N  M6) fun r8 M9 =>
        (lt' (fun (s10 : Int32) (M11 : Mm) =>
          ((if inb (M6.1 0 17) 8 then
          (lt' (wI M11 10 (ix (M6.1 0 17)) s10) fun M13 =>
          (lt' (wI M13 0 17 ((M13.1 0 17) + 1)) fun M14 =>
          (lt' (wI M14 0 16 ((M14.1 0 16) + 1)) fun M15 =>
          (rec () M15)))) else none) : Rs)) fun jn12 =>
        (if r8 = 33 then
          (jn12 1 M9)
        else
          (jn12 2 M9))))) : Rs)) fun jn7 =>
    (if r3 = 33 then
      (jn7 () M4)
    else
      (bd (f_X12_sign N  M4) fun r16 M17 =>
      (if r16 = 40 then
        (jn7 () M17)
      else
        (bd (f_X12_part N  M17) fun r18 M19 =>
        (if r18 = 0 then
          (some (0, M19))
        else
          (bd (f_X12_closes N  M19) fun r20 M21 =>
          (itr (B_X12_isLaw_97 N fun z28 M29 =>
          (bd (f_X12_sign N  M29) fun r30 M31 =>
          (lt' (fun (s32 : Unit) (M33 : Mm) =>
            ((bd (f_X12_sign N  M33) fun r35 M36 =>
            (if r35 = 124 then
              (lt' (wI M36 0 16 ((M36.1 0 16) + 1)) fun M37 =>
              (rec () M37))
            else
              (bd (f_X12_sign N  M36) fun r38 M39 =>
              (if r38 = 38 then
                (lt' (wI M39 0 16 ((M39.1 0 16) + 1)) fun M40 =>
                (rec () M40))
              else
                (some (0, M39)))))) : Rs)) fun jn34 =>
          (if r30 = (-1) then
            (if (M31.1 0 17) = 0 then
              (some (1, M31))
            else
              (jn34 () M31))
          else
            (jn34 () M31))))) N () M21))))))))

def f_X12_isLaw (N : Nat) (M : Mm) : Rs :=
  lt' (wI M 0 16 0) fun M1 =>
  (lt' (wI M1 0 17 0) fun M2 =>
  (itr (B_X12_isLaw_10 N) N () M2))

set_option maxHeartbeats 4000000 in
set_option maxRecDepth 100000 in
theorem s_X12_isLaw_97 {w : W0} {Z : Zx} (g : Good KM w Z cX12_isLaw RX12 3) (e2 : Z.2.2.1 = 1) (e3 : Z.2.2.2 = (some .boolean)) (N : Nat) (G : Unit → Mm → Rs) (kG : ∀ (x : Unit) (M : Mm), Sim KM w Z 140 [rf w 0] [] M (G x M)) : ∀ (n : Nat) (s : Unit) (M : Mm), Sim KM w Z 97 [rf w 0] [] M (itr (B_X12_isLaw_97 N G) n s M) := by
  refine r_itr (Lf := fun (s : Unit) => [rf w 0]) (fun rec hr s M => ?_)
  unfold B_X12_isLaw_97
  refine r_aload_n (pc' := 98) g dX12_isLaw_97 rfl rfl ?_
  refine r_callVi (pc' := 101) (As := []) (rest := []) g dX12_isLaw_98 rfl ml_X12_166 mw_X12_sign mv_X12_sign (Nat.le_of_ble_eq_true rfl) (c_X12_sign _ w N  M) rfl lM_0 (eM_0 w _ _) rfl rfl (Nat.le_of_ble_eq_true rfl) (fun r22 M23 => ?_)
  refine r_bipush (pc' := 103) (v := 41) g dX12_isLaw_101 rfl rfl ?_
  refine r_cne (pc' := 106) (tgt := 140) g dX12_isLaw_103 rfl rfl ?_ ?_
  · skip
    exact r_weak (Ls2 Ls0) (kG () M23)
  · skip
    refine r_aload_n (pc' := 107) g dX12_isLaw_106 rfl rfl ?_
    refine r_get (pc' := 110) g dX12_isLaw_107 rfl fl_X12_177 lM_0 (eM_0 w _ _) rfl ?_
    refine r_ifle (pc' := 113) (tgt := 140) g dX12_isLaw_110 rfl rfl ?_ ?_
    · skip
      exact r_weak (Ls2 Ls0) (kG () M23)
    · skip
      refine r_aload_n (pc' := 114) g dX12_isLaw_113 rfl rfl ?_
      refine r_dupa (pc' := 115) g dX12_isLaw_114 rfl ?_
      refine r_get (pc' := 118) g dX12_isLaw_115 rfl fl_X12_163 lM_0 (eM_0 w _ _) rfl ?_
      refine r_iconst (pc' := 119) (v := 1) g dX12_isLaw_118 rfl rfl ?_
      refine r_iadd (pc' := 120) g dX12_isLaw_119 rfl ?_
      refine r_put (pc' := 123) g dX12_isLaw_120 rfl fl_X12_163 rfl lM_0 (eM_0 w _ _) (Nat.le_of_ble_eq_true rfl) (sM_0_16 w _ _ _) ?_
      refine r_ltM (fun M24 => ?_)
      refine r_aload_n (pc' := 124) g dX12_isLaw_123 rfl rfl ?_
      refine r_dupa (pc' := 125) g dX12_isLaw_124 rfl ?_
      refine r_get (pc' := 128) g dX12_isLaw_125 rfl fl_X12_177 lM_0 (eM_0 w _ _) rfl ?_
      refine r_iconst (pc' := 129) (v := 1) g dX12_isLaw_128 rfl rfl ?_
      refine r_isub (pc' := 130) g dX12_isLaw_129 rfl ?_
      refine r_put (pc' := 133) g dX12_isLaw_130 rfl fl_X12_177 rfl lM_0 (eM_0 w _ _) (Nat.le_of_ble_eq_true rfl) (sM_0_17 w _ _ _) ?_
      refine r_ltM (fun M25 => ?_)
      refine r_aload_n (pc' := 134) g dX12_isLaw_133 rfl rfl ?_
      refine r_callVv (pc' := 137) (As := []) (rest := []) g dX12_isLaw_134 rfl ml_X12_183 mw_X12_closes mv_X12_closes (Nat.le_of_ble_eq_true rfl) (c_X12_closes _ w N  M25) rfl lM_0 (eM_0 w _ _) rfl rfl (Nat.le_of_ble_eq_true rfl) (fun r26 M27 => ?_)
      refine r_goto (tgt := 97) g dX12_isLaw_137 rfl ?_
      exact r_weak (Ls2 Ls0) (hr () M27)
set_option maxHeartbeats 4000000 in
set_option maxRecDepth 100000 in
theorem s_X12_isLaw_10 {w : W0} {Z : Zx} (g : Good KM w Z cX12_isLaw RX12 3) (e2 : Z.2.2.1 = 1) (e3 : Z.2.2.2 = (some .boolean)) (N : Nat) : ∀ (n : Nat) (s : Unit) (M : Mm), Sim KM w Z 10 [rf w 0] [] M (itr (B_X12_isLaw_10 N) n s M) := by
  refine r_itr (Lf := fun (s : Unit) => [rf w 0]) (fun rec hr s M => ?_)
  unfold B_X12_isLaw_10
  refine r_aload_n (pc' := 11) g dX12_isLaw_10 rfl rfl ?_
  refine r_callVi (pc' := 14) (As := []) (rest := []) g dX12_isLaw_11 rfl ml_X12_166 mw_X12_sign mv_X12_sign (Nat.le_of_ble_eq_true rfl) (c_X12_sign _ w N  M) rfl lM_0 (eM_0 w _ _) rfl rfl (Nat.le_of_ble_eq_true rfl) (fun r3 M4 => ?_)
  refine r_bipush (pc' := 16) (v := 33) g dX12_isLaw_14 rfl rfl ?_
  refine r_jn (pj := 28) (Lj := fun (s5 : Unit) => [rf w 0]) (stj := fun (s5 : Unit) => []) (fun s5 M6 => ?_) (fun jn7 hjn7 => ?_)
  · skip
    refine r_aload_n (pc' := 29) g dX12_isLaw_28 rfl rfl ?_
    refine r_get (pc' := 32) g dX12_isLaw_29 rfl fl_X12_177 lM_0 (eM_0 w _ _) rfl ?_
    refine r_iconst (pc' := 33) (v := 4) g dX12_isLaw_32 rfl rfl ?_
    refine r_cne (pc' := 36) (tgt := 38) g dX12_isLaw_33 rfl rfl ?_ ?_
    · skip
      refine r_aload_n (pc' := 39) g dX12_isLaw_38 rfl rfl ?_
      refine r_get (pc' := 42) g dX12_isLaw_39 rfl fl_X12_37 lM_0 (eM_0 w _ _) rfl ?_
      refine r_aload_n (pc' := 43) g dX12_isLaw_42 rfl rfl ?_
      refine r_get (pc' := 46) g dX12_isLaw_43 rfl fl_X12_177 lM_0 (eM_0 w _ _) rfl ?_
      refine r_aload_n (pc' := 47) g dX12_isLaw_46 rfl rfl ?_
      refine r_callVi (pc' := 50) (As := []) (rest := [.int (M6.1 0 17), rf w 10]) g dX12_isLaw_47 rfl ml_X12_166 mw_X12_sign mv_X12_sign (Nat.le_of_ble_eq_true rfl) (c_X12_sign _ w N  M6) rfl lM_0 (eM_0 w _ _) rfl rfl (Nat.le_of_ble_eq_true rfl) (fun r8 M9 => ?_)
      refine r_bipush (pc' := 52) (v := 33) g dX12_isLaw_50 rfl rfl ?_
      refine r_jn (pj := 60) (Lj := fun (s10 : Int32) => [rf w 0]) (stj := fun (s10 : Int32) => [.int s10, .int (M6.1 0 17), rf w 10]) (fun s10 M11 => ?_) (fun jn12 hjn12 => ?_)
      · skip
        refine r_iast (pc' := 61) g dX12_isLaw_60 rfl lM_10 (fun m => eM_10 w m _) ?_
        refine r_ltM (fun M13 => ?_)
        refine r_aload_n (pc' := 62) g dX12_isLaw_61 rfl rfl ?_
        refine r_dupa (pc' := 63) g dX12_isLaw_62 rfl ?_
        refine r_get (pc' := 66) g dX12_isLaw_63 rfl fl_X12_177 lM_0 (eM_0 w _ _) rfl ?_
        refine r_iconst (pc' := 67) (v := 1) g dX12_isLaw_66 rfl rfl ?_
        refine r_iadd (pc' := 68) g dX12_isLaw_67 rfl ?_
        refine r_put (pc' := 71) g dX12_isLaw_68 rfl fl_X12_177 rfl lM_0 (eM_0 w _ _) (Nat.le_of_ble_eq_true rfl) (sM_0_17 w _ _ _) ?_
        refine r_ltM (fun M14 => ?_)
        refine r_aload_n (pc' := 72) g dX12_isLaw_71 rfl rfl ?_
        refine r_dupa (pc' := 73) g dX12_isLaw_72 rfl ?_
        refine r_get (pc' := 76) g dX12_isLaw_73 rfl fl_X12_163 lM_0 (eM_0 w _ _) rfl ?_
        refine r_iconst (pc' := 77) (v := 1) g dX12_isLaw_76 rfl rfl ?_
        refine r_iadd (pc' := 78) g dX12_isLaw_77 rfl ?_
        refine r_put (pc' := 81) g dX12_isLaw_78 rfl fl_X12_163 rfl lM_0 (eM_0 w _ _) (Nat.le_of_ble_eq_true rfl) (sM_0_16 w _ _ _) ?_
        refine r_ltM (fun M15 => ?_)
        refine r_goto (tgt := 10) g dX12_isLaw_81 rfl ?_
        exact r_weak (Ls2 Ls0) (hr () M15)
      refine r_cne (pc' := 55) (tgt := 59) g dX12_isLaw_52 rfl rfl ?_ ?_
      · skip
        refine r_iconst (pc' := 60) (v := 2) g dX12_isLaw_59 rfl rfl ?_
        exact r_weak (Ls2 Ls0) (hjn12 2 M9)
      · skip
        refine r_iconst (pc' := 56) (v := 1) g dX12_isLaw_55 rfl rfl ?_
        refine r_goto (tgt := 60) g dX12_isLaw_56 rfl ?_
        exact r_weak (Ls2 Ls0) (hjn12 1 M9)
    · skip
      refine r_iconst (pc' := 37) (v := 0) g dX12_isLaw_36 rfl rfl ?_
      exact r_zretc g e3 rfl dX12_isLaw_37
  refine r_ceq (pc' := 19) (tgt := 28) g dX12_isLaw_16 rfl rfl ?_ ?_
  · skip
    exact r_weak (Ls2 Ls0) (hjn7 () M4)
  · skip
    refine r_aload_n (pc' := 20) g dX12_isLaw_19 rfl rfl ?_
    refine r_callVi (pc' := 23) (As := []) (rest := []) g dX12_isLaw_20 rfl ml_X12_166 mw_X12_sign mv_X12_sign (Nat.le_of_ble_eq_true rfl) (c_X12_sign _ w N  M4) rfl lM_0 (eM_0 w _ _) rfl rfl (Nat.le_of_ble_eq_true rfl) (fun r16 M17 => ?_)
    refine r_bipush (pc' := 25) (v := 40) g dX12_isLaw_23 rfl rfl ?_
    refine r_cne (pc' := 28) (tgt := 84) g dX12_isLaw_25 rfl rfl ?_ ?_
    · skip
      refine r_aload_n (pc' := 85) g dX12_isLaw_84 rfl rfl ?_
      refine r_callVi (pc' := 88) (As := []) (rest := []) g dX12_isLaw_85 rfl ml_X12_180 mw_X12_part mv_X12_part (Nat.le_of_ble_eq_true rfl) (c_X12_part _ w N  M17) rfl lM_0 (eM_0 w _ _) rfl rfl (Nat.le_of_ble_eq_true rfl) (fun r18 M19 => ?_)
      refine r_ifne (pc' := 91) (tgt := 93) g dX12_isLaw_88 rfl rfl ?_ ?_
      · skip
        refine r_aload_n (pc' := 94) g dX12_isLaw_93 rfl rfl ?_
        refine r_callVv (pc' := 97) (As := []) (rest := []) g dX12_isLaw_94 rfl ml_X12_183 mw_X12_closes mv_X12_closes (Nat.le_of_ble_eq_true rfl) (c_X12_closes _ w N  M19) rfl lM_0 (eM_0 w _ _) rfl rfl (Nat.le_of_ble_eq_true rfl) (fun r20 M21 => ?_)
        refine r_weak (Ls2 Ls0) (s_X12_isLaw_97 g e2 e3 N _ (fun z28 M29 => ?_) N () M21)
        refine r_aload_n (pc' := 141) g dX12_isLaw_140 rfl rfl ?_
        refine r_callVi (pc' := 144) (As := []) (rest := []) g dX12_isLaw_141 rfl ml_X12_166 mw_X12_sign mv_X12_sign (Nat.le_of_ble_eq_true rfl) (c_X12_sign _ w N  M29) rfl lM_0 (eM_0 w _ _) rfl rfl (Nat.le_of_ble_eq_true rfl) (fun r30 M31 => ?_)
        refine r_iconst (pc' := 145) (v := -1) g dX12_isLaw_144 rfl rfl ?_
        refine r_jn (pj := 157) (Lj := fun (s32 : Unit) => [rf w 0]) (stj := fun (s32 : Unit) => []) (fun s32 M33 => ?_) (fun jn34 hjn34 => ?_)
        · skip
          refine r_aload_n (pc' := 158) g dX12_isLaw_157 rfl rfl ?_
          refine r_callVi (pc' := 161) (As := []) (rest := []) g dX12_isLaw_158 rfl ml_X12_166 mw_X12_sign mv_X12_sign (Nat.le_of_ble_eq_true rfl) (c_X12_sign _ w N  M33) rfl lM_0 (eM_0 w _ _) rfl rfl (Nat.le_of_ble_eq_true rfl) (fun r35 M36 => ?_)
          refine r_bipush (pc' := 163) (v := 124) g dX12_isLaw_161 rfl rfl ?_
          refine r_ceq (pc' := 166) (tgt := 177) g dX12_isLaw_163 rfl rfl ?_ ?_
          · skip
            refine r_aload_n (pc' := 178) g dX12_isLaw_177 rfl rfl ?_
            refine r_dupa (pc' := 179) g dX12_isLaw_178 rfl ?_
            refine r_get (pc' := 182) g dX12_isLaw_179 rfl fl_X12_163 lM_0 (eM_0 w _ _) rfl ?_
            refine r_iconst (pc' := 183) (v := 1) g dX12_isLaw_182 rfl rfl ?_
            refine r_iadd (pc' := 184) g dX12_isLaw_183 rfl ?_
            refine r_put (pc' := 187) g dX12_isLaw_184 rfl fl_X12_163 rfl lM_0 (eM_0 w _ _) (Nat.le_of_ble_eq_true rfl) (sM_0_16 w _ _ _) ?_
            refine r_ltM (fun M37 => ?_)
            refine r_goto (tgt := 10) g dX12_isLaw_187 rfl ?_
            exact r_weak (Ls2 Ls0) (hr () M37)
          · skip
            refine r_aload_n (pc' := 167) g dX12_isLaw_166 rfl rfl ?_
            refine r_callVi (pc' := 170) (As := []) (rest := []) g dX12_isLaw_167 rfl ml_X12_166 mw_X12_sign mv_X12_sign (Nat.le_of_ble_eq_true rfl) (c_X12_sign _ w N  M36) rfl lM_0 (eM_0 w _ _) rfl rfl (Nat.le_of_ble_eq_true rfl) (fun r38 M39 => ?_)
            refine r_bipush (pc' := 172) (v := 38) g dX12_isLaw_170 rfl rfl ?_
            refine r_ceq (pc' := 175) (tgt := 177) g dX12_isLaw_172 rfl rfl ?_ ?_
            · skip
              refine r_aload_n (pc' := 178) g dX12_isLaw_177 rfl rfl ?_
              refine r_dupa (pc' := 179) g dX12_isLaw_178 rfl ?_
              refine r_get (pc' := 182) g dX12_isLaw_179 rfl fl_X12_163 lM_0 (eM_0 w _ _) rfl ?_
              refine r_iconst (pc' := 183) (v := 1) g dX12_isLaw_182 rfl rfl ?_
              refine r_iadd (pc' := 184) g dX12_isLaw_183 rfl ?_
              refine r_put (pc' := 187) g dX12_isLaw_184 rfl fl_X12_163 rfl lM_0 (eM_0 w _ _) (Nat.le_of_ble_eq_true rfl) (sM_0_16 w _ _ _) ?_
              refine r_ltM (fun M40 => ?_)
              refine r_goto (tgt := 10) g dX12_isLaw_187 rfl ?_
              exact r_weak (Ls2 Ls0) (hr () M40)
            · skip
              refine r_iconst (pc' := 176) (v := 0) g dX12_isLaw_175 rfl rfl ?_
              exact r_zretc g e3 rfl dX12_isLaw_176
        refine r_cne (pc' := 148) (tgt := 157) g dX12_isLaw_145 rfl rfl ?_ ?_
        · skip
          exact r_weak (Ls2 Ls0) (hjn34 () M31)
        · skip
          refine r_aload_n (pc' := 149) g dX12_isLaw_148 rfl rfl ?_
          refine r_get (pc' := 152) g dX12_isLaw_149 rfl fl_X12_177 lM_0 (eM_0 w _ _) rfl ?_
          refine r_ifne (pc' := 155) (tgt := 157) g dX12_isLaw_152 rfl rfl ?_ ?_
          · skip
            exact r_weak (Ls2 Ls0) (hjn34 () M31)
          · skip
            refine r_iconst (pc' := 156) (v := 1) g dX12_isLaw_155 rfl rfl ?_
            exact r_zretc g e3 rfl dX12_isLaw_156
      · skip
        refine r_iconst (pc' := 92) (v := 0) g dX12_isLaw_91 rfl rfl ?_
        exact r_zretc g e3 rfl dX12_isLaw_92
    · skip
      exact r_weak (Ls2 Ls0) (hjn7 () M17)
set_option maxHeartbeats 4000000 in
set_option maxRecDepth 100000 in
theorem c_X12_isLaw (l : Launch) (w : W0) (N : Nat) (M : Mm) : Ct l KM w 3 yX12_isLaw cX12_isLaw 1 (some .boolean) [rf w 0] M (f_X12_isLaw N M) := by
  refine ct_of [rf w 0] (by decide) (Nat.le_of_ble_eq_true rfl) rfl (fun Z e1 e2 e3 g => ?_)
  have g : Good KM w Z cX12_isLaw RX12 3 := g
  unfold f_X12_isLaw
  refine r_aload_n (pc' := 1) g dX12_isLaw_0 rfl rfl ?_
  refine r_iconst (pc' := 2) (v := 0) g dX12_isLaw_1 rfl rfl ?_
  refine r_put (pc' := 5) g dX12_isLaw_2 rfl fl_X12_163 rfl lM_0 (eM_0 w _ _) (Nat.le_of_ble_eq_true rfl) (sM_0_16 w _ _ _) ?_
  refine r_ltM (fun M1 => ?_)
  refine r_aload_n (pc' := 6) g dX12_isLaw_5 rfl rfl ?_
  refine r_iconst (pc' := 7) (v := 0) g dX12_isLaw_6 rfl rfl ?_
  refine r_put (pc' := 10) g dX12_isLaw_7 rfl fl_X12_177 rfl lM_0 (eM_0 w _ _) (Nat.le_of_ble_eq_true rfl) (sM_0_17 w _ _ _) ?_
  refine r_ltM (fun M2 => ?_)
  exact r_weak (Ls2 Ls0) (s_X12_isLaw_10 g e2 e3 N N () M2)
def B_X12_law_45 (N : Nat) (p2 : Int32) (G : Unit → Mm → Rs) (rec : Int32 → Mm → Rs) (s : Int32) (M : Mm) : Rs :=
  if s < p2 then
      (if inb s 40 then
      (if inb ((40 * (M.1 0 15)) + s) 480 then
      (lt' (wI M 6 (ix ((40 * (M.1 0 15)) + s)) (M.1 5 (ix s))) fun M4 =>
      (rec (s + 1) M4)) else none) else none)
    else
      (G () M)

def f_X12_law (N : Nat) (M : Mm) : Rs :=
  if (M.1 0 15) = 12 then
    (bd (f_X12_no N (-6) M) fun r11 M12 =>
    (some (r11, M12)))
  else
    (bd (f_X12_isLaw N  M) fun r1 M2 =>
    (lt' (wI M2 0 14 0) fun M3 =>
    (if r1 = 0 then
      (some ((-20) - (M3.1 0 16), M3))
    else
      (itr (B_X12_law_45 N (M2.1 0 14) fun z5 M6 =>
      (if inb (M6.1 0 15) 12 then
      (lt' (wI M6 7 (ix (M6.1 0 15)) (M2.1 0 14)) fun M7 =>
      (if inb (M7.1 0 15) 12 then
      (lt' (wI M7 11 (ix (M7.1 0 15)) (zn 0)) fun M8 =>
      (lt' (wI M8 0 15 ((M8.1 0 15) + 1)) fun M9 =>
      (lt' (wI M9 0 2 0) fun M10 =>
      (some ((M10.1 0 15) - 1, M10))))) else none)) else none)) N 0 M3))))

set_option maxHeartbeats 4000000 in
set_option maxRecDepth 100000 in
theorem s_X12_law_45 {w : W0} {Z : Zx} (g : Good KM w Z cX12_law RX12 4) (e2 : Z.2.2.1 = 4) (e3 : Z.2.2.2 = (some .int)) (N : Nat) (p2 : Int32) (G : Unit → Mm → Rs) (kG : ∀ (x : Unit) (M : Mm), Sim KM w Z 76 [rf w 0, .null, .int p2, .null] [] M (G x M)) : ∀ (n : Nat) (s : Int32) (M : Mm), Sim KM w Z 45 [rf w 0, .null, .int p2, .int s] [] M (itr (B_X12_law_45 N p2 G) n s M) := by
  have n3 : 3 < Z.2.2.1 := by rw [e2]; decide
  refine r_itr (Lf := fun (s : Int32) => [rf w 0, .null, .int p2, .int s]) (fun rec hr s M => ?_)
  unfold B_X12_law_45
  refine r_iload_n (pc' := 46) g dX12_law_45 rfl rfl ?_
  refine r_iload_n (pc' := 47) g dX12_law_46 rfl rfl ?_
  refine r_cge (pc' := 50) (tgt := 76) g dX12_law_47 rfl rfl ?_ ?_
  · skip
    exact r_weak (Ls2 (Ls1 (Ls2 (Ls1 Ls0)))) (kG () M)
  · skip
    refine r_aload_n (pc' := 51) g dX12_law_50 rfl rfl ?_
    refine r_get (pc' := 54) g dX12_law_51 rfl fl_X12_25 lM_0 (eM_0 w _ _) rfl ?_
    refine r_bipush (pc' := 56) (v := 40) g dX12_law_54 rfl rfl ?_
    refine r_aload_n (pc' := 57) g dX12_law_56 rfl rfl ?_
    refine r_get (pc' := 60) g dX12_law_57 rfl fl_X12_186 lM_0 (eM_0 w _ _) rfl ?_
    refine r_imul (pc' := 61) g dX12_law_60 rfl ?_
    refine r_iload_n (pc' := 62) g dX12_law_61 rfl rfl ?_
    refine r_iadd (pc' := 63) g dX12_law_62 rfl ?_
    refine r_aload_n (pc' := 64) g dX12_law_63 rfl rfl ?_
    refine r_get (pc' := 67) g dX12_law_64 rfl fl_X12_22 lM_0 (eM_0 w _ _) rfl ?_
    refine r_iload_n (pc' := 68) g dX12_law_67 rfl rfl ?_
    refine r_iald (pc' := 69) g dX12_law_68 rfl lM_5 (eM_5 w _ _) ?_
    refine r_iast (pc' := 70) g dX12_law_69 rfl lM_6 (fun m => eM_6 w m _) ?_
    refine r_ltM (fun M4 => ?_)
    refine r_iinc (pc' := 73) (b := 1) (L' := [rf w 0, .null, .int p2, .int (s + 1)]) g dX12_law_70 rfl rfl rfl n3 rfl rfl ?_
    refine r_goto (tgt := 45) g dX12_law_73 rfl ?_
    exact r_weak (Ls2 (Ls1 (Ls2 (Ls2 Ls0)))) (hr (s + 1) M4)
set_option maxHeartbeats 4000000 in
set_option maxRecDepth 100000 in
theorem c_X12_law (l : Launch) (w : W0) (N : Nat) (M : Mm) : Ct l KM w 4 yX12_law cX12_law 4 (some .int) [rf w 0] M (f_X12_law N M) := by
  refine ct_of [rf w 0, .null, .null, .null] (by decide) (Nat.le_of_ble_eq_true rfl) rfl (fun Z e1 e2 e3 g => ?_)
  have g : Good KM w Z cX12_law RX12 4 := g
  unfold f_X12_law
  have n1 : 1 < Z.2.2.1 := by rw [e2]; decide
  have n2 : 2 < Z.2.2.1 := by rw [e2]; decide
  have n3 : 3 < Z.2.2.1 := by rw [e2]; decide
  refine r_aload_n (pc' := 1) g dX12_law_0 rfl rfl ?_
  refine r_get (pc' := 4) g dX12_law_1 rfl fl_X12_186 lM_0 (eM_0 w _ _) rfl ?_
  refine r_bipush (pc' := 6) (v := 12) g dX12_law_4 rfl rfl ?_
  refine r_cne (pc' := 9) (tgt := 16) g dX12_law_6 rfl rfl ?_ ?_
  · skip
    refine r_aload_n (pc' := 17) g dX12_law_16 rfl rfl ?_
    refine r_callVi (pc' := 20) (As := []) (rest := []) g dX12_law_17 rfl ml_X12_189 mw_X12_isLaw mv_X12_isLaw (Nat.le_of_ble_eq_true rfl) (c_X12_isLaw _ w N  M) rfl lM_0 (eM_0 w _ _) rfl rfl (Nat.le_of_ble_eq_true rfl) (fun r1 M2 => ?_)
    refine r_istore_n (pc' := 21) (L' := [rf w 0, .int r1, .null, .null]) g dX12_law_20 rfl n1 rfl rfl ?_
    refine r_aload_n (pc' := 22) g dX12_law_21 rfl rfl ?_
    refine r_get (pc' := 25) g dX12_law_22 rfl fl_X12_160 lM_0 (eM_0 w _ _) rfl ?_
    refine r_istore_n (pc' := 26) (L' := [rf w 0, .int r1, .int (M2.1 0 14), .null]) g dX12_law_25 rfl n2 rfl rfl ?_
    refine r_aload_n (pc' := 27) g dX12_law_26 rfl rfl ?_
    refine r_iconst (pc' := 28) (v := 0) g dX12_law_27 rfl rfl ?_
    refine r_put (pc' := 31) g dX12_law_28 rfl fl_X12_160 rfl lM_0 (eM_0 w _ _) (Nat.le_of_ble_eq_true rfl) (sM_0_14 w _ _ _) ?_
    refine r_ltM (fun M3 => ?_)
    refine r_iload_n (pc' := 32) g dX12_law_31 rfl rfl ?_
    refine r_ifne (pc' := 35) (tgt := 43) g dX12_law_32 rfl rfl ?_ ?_
    · skip
      refine r_iconst (pc' := 44) (v := 0) g dX12_law_43 rfl rfl ?_
      refine r_istore_n (pc' := 45) (L' := [rf w 0, .int r1, .int (M2.1 0 14), .int 0]) g dX12_law_44 rfl n3 rfl rfl ?_
      refine r_weak (Ls2 (Ls1 (Ls2 (Ls2 Ls0)))) (s_X12_law_45 g e2 e3 N (M2.1 0 14) _ (fun z5 M6 => ?_) N 0 M3)
      refine r_aload_n (pc' := 77) g dX12_law_76 rfl rfl ?_
      refine r_get (pc' := 80) g dX12_law_77 rfl fl_X12_28 lM_0 (eM_0 w _ _) rfl ?_
      refine r_aload_n (pc' := 81) g dX12_law_80 rfl rfl ?_
      refine r_get (pc' := 84) g dX12_law_81 rfl fl_X12_186 lM_0 (eM_0 w _ _) rfl ?_
      refine r_iload_n (pc' := 85) g dX12_law_84 rfl rfl ?_
      refine r_iast (pc' := 86) g dX12_law_85 rfl lM_7 (fun m => eM_7 w m _) ?_
      refine r_ltM (fun M7 => ?_)
      refine r_aload_n (pc' := 87) g dX12_law_86 rfl rfl ?_
      refine r_get (pc' := 90) g dX12_law_87 rfl fl_X12_40 lM_0 (eM_0 w _ _) rfl ?_
      refine r_aload_n (pc' := 91) g dX12_law_90 rfl rfl ?_
      refine r_get (pc' := 94) g dX12_law_91 rfl fl_X12_186 lM_0 (eM_0 w _ _) rfl ?_
      refine r_iconst (pc' := 95) (v := 0) g dX12_law_94 rfl rfl ?_
      refine r_zast (pc' := 96) g dX12_law_95 rfl lM_11 (fun m => eM_11 w m _) ?_
      refine r_ltM (fun M8 => ?_)
      refine r_aload_n (pc' := 97) g dX12_law_96 rfl rfl ?_
      refine r_dupa (pc' := 98) g dX12_law_97 rfl ?_
      refine r_get (pc' := 101) g dX12_law_98 rfl fl_X12_186 lM_0 (eM_0 w _ _) rfl ?_
      refine r_iconst (pc' := 102) (v := 1) g dX12_law_101 rfl rfl ?_
      refine r_iadd (pc' := 103) g dX12_law_102 rfl ?_
      refine r_put (pc' := 106) g dX12_law_103 rfl fl_X12_186 rfl lM_0 (eM_0 w _ _) (Nat.le_of_ble_eq_true rfl) (sM_0_15 w _ _ _) ?_
      refine r_ltM (fun M9 => ?_)
      refine r_aload_n (pc' := 107) g dX12_law_106 rfl rfl ?_
      refine r_iconst (pc' := 108) (v := 0) g dX12_law_107 rfl rfl ?_
      refine r_putz (pc' := 111) g dX12_law_108 rfl fl_X12_121 rfl rfl lM_0 (eM_0 w _ _) (Nat.le_of_ble_eq_true rfl) (sM_0_2 w _ _ _) ?_
      refine r_ltM (fun M10 => ?_)
      refine r_aload_n (pc' := 112) g dX12_law_111 rfl rfl ?_
      refine r_get (pc' := 115) g dX12_law_112 rfl fl_X12_186 lM_0 (eM_0 w _ _) rfl ?_
      refine r_iconst (pc' := 116) (v := 1) g dX12_law_115 rfl rfl ?_
      refine r_isub (pc' := 117) g dX12_law_116 rfl ?_
      exact r_iret g e3 dX12_law_117
    · skip
      refine r_bipush (pc' := 37) (v := -20) g dX12_law_35 rfl rfl ?_
      refine r_aload_n (pc' := 38) g dX12_law_37 rfl rfl ?_
      refine r_get (pc' := 41) g dX12_law_38 rfl fl_X12_163 lM_0 (eM_0 w _ _) rfl ?_
      refine r_isub (pc' := 42) g dX12_law_41 rfl ?_
      exact r_iret g e3 dX12_law_42
  · skip
    refine r_aload_n (pc' := 10) g dX12_law_9 rfl rfl ?_
    refine r_bipush (pc' := 12) (v := -6) g dX12_law_10 rfl rfl ?_
    refine r_callVi (pc' := 15) (As := [.int (-6)]) (rest := []) g dX12_law_12 rfl ml_X12_113 mw_X12_no mv_X12_no (Nat.le_of_ble_eq_true rfl) (c_X12_no _ w N (-6) M) rfl lM_0 (eM_0 w _ _) rfl rfl (Nat.le_of_ble_eq_true rfl) (fun r11 M12 => ?_)
    exact r_iret g e3 dX12_law_15
def f_X12_holds (N : Nat) (a1 : Int32) (a2 : Int32) (M : Mm) : Rs :=
  bd (f_X12_isIn N a1.toInt64 0 (((M.1 0 15) - 1).toInt64) M) fun r1 M2 =>
  (if r1 = 0 then
    (bd (f_X12_no N (-1) M2) fun r7 M8 =>
    (some (r7, M8)))
  else
    (if inb a1 12 then
    (if (M2.1 11 (ix a1)) = a2 then
      (if a2 = 0 then
        (if inb a1 12 then
        (lt' (wI M2 11 (ix a1) (zn 1)) fun M5 =>
        (lt' (wI M5 0 2 0) fun M6 =>
        (some (1, M6)))) else none)
      else
        (if inb a1 12 then
        (lt' (wI M2 11 (ix a1) (zn 0)) fun M3 =>
        (lt' (wI M3 0 2 0) fun M4 =>
        (some (1, M4)))) else none))
    else
      (some (0, M2))) else none))

set_option maxHeartbeats 4000000 in
set_option maxRecDepth 100000 in
theorem c_X12_holds (l : Launch) (w : W0) (N : Nat) (a1 : Int32) (a2 : Int32) (M : Mm) : Ct l KM w 1 yX12_holds cX12_holds 3 (some .int) [rf w 0, .int a1, .int a2] M (f_X12_holds N a1 a2 M) := by
  refine ct_of [rf w 0, .int a1, .int a2] (by decide) (Nat.le_of_ble_eq_true rfl) rfl (fun Z e1 e2 e3 g => ?_)
  have g : Good KM w Z cX12_holds RX12 1 := g
  unfold f_X12_holds
  refine r_iload_n (pc' := 1) g dX12_holds_0 rfl rfl ?_
  refine r_i2l (pc' := 2) g dX12_holds_1 rfl ?_
  refine r_lconst (pc' := 3) (v := 0) g dX12_holds_2 rfl rfl ?_
  refine r_aload_n (pc' := 4) g dX12_holds_3 rfl rfl ?_
  refine r_get (pc' := 7) g dX12_holds_4 rfl fl_X12_186 lM_0 (eM_0 w _ _) rfl ?_
  refine r_iconst (pc' := 8) (v := 1) g dX12_holds_7 rfl rfl ?_
  refine r_isub (pc' := 9) g dX12_holds_8 rfl ?_
  refine r_i2l (pc' := 10) g dX12_holds_9 rfl ?_
  refine r_callSi (pc' := 13) (As := [.long a1.toInt64, .long 0, .long (((M.1 0 15) - 1).toInt64)]) (rest := []) g dX12_holds_10 rfl ml_X12_109 mw_X12_isIn ms_X12_isIn (Nat.le_of_ble_eq_true rfl) (c_X12_isIn _ w N a1.toInt64 0 (((M.1 0 15) - 1).toInt64) M) rfl rfl (Nat.le_of_ble_eq_true rfl) (fun r1 M2 => ?_)
  refine r_ifne (pc' := 16) (tgt := 22) g dX12_holds_13 rfl rfl ?_ ?_
  · skip
    refine r_aload_n (pc' := 23) g dX12_holds_22 rfl rfl ?_
    refine r_get (pc' := 26) g dX12_holds_23 rfl fl_X12_40 lM_0 (eM_0 w _ _) rfl ?_
    refine r_iload_n (pc' := 27) g dX12_holds_26 rfl rfl ?_
    refine r_zald (pc' := 28) g dX12_holds_27 rfl lM_11 (eM_11 w _ _) ?_
    refine r_iload_n (pc' := 29) g dX12_holds_28 rfl rfl ?_
    refine r_ceq (pc' := 32) (tgt := 34) g dX12_holds_29 rfl rfl ?_ ?_
    · skip
      refine r_aload_n (pc' := 35) g dX12_holds_34 rfl rfl ?_
      refine r_get (pc' := 38) g dX12_holds_35 rfl fl_X12_40 lM_0 (eM_0 w _ _) rfl ?_
      refine r_iload_n (pc' := 39) g dX12_holds_38 rfl rfl ?_
      refine r_iload_n (pc' := 40) g dX12_holds_39 rfl rfl ?_
      refine r_ifne (pc' := 43) (tgt := 47) g dX12_holds_40 rfl rfl ?_ ?_
      · skip
        refine r_iconst (pc' := 48) (v := 0) g dX12_holds_47 rfl rfl ?_
        refine r_zast (pc' := 49) g dX12_holds_48 rfl lM_11 (fun m => eM_11 w m _) ?_
        refine r_ltM (fun M3 => ?_)
        refine r_aload_n (pc' := 50) g dX12_holds_49 rfl rfl ?_
        refine r_iconst (pc' := 51) (v := 0) g dX12_holds_50 rfl rfl ?_
        refine r_putz (pc' := 54) g dX12_holds_51 rfl fl_X12_121 rfl rfl lM_0 (eM_0 w _ _) (Nat.le_of_ble_eq_true rfl) (sM_0_2 w _ _ _) ?_
        refine r_ltM (fun M4 => ?_)
        refine r_iconst (pc' := 55) (v := 1) g dX12_holds_54 rfl rfl ?_
        exact r_iret g e3 dX12_holds_55
      · skip
        refine r_iconst (pc' := 44) (v := 1) g dX12_holds_43 rfl rfl ?_
        refine r_goto (tgt := 48) g dX12_holds_44 rfl ?_
        refine r_zast (pc' := 49) g dX12_holds_48 rfl lM_11 (fun m => eM_11 w m _) ?_
        refine r_ltM (fun M5 => ?_)
        refine r_aload_n (pc' := 50) g dX12_holds_49 rfl rfl ?_
        refine r_iconst (pc' := 51) (v := 0) g dX12_holds_50 rfl rfl ?_
        refine r_putz (pc' := 54) g dX12_holds_51 rfl fl_X12_121 rfl rfl lM_0 (eM_0 w _ _) (Nat.le_of_ble_eq_true rfl) (sM_0_2 w _ _ _) ?_
        refine r_ltM (fun M6 => ?_)
        refine r_iconst (pc' := 55) (v := 1) g dX12_holds_54 rfl rfl ?_
        exact r_iret g e3 dX12_holds_55
    · skip
      refine r_iconst (pc' := 33) (v := 0) g dX12_holds_32 rfl rfl ?_
      exact r_iret g e3 dX12_holds_33
  · skip
    refine r_aload_n (pc' := 17) g dX12_holds_16 rfl rfl ?_
    refine r_iconst (pc' := 18) (v := -1) g dX12_holds_17 rfl rfl ?_
    refine r_callVi (pc' := 21) (As := [.int (-1)]) (rest := []) g dX12_holds_18 rfl ml_X12_113 mw_X12_no mv_X12_no (Nat.le_of_ble_eq_true rfl) (c_X12_no _ w N (-1) M2) rfl lM_0 (eM_0 w _ _) rfl rfl (Nat.le_of_ble_eq_true rfl) (fun r7 M8 => ?_)
    exact r_iret g e3 dX12_holds_21
def B_X12_unit_98 (N : Nat) (G : Unit → Mm → Rs) (rec : Int32 → Mm → Rs) (s : Int32) (M : Mm) : Rs :=
  if s < 3 then
      (bd (f_X12_sign N  M) fun r5 M6 =>
      (bd (f_X12_isDigit N r5 M6) fun r7 M8 =>
      (if r7 = 0 then
        (G () M8)
      else
        (lt' (wI M8 0 16 ((M8.1 0 16) + 1)) fun M9 =>
        (rec (s + 1) M9)))))
    else
      (G () M)

def f_X12_unit (N : Nat) (a1 : Int32) (M : Mm) : Rs :=
  bd (f_X12_sign N  M) fun r1 M2 =>
  (if r1 = 120 then
    (lt' (wI M2 0 16 ((M2.1 0 16) + 1)) fun M19 =>
    (bd (f_X12_digit N  M19) fun r20 M21 =>
    (if bz r20 then some (r20, M21) else none)))
  else
    (if r1 = 115 then
      (lt' (wI M2 0 16 ((M2.1 0 16) + 1)) fun M12 =>
      (bd (f_X12_sign N  M12) fun r13 M14 =>
      (lt' (r13 - 48) fun x15 =>
      (bd (f_X12_isThere N x15 M14) fun r16 M17 =>
      (if r16 = 0 then
        (some (0, M17))
      else
        (if inb ((6 * x15) + 5) 47 then
        (if a1 < (M17.1 2 (ix ((6 * x15) + 5))) then
          (some (0, M17))
        else
          (lt' (wI M17 0 16 ((M17.1 0 16) + 1)) fun M18 =>
          (some (1, M18)))) else none))))))
    else
      (bd (f_X12_isDigit N r1 M2) fun r3 M4 =>
      (if r3 = 0 then
        (some (0, M4))
      else
        (itr (B_X12_unit_98 N fun z10 M11 =>
        (some (1, M11))) N 0 M4)))))

set_option maxHeartbeats 4000000 in
set_option maxRecDepth 100000 in
theorem s_X12_unit_98 {w : W0} {Z : Zx} (g : Good KM w Z cX12_unit RX12 2) (e2 : Z.2.2.1 = 4) (e3 : Z.2.2.2 = (some .boolean)) (N : Nat) (G : Unit → Mm → Rs) (kG : ∀ (x : Unit) (M : Mm), Sim KM w Z 129 [.null, .null, .null, .null] [] M (G x M)) : ∀ (n : Nat) (s : Int32) (M : Mm), Sim KM w Z 98 [rf w 0, .null, .null, .int s] [] M (itr (B_X12_unit_98 N G) n s M) := by
  have n3 : 3 < Z.2.2.1 := by rw [e2]; decide
  refine r_itr (Lf := fun (s : Int32) => [rf w 0, .null, .null, .int s]) (fun rec hr s M => ?_)
  unfold B_X12_unit_98
  refine r_iload_n (pc' := 99) g dX12_unit_98 rfl rfl ?_
  refine r_iconst (pc' := 100) (v := 3) g dX12_unit_99 rfl rfl ?_
  refine r_cge (pc' := 103) (tgt := 129) g dX12_unit_100 rfl rfl ?_ ?_
  · skip
    exact r_weak (Ls1 (Ls1 (Ls1 (Ls1 Ls0)))) (kG () M)
  · skip
    refine r_aload_n (pc' := 104) g dX12_unit_103 rfl rfl ?_
    refine r_callVi (pc' := 107) (As := []) (rest := []) g dX12_unit_104 rfl ml_X12_166 mw_X12_sign mv_X12_sign (Nat.le_of_ble_eq_true rfl) (c_X12_sign _ w N  M) rfl lM_0 (eM_0 w _ _) rfl rfl (Nat.le_of_ble_eq_true rfl) (fun r5 M6 => ?_)
    refine r_callSi (pc' := 110) (As := [.int r5]) (rest := []) g dX12_unit_107 rfl ml_X12_170 mw_X12_isDigit ms_X12_isDigit (Nat.le_of_ble_eq_true rfl) (c_X12_isDigit _ w N r5 M6) rfl rfl (Nat.le_of_ble_eq_true rfl) (fun r7 M8 => ?_)
    refine r_ifeq (pc' := 113) (tgt := 129) g dX12_unit_110 rfl rfl ?_ ?_
    · skip
      exact r_weak (Ls1 (Ls1 (Ls1 (Ls1 Ls0)))) (kG () M8)
    · skip
      refine r_aload_n (pc' := 114) g dX12_unit_113 rfl rfl ?_
      refine r_dupa (pc' := 115) g dX12_unit_114 rfl ?_
      refine r_get (pc' := 118) g dX12_unit_115 rfl fl_X12_163 lM_0 (eM_0 w _ _) rfl ?_
      refine r_iconst (pc' := 119) (v := 1) g dX12_unit_118 rfl rfl ?_
      refine r_iadd (pc' := 120) g dX12_unit_119 rfl ?_
      refine r_put (pc' := 123) g dX12_unit_120 rfl fl_X12_163 rfl lM_0 (eM_0 w _ _) (Nat.le_of_ble_eq_true rfl) (sM_0_16 w _ _ _) ?_
      refine r_ltM (fun M9 => ?_)
      refine r_iinc (pc' := 126) (b := 1) (L' := [rf w 0, .null, .null, .int (s + 1)]) g dX12_unit_123 rfl rfl rfl n3 rfl rfl ?_
      refine r_goto (tgt := 98) g dX12_unit_126 rfl ?_
      exact r_weak (Ls2 (Ls1 (Ls1 (Ls2 Ls0)))) (hr (s + 1) M9)
set_option maxHeartbeats 4000000 in
set_option maxRecDepth 100000 in
theorem c_X12_unit (l : Launch) (w : W0) (N : Nat) (a1 : Int32) (M : Mm) : Ct l KM w 2 yX12_unit cX12_unit 4 (some .boolean) [rf w 0, .int a1] M (f_X12_unit N a1 M) := by
  refine ct_of [rf w 0, .int a1, .null, .null] (by decide) (Nat.le_of_ble_eq_true rfl) rfl (fun Z e1 e2 e3 g => ?_)
  have g : Good KM w Z cX12_unit RX12 2 := g
  unfold f_X12_unit
  have n2 : 2 < Z.2.2.1 := by rw [e2]; decide
  have n3 : 3 < Z.2.2.1 := by rw [e2]; decide
  refine r_aload_n (pc' := 1) g dX12_unit_0 rfl rfl ?_
  refine r_callVi (pc' := 4) (As := []) (rest := []) g dX12_unit_1 rfl ml_X12_166 mw_X12_sign mv_X12_sign (Nat.le_of_ble_eq_true rfl) (c_X12_sign _ w N  M) rfl lM_0 (eM_0 w _ _) rfl rfl (Nat.le_of_ble_eq_true rfl) (fun r1 M2 => ?_)
  refine r_istore_n (pc' := 5) (L' := [rf w 0, .int a1, .int r1, .null]) g dX12_unit_4 rfl n2 rfl rfl ?_
  refine r_iload_n (pc' := 6) g dX12_unit_5 rfl rfl ?_
  refine r_bipush (pc' := 8) (v := 120) g dX12_unit_6 rfl rfl ?_
  refine r_cne (pc' := 11) (tgt := 26) g dX12_unit_8 rfl rfl ?_ ?_
  · skip
    refine r_iload_n (pc' := 27) g dX12_unit_26 rfl rfl ?_
    refine r_bipush (pc' := 29) (v := 115) g dX12_unit_27 rfl rfl ?_
    refine r_cne (pc' := 32) (tgt := 87) g dX12_unit_29 rfl rfl ?_ ?_
    · skip
      refine r_iload_n (pc' := 88) g dX12_unit_87 rfl rfl ?_
      refine r_callSi (pc' := 91) (As := [.int r1]) (rest := []) g dX12_unit_88 rfl ml_X12_170 mw_X12_isDigit ms_X12_isDigit (Nat.le_of_ble_eq_true rfl) (c_X12_isDigit _ w N r1 M2) rfl rfl (Nat.le_of_ble_eq_true rfl) (fun r3 M4 => ?_)
      refine r_ifne (pc' := 94) (tgt := 96) g dX12_unit_91 rfl rfl ?_ ?_
      · skip
        refine r_iconst (pc' := 97) (v := 0) g dX12_unit_96 rfl rfl ?_
        refine r_istore_n (pc' := 98) (L' := [rf w 0, .int a1, .int r1, .int 0]) g dX12_unit_97 rfl n3 rfl rfl ?_
        refine r_weak (Ls2 (Ls1 (Ls1 (Ls2 Ls0)))) (s_X12_unit_98 g e2 e3 N _ (fun z10 M11 => ?_) N 0 M4)
        refine r_iconst (pc' := 130) (v := 1) g dX12_unit_129 rfl rfl ?_
        exact r_zretc g e3 rfl dX12_unit_130
      · skip
        refine r_iconst (pc' := 95) (v := 0) g dX12_unit_94 rfl rfl ?_
        exact r_zretc g e3 rfl dX12_unit_95
    · skip
      refine r_aload_n (pc' := 33) g dX12_unit_32 rfl rfl ?_
      refine r_dupa (pc' := 34) g dX12_unit_33 rfl ?_
      refine r_get (pc' := 37) g dX12_unit_34 rfl fl_X12_163 lM_0 (eM_0 w _ _) rfl ?_
      refine r_iconst (pc' := 38) (v := 1) g dX12_unit_37 rfl rfl ?_
      refine r_iadd (pc' := 39) g dX12_unit_38 rfl ?_
      refine r_put (pc' := 42) g dX12_unit_39 rfl fl_X12_163 rfl lM_0 (eM_0 w _ _) (Nat.le_of_ble_eq_true rfl) (sM_0_16 w _ _ _) ?_
      refine r_ltM (fun M12 => ?_)
      refine r_aload_n (pc' := 43) g dX12_unit_42 rfl rfl ?_
      refine r_callVi (pc' := 46) (As := []) (rest := []) g dX12_unit_43 rfl ml_X12_166 mw_X12_sign mv_X12_sign (Nat.le_of_ble_eq_true rfl) (c_X12_sign _ w N  M12) rfl lM_0 (eM_0 w _ _) rfl rfl (Nat.le_of_ble_eq_true rfl) (fun r13 M14 => ?_)
      refine r_bipush (pc' := 48) (v := 48) g dX12_unit_46 rfl rfl ?_
      refine r_isub (pc' := 49) g dX12_unit_48 rfl ?_
      refine r_ltI (fun x15 => ?_)
      refine r_istore_n (pc' := 50) (L' := [rf w 0, .int a1, .int r1, .int x15]) g dX12_unit_49 rfl n3 rfl rfl ?_
      refine r_aload_n (pc' := 51) g dX12_unit_50 rfl rfl ?_
      refine r_iload_n (pc' := 52) g dX12_unit_51 rfl rfl ?_
      refine r_callVi (pc' := 55) (As := [.int x15]) (rest := []) g dX12_unit_52 rfl ml_X12_117 mw_X12_isThere mv_X12_isThere (Nat.le_of_ble_eq_true rfl) (c_X12_isThere _ w N x15 M14) rfl lM_0 (eM_0 w _ _) rfl rfl (Nat.le_of_ble_eq_true rfl) (fun r16 M17 => ?_)
      refine r_ifeq (pc' := 58) (tgt := 73) g dX12_unit_55 rfl rfl ?_ ?_
      · skip
        refine r_iconst (pc' := 74) (v := 0) g dX12_unit_73 rfl rfl ?_
        exact r_zretc g e3 rfl dX12_unit_74
      · skip
        refine r_aload_n (pc' := 59) g dX12_unit_58 rfl rfl ?_
        refine r_get (pc' := 62) g dX12_unit_59 rfl fl_X12_13 lM_0 (eM_0 w _ _) rfl ?_
        refine r_bipush (pc' := 64) (v := 6) g dX12_unit_62 rfl rfl ?_
        refine r_iload_n (pc' := 65) g dX12_unit_64 rfl rfl ?_
        refine r_imul (pc' := 66) g dX12_unit_65 rfl ?_
        refine r_iconst (pc' := 67) (v := 5) g dX12_unit_66 rfl rfl ?_
        refine r_iadd (pc' := 68) g dX12_unit_67 rfl ?_
        refine r_iald (pc' := 69) g dX12_unit_68 rfl lM_2 (eM_2 w _ _) ?_
        refine r_iload_n (pc' := 70) g dX12_unit_69 rfl rfl ?_
        refine r_cle (pc' := 73) (tgt := 75) g dX12_unit_70 rfl rfl ?_ ?_
        · skip
          refine r_aload_n (pc' := 76) g dX12_unit_75 rfl rfl ?_
          refine r_dupa (pc' := 77) g dX12_unit_76 rfl ?_
          refine r_get (pc' := 80) g dX12_unit_77 rfl fl_X12_163 lM_0 (eM_0 w _ _) rfl ?_
          refine r_iconst (pc' := 81) (v := 1) g dX12_unit_80 rfl rfl ?_
          refine r_iadd (pc' := 82) g dX12_unit_81 rfl ?_
          refine r_put (pc' := 85) g dX12_unit_82 rfl fl_X12_163 rfl lM_0 (eM_0 w _ _) (Nat.le_of_ble_eq_true rfl) (sM_0_16 w _ _ _) ?_
          refine r_ltM (fun M18 => ?_)
          refine r_iconst (pc' := 86) (v := 1) g dX12_unit_85 rfl rfl ?_
          exact r_zretc g e3 rfl dX12_unit_86
        · skip
          refine r_iconst (pc' := 74) (v := 0) g dX12_unit_73 rfl rfl ?_
          exact r_zretc g e3 rfl dX12_unit_74
  · skip
    refine r_aload_n (pc' := 12) g dX12_unit_11 rfl rfl ?_
    refine r_dupa (pc' := 13) g dX12_unit_12 rfl ?_
    refine r_get (pc' := 16) g dX12_unit_13 rfl fl_X12_163 lM_0 (eM_0 w _ _) rfl ?_
    refine r_iconst (pc' := 17) (v := 1) g dX12_unit_16 rfl rfl ?_
    refine r_iadd (pc' := 18) g dX12_unit_17 rfl ?_
    refine r_put (pc' := 21) g dX12_unit_18 rfl fl_X12_163 rfl lM_0 (eM_0 w _ _) (Nat.le_of_ble_eq_true rfl) (sM_0_16 w _ _ _) ?_
    refine r_ltM (fun M19 => ?_)
    refine r_aload_n (pc' := 22) g dX12_unit_21 rfl rfl ?_
    refine r_callVi (pc' := 25) (As := []) (rest := []) g dX12_unit_22 rfl ml_X12_173 mw_X12_digit mv_X12_digit (Nat.le_of_ble_eq_true rfl) (c_X12_digit _ w N  M19) rfl lM_0 (eM_0 w _ _) rfl rfl (Nat.le_of_ble_eq_true rfl) (fun r20 M21 => ?_)
    exact r_zret g e3 dX12_unit_25
