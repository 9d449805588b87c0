def B_X10_fare_4 (N : Nat) (p1 : Int32) (G : Int32 → Mm → Rs) (rec : (Int32 × Int32) → Mm → Rs) (s : Int32 × Int32) (M : Mm) : Rs :=
  if s.2 < 4 then
      (if inb ((s.2 * 6) + 2) 43 then
      (lt' (s.1 + (((p1 >>> ((2 * s.2) &&& 31)) &&& 3) * (M.1 2 (ix ((s.2 * 6) + 2))))) fun x1 =>
      (rec (x1, s.2 + 1) M)) else none)
    else
      (G s.1 M)

def f_X10_fare (N : Nat) (a1 : Int32) (M : Mm) : Rs :=
  itr (B_X10_fare_4 N a1 fun z2 M3 =>
  (some (z2, M3))) N (0, 0) M

set_option maxHeartbeats 4000000 in
set_option maxRecDepth 100000 in
theorem s_X10_fare_4 {w : W0} {Z : Zx} (g : Good KC w Z cX10_fare RX10 0) (e2 : Z.2.2.1 = 4) (e3 : Z.2.2.2 = (some .int)) (N : Nat) (p1 : Int32) (G : Int32 → Mm → Rs) (kG : ∀ (x : Int32) (M : Mm), Sim KC w Z 37 [.null, .null, .int x, .null] [] M (G x M)) : ∀ (n : Nat) (s : Int32 × Int32) (M : Mm), Sim KC w Z 4 [rf w 1, .int p1, .int s.1, .int s.2] [] M (itr (B_X10_fare_4 N p1 G) n s M) := by
  have n2 : 2 < Z.2.2.1 := by rw [e2]; decide
  have n3 : 3 < Z.2.2.1 := by rw [e2]; decide
  refine r_itr (Lf := fun (s : Int32 × Int32) => [rf w 1, .int p1, .int s.1, .int s.2]) (fun rec hr s M => ?_)
  unfold B_X10_fare_4
  refine r_iload_n (pc' := 5) g dX10_fare_4 rfl rfl ?_
  refine r_iconst (pc' := 6) (v := 4) g dX10_fare_5 rfl rfl ?_
  refine r_cge (pc' := 9) (tgt := 37) g dX10_fare_6 rfl rfl ?_ ?_
  · skip
    exact r_weak (Ls1 (Ls1 (Ls2 (Ls1 Ls0)))) (kG s.1 M)
  · skip
    refine r_iload_n (pc' := 10) g dX10_fare_9 rfl rfl ?_
    refine r_iload_n (pc' := 11) g dX10_fare_10 rfl rfl ?_
    refine r_iconst (pc' := 12) (v := 2) g dX10_fare_11 rfl rfl ?_
    refine r_iload_n (pc' := 13) g dX10_fare_12 rfl rfl ?_
    refine r_imul (pc' := 14) g dX10_fare_13 rfl ?_
    refine r_ishr (pc' := 15) g dX10_fare_14 rfl ?_
    refine r_iconst (pc' := 16) (v := 3) g dX10_fare_15 rfl rfl ?_
    refine r_iand (pc' := 17) g dX10_fare_16 rfl ?_
    refine r_aload_n (pc' := 18) g dX10_fare_17 rfl rfl ?_
    refine r_get (pc' := 21) g dX10_fare_18 rfl fl_X10_15 lC_1 (eC_1 w _ _) rfl ?_
    refine r_iload_n (pc' := 22) g dX10_fare_21 rfl rfl ?_
    refine r_bipush (pc' := 24) (v := 6) g dX10_fare_22 rfl rfl ?_
    refine r_imul (pc' := 25) g dX10_fare_24 rfl ?_
    refine r_iconst (pc' := 26) (v := 2) g dX10_fare_25 rfl rfl ?_
    refine r_iadd (pc' := 27) g dX10_fare_26 rfl ?_
    refine r_iald (pc' := 28) g dX10_fare_27 rfl lC_2 (eC_2 w _ _) ?_
    refine r_imul (pc' := 29) g dX10_fare_28 rfl ?_
    refine r_iadd (pc' := 30) g dX10_fare_29 rfl ?_
    refine r_ltI (fun x1 => ?_)
    refine r_istore_n (pc' := 31) (L' := [rf w 1, .int p1, .int x1, .int s.2]) g dX10_fare_30 rfl n2 rfl rfl ?_
    refine r_iinc (pc' := 34) (b := 1) (L' := [rf w 1, .int p1, .int x1, .int (s.2 + 1)]) g dX10_fare_31 rfl rfl rfl n3 rfl rfl ?_
    refine r_goto (tgt := 4) g dX10_fare_34 rfl ?_
    exact r_weak (Ls2 (Ls2 (Ls2 (Ls2 Ls0)))) (hr (x1, s.2 + 1) M)
set_option maxHeartbeats 4000000 in
set_option maxRecDepth 100000 in
theorem c_X10_fare (l : Launch) (w : W0) (N : Nat) (a1 : Int32) (M : Mm) : Ct l KC w 0 yX10_fare cX10_fare 4 (some .int) [rf w 1, .int a1] M (f_X10_fare N a1 M) := by
  refine ct_of [rf w 1, .int a1, .null, .null] (by decide) (Nat.le_of_ble_eq_true rfl) rfl (fun Z e1 e2 e3 g => ?_)
  have g : Good KC w Z cX10_fare RX10 0 := g
  unfold f_X10_fare
  have n2 : 2 < Z.2.2.1 := by rw [e2]; decide
  have n3 : 3 < Z.2.2.1 := by rw [e2]; decide
  refine r_iconst (pc' := 1) (v := 0) g dX10_fare_0 rfl rfl ?_
  refine r_istore_n (pc' := 2) (L' := [rf w 1, .int a1, .int 0, .null]) g dX10_fare_1 rfl n2 rfl rfl ?_
  refine r_iconst (pc' := 3) (v := 0) g dX10_fare_2 rfl rfl ?_
  refine r_istore_n (pc' := 4) (L' := [rf w 1, .int a1, .int 0, .int 0]) g dX10_fare_3 rfl n3 rfl rfl ?_
  refine r_weak (Ls2 (Ls2 (Ls2 (Ls2 Ls0)))) (s_X10_fare_4 g e2 e3 N a1 _ (fun z2 M3 => ?_) N (0, 0) M)
  refine r_iload_n (pc' := 38) g dX10_fare_37 rfl rfl ?_
  exact r_iret g e3 dX10_fare_38
def B_X4_findOwnWay_79 (N : Nat) (p1 : Int32) (G : Unit → Mm → Rs) (rec : Int32 → Mm → Rs) (s : Int32) (M : Mm) : Rs :=
  if s < (M.1 40 1) then
      (if inb ((s * 4) + p1) 16 then
      (lt' (M.1 46 (ix ((s * 4) + p1))) fun x7 =>
      (if inb s 4 then
      (if 0 < (M.1 42 (ix s)) then
        (if inb p1 4 then
        (if x7 < (M.1 48 (ix p1)) then
          (if inb p1 4 then
          (lt' (wI M 48 (ix p1) x7) fun M8 =>
          (if inb p1 4 then
          (lt' (wI M8 49 (ix p1) s) fun M9 =>
          (rec (s + 1) M9)) else none)) else none)
        else
          (rec (s + 1) M)) else none)
      else
        (rec (s + 1) M)) else none)) else none)
    else
      (G () M)

def f_X4_findOwnWay (N : Nat) (a1 : Int32) (M : Mm) : Rs :=
  if inb a1 4 then
  (lt' (wI M 48 (ix a1) (M.1 2 (ix 41))) fun M1 =>
  (if inb a1 4 then
  (lt' (wI M1 49 (ix a1) (-2)) fun M2 =>
  (if inb a1 4 then
  (if inb (((M2.1 43 (ix a1)) * 6) + 3) 43 then
  (lt' (M2.1 2 (ix (((M2.1 43 (ix a1)) * 6) + 3))) fun x3 =>
  (if inb a1 4 then
  (lt' (fun (s4 : Unit) (M5 : Mm) =>
    ((itr (B_X4_findOwnWay_79 N a1 fun z10 M11 =>
    (some (0, M11))) N 0 M5) : Rs)) fun jn6 =>
  (if 0 < (M2.1 45 (ix a1)) then
    (if inb a1 4 then
    (if x3 < (M2.1 48 (ix a1)) then
      (if inb a1 4 then
      (lt' (wI M2 48 (ix a1) x3) fun M12 =>
      (if inb a1 4 then
      (lt' (wI M12 49 (ix a1) (-1)) fun M13 =>
      (jn6 () M13)) else none)) else none)
    else
      (jn6 () M2)) else none)
  else
    (jn6 () M2))) else none)) else none) else none)) else none)) else none

set_option maxHeartbeats 4000000 in
set_option maxRecDepth 100000 in
theorem s_X4_findOwnWay_79 {w : W0} {Z : Zx} (g : Good KC w Z cX4_findOwnWay RX4 0) (e2 : Z.2.2.1 = 5) (e3 : Z.2.2.2 = none) (N : Nat) (p1 : Int32) (G : Unit → Mm → Rs) (kG : ∀ (x : Unit) (M : Mm), Sim KC w Z 140 [.null, .null, .null, .null, .null] [] M (G x M)) : ∀ (n : Nat) (s : Int32) (M : Mm), Sim KC w Z 79 [rf w 40, .int p1, .null, .int s, .null] [] M (itr (B_X4_findOwnWay_79 N p1 G) n s M) := by
  have n3 : 3 < Z.2.2.1 := by rw [e2]; decide
  have n4 : 4 < Z.2.2.1 := by rw [e2]; decide
  refine r_itr (Lf := fun (s : Int32) => [rf w 40, .int p1, .null, .int s, .null]) (fun rec hr s M => ?_)
  unfold B_X4_findOwnWay_79
  refine r_iload_n (pc' := 80) g dX4_findOwnWay_79 rfl rfl ?_
  refine r_aload_n (pc' := 81) g dX4_findOwnWay_80 rfl rfl ?_
  refine r_get (pc' := 84) g dX4_findOwnWay_81 rfl fl_X4_9 lC_40 (eC_40 w _ _) rfl ?_
  refine r_cge (pc' := 87) (tgt := 140) g dX4_findOwnWay_84 rfl rfl ?_ ?_
  · skip
    exact r_weak (Ls1 (Ls1 (Ls1 (Ls1 (Ls1 Ls0))))) (kG () M)
  · skip
    refine r_aload_n (pc' := 88) g dX4_findOwnWay_87 rfl rfl ?_
    refine r_get (pc' := 91) g dX4_findOwnWay_88 rfl fl_X4_34 lC_40 (eC_40 w _ _) rfl ?_
    refine r_iload_n (pc' := 92) g dX4_findOwnWay_91 rfl rfl ?_
    refine r_iconst (pc' := 93) (v := 4) g dX4_findOwnWay_92 rfl rfl ?_
    refine r_imul (pc' := 94) g dX4_findOwnWay_93 rfl ?_
    refine r_iload_n (pc' := 95) g dX4_findOwnWay_94 rfl rfl ?_
    refine r_iadd (pc' := 96) g dX4_findOwnWay_95 rfl ?_
    refine r_iald (pc' := 97) g dX4_findOwnWay_96 rfl lC_46 (eC_46 w _ _) ?_
    refine r_ltI (fun x7 => ?_)
    refine r_istore (pc' := 99) (L' := [rf w 40, .int p1, .null, .int s, .int x7]) g dX4_findOwnWay_97 rfl n4 rfl rfl ?_
    refine r_aload_n (pc' := 100) g dX4_findOwnWay_99 rfl rfl ?_
    refine r_get (pc' := 103) g dX4_findOwnWay_100 rfl fl_X4_19 lC_40 (eC_40 w _ _) rfl ?_
    refine r_iload_n (pc' := 104) g dX4_findOwnWay_103 rfl rfl ?_
    refine r_iald (pc' := 105) g dX4_findOwnWay_104 rfl lC_42 (eC_42 w _ _) ?_
    refine r_ifle (pc' := 108) (tgt := 134) g dX4_findOwnWay_105 rfl rfl ?_ ?_
    · skip
      refine r_iinc (pc' := 137) (b := 1) (L' := [rf w 40, .int p1, .null, .int (s + 1), .int x7]) g dX4_findOwnWay_134 rfl rfl rfl n3 rfl rfl ?_
      refine r_goto (tgt := 79) g dX4_findOwnWay_137 rfl ?_
      exact r_weak (Ls2 (Ls2 (Ls1 (Ls2 (Ls1 Ls0))))) (hr (s + 1) M)
    · skip
      refine r_iload (pc' := 110) g dX4_findOwnWay_108 rfl rfl ?_
      refine r_aload_n (pc' := 111) g dX4_findOwnWay_110 rfl rfl ?_
      refine r_get (pc' := 114) g dX4_findOwnWay_111 rfl fl_X4_40 lC_40 (eC_40 w _ _) rfl ?_
      refine r_iload_n (pc' := 115) g dX4_findOwnWay_114 rfl rfl ?_
      refine r_iald (pc' := 116) g dX4_findOwnWay_115 rfl lC_48 (eC_48 w _ _) ?_
      refine r_cge (pc' := 119) (tgt := 134) g dX4_findOwnWay_116 rfl rfl ?_ ?_
      · skip
        refine r_iinc (pc' := 137) (b := 1) (L' := [rf w 40, .int p1, .null, .int (s + 1), .int x7]) g dX4_findOwnWay_134 rfl rfl rfl n3 rfl rfl ?_
        refine r_goto (tgt := 79) g dX4_findOwnWay_137 rfl ?_
        exact r_weak (Ls2 (Ls2 (Ls1 (Ls2 (Ls1 Ls0))))) (hr (s + 1) M)
      · skip
        refine r_aload_n (pc' := 120) g dX4_findOwnWay_119 rfl rfl ?_
        refine r_get (pc' := 123) g dX4_findOwnWay_120 rfl fl_X4_40 lC_40 (eC_40 w _ _) rfl ?_
        refine r_iload_n (pc' := 124) g dX4_findOwnWay_123 rfl rfl ?_
        refine r_iload (pc' := 126) g dX4_findOwnWay_124 rfl rfl ?_
        refine r_iast (pc' := 127) g dX4_findOwnWay_126 rfl lC_48 (fun m => eC_48 w m _) ?_
        refine r_ltM (fun M8 => ?_)
        refine r_aload_n (pc' := 128) g dX4_findOwnWay_127 rfl rfl ?_
        refine r_get (pc' := 131) g dX4_findOwnWay_128 rfl fl_X4_43 lC_40 (eC_40 w _ _) rfl ?_
        refine r_iload_n (pc' := 132) g dX4_findOwnWay_131 rfl rfl ?_
        refine r_iload_n (pc' := 133) g dX4_findOwnWay_132 rfl rfl ?_
        refine r_iast (pc' := 134) g dX4_findOwnWay_133 rfl lC_49 (fun m => eC_49 w m _) ?_
        refine r_ltM (fun M9 => ?_)
        refine r_iinc (pc' := 137) (b := 1) (L' := [rf w 40, .int p1, .null, .int (s + 1), .int x7]) g dX4_findOwnWay_134 rfl rfl rfl n3 rfl rfl ?_
        refine r_goto (tgt := 79) g dX4_findOwnWay_137 rfl ?_
        exact r_weak (Ls2 (Ls2 (Ls1 (Ls2 (Ls1 Ls0))))) (hr (s + 1) M9)
set_option maxHeartbeats 4000000 in
set_option maxRecDepth 100000 in
theorem c_X4_findOwnWay (l : Launch) (w : W0) (N : Nat) (a1 : Int32) (M : Mm) : Ct l KC w 0 yX4_findOwnWay cX4_findOwnWay 5 none [rf w 40, .int a1] M (f_X4_findOwnWay N a1 M) := by
  refine ct_of [rf w 40, .int a1, .null, .null, .null] (by decide) (Nat.le_of_ble_eq_true rfl) rfl (fun Z e1 e2 e3 g => ?_)
  have g : Good KC w Z cX4_findOwnWay RX4 0 := g
  unfold f_X4_findOwnWay
  have n2 : 2 < Z.2.2.1 := by rw [e2]; decide
  have n3 : 3 < Z.2.2.1 := by rw [e2]; decide
  refine r_aload_n (pc' := 1) g dX4_findOwnWay_0 rfl rfl ?_
  refine r_get (pc' := 4) g dX4_findOwnWay_1 rfl fl_X4_40 lC_40 (eC_40 w _ _) rfl ?_
  refine r_iload_n (pc' := 5) g dX4_findOwnWay_4 rfl rfl ?_
  refine r_aload_n (pc' := 6) g dX4_findOwnWay_5 rfl rfl ?_
  refine r_get (pc' := 9) g dX4_findOwnWay_6 rfl fl_X4_46 lC_40 (eC_40 w _ _) rfl ?_
  refine r_get (pc' := 12) g dX4_findOwnWay_9 rfl fl_X4_62 lC_1 (eC_1 w _ _) rfl ?_
  refine r_bipush (pc' := 14) (v := 41) g dX4_findOwnWay_12 rfl rfl ?_
  refine r_ialdc (pc' := 15) g dX4_findOwnWay_14 rfl lC_2 (eC_2 w _ _) rfl ?_
  refine r_iast (pc' := 16) g dX4_findOwnWay_15 rfl lC_48 (fun m => eC_48 w m _) ?_
  refine r_ltM (fun M1 => ?_)
  refine r_aload_n (pc' := 17) g dX4_findOwnWay_16 rfl rfl ?_
  refine r_get (pc' := 20) g dX4_findOwnWay_17 rfl fl_X4_43 lC_40 (eC_40 w _ _) rfl ?_
  refine r_iload_n (pc' := 21) g dX4_findOwnWay_20 rfl rfl ?_
  refine r_bipush (pc' := 23) (v := -2) g dX4_findOwnWay_21 rfl rfl ?_
  refine r_iast (pc' := 24) g dX4_findOwnWay_23 rfl lC_49 (fun m => eC_49 w m _) ?_
  refine r_ltM (fun M2 => ?_)
  refine r_aload_n (pc' := 25) g dX4_findOwnWay_24 rfl rfl ?_
  refine r_get (pc' := 28) g dX4_findOwnWay_25 rfl fl_X4_46 lC_40 (eC_40 w _ _) rfl ?_
  refine r_get (pc' := 31) g dX4_findOwnWay_28 rfl fl_X4_62 lC_1 (eC_1 w _ _) rfl ?_
  refine r_aload_n (pc' := 32) g dX4_findOwnWay_31 rfl rfl ?_
  refine r_get (pc' := 35) g dX4_findOwnWay_32 rfl fl_X4_25 lC_40 (eC_40 w _ _) rfl ?_
  refine r_iload_n (pc' := 36) g dX4_findOwnWay_35 rfl rfl ?_
  refine r_iald (pc' := 37) g dX4_findOwnWay_36 rfl lC_43 (eC_43 w _ _) ?_
  refine r_bipush (pc' := 39) (v := 6) g dX4_findOwnWay_37 rfl rfl ?_
  refine r_imul (pc' := 40) g dX4_findOwnWay_39 rfl ?_
  refine r_iconst (pc' := 41) (v := 3) g dX4_findOwnWay_40 rfl rfl ?_
  refine r_iadd (pc' := 42) g dX4_findOwnWay_41 rfl ?_
  refine r_iald (pc' := 43) g dX4_findOwnWay_42 rfl lC_2 (eC_2 w _ _) ?_
  refine r_ltI (fun x3 => ?_)
  refine r_istore_n (pc' := 44) (L' := [rf w 40, .int a1, .int x3, .null, .null]) g dX4_findOwnWay_43 rfl n2 rfl rfl ?_
  refine r_aload_n (pc' := 45) g dX4_findOwnWay_44 rfl rfl ?_
  refine r_get (pc' := 48) g dX4_findOwnWay_45 rfl fl_X4_31 lC_40 (eC_40 w _ _) rfl ?_
  refine r_iload_n (pc' := 49) g dX4_findOwnWay_48 rfl rfl ?_
  refine r_iald (pc' := 50) g dX4_findOwnWay_49 rfl lC_45 (eC_45 w _ _) ?_
  refine r_jn (pj := 77) (Lj := fun (s4 : Unit) => [rf w 40, .int a1, .null, .null, .null]) (stj := fun (s4 : Unit) => []) (fun s4 M5 => ?_) (fun jn6 hjn6 => ?_)
  · skip
    refine r_iconst (pc' := 78) (v := 0) g dX4_findOwnWay_77 rfl rfl ?_
    refine r_istore_n (pc' := 79) (L' := [rf w 40, .int a1, .null, .int 0, .null]) g dX4_findOwnWay_78 rfl n3 rfl rfl ?_
    refine r_weak (Ls2 (Ls2 (Ls1 (Ls2 (Ls1 Ls0))))) (s_X4_findOwnWay_79 g e2 e3 N a1 _ (fun z10 M11 => ?_) N 0 M5)
    exact r_vret g e3 dX4_findOwnWay_140
  refine r_ifle (pc' := 53) (tgt := 77) g dX4_findOwnWay_50 rfl rfl ?_ ?_
  · skip
    exact r_weak (Ls2 (Ls2 (Ls1 (Ls1 (Ls1 Ls0))))) (hjn6 () M2)
  · skip
    refine r_iload_n (pc' := 54) g dX4_findOwnWay_53 rfl rfl ?_
    refine r_aload_n (pc' := 55) g dX4_findOwnWay_54 rfl rfl ?_
    refine r_get (pc' := 58) g dX4_findOwnWay_55 rfl fl_X4_40 lC_40 (eC_40 w _ _) rfl ?_
    refine r_iload_n (pc' := 59) g dX4_findOwnWay_58 rfl rfl ?_
    refine r_iald (pc' := 60) g dX4_findOwnWay_59 rfl lC_48 (eC_48 w _ _) ?_
    refine r_cge (pc' := 63) (tgt := 77) g dX4_findOwnWay_60 rfl rfl ?_ ?_
    · skip
      exact r_weak (Ls2 (Ls2 (Ls1 (Ls1 (Ls1 Ls0))))) (hjn6 () M2)
    · skip
      refine r_aload_n (pc' := 64) g dX4_findOwnWay_63 rfl rfl ?_
      refine r_get (pc' := 67) g dX4_findOwnWay_64 rfl fl_X4_40 lC_40 (eC_40 w _ _) rfl ?_
      refine r_iload_n (pc' := 68) g dX4_findOwnWay_67 rfl rfl ?_
      refine r_iload_n (pc' := 69) g dX4_findOwnWay_68 rfl rfl ?_
      refine r_iast (pc' := 70) g dX4_findOwnWay_69 rfl lC_48 (fun m => eC_48 w m _) ?_
      refine r_ltM (fun M12 => ?_)
      refine r_aload_n (pc' := 71) g dX4_findOwnWay_70 rfl rfl ?_
      refine r_get (pc' := 74) g dX4_findOwnWay_71 rfl fl_X4_43 lC_40 (eC_40 w _ _) rfl ?_
      refine r_iload_n (pc' := 75) g dX4_findOwnWay_74 rfl rfl ?_
      refine r_iconst (pc' := 76) (v := -1) g dX4_findOwnWay_75 rfl rfl ?_
      refine r_iast (pc' := 77) g dX4_findOwnWay_76 rfl lC_49 (fun m => eC_49 w m _) ?_
      refine r_ltM (fun M13 => ?_)
      exact r_weak (Ls2 (Ls2 (Ls1 (Ls1 (Ls1 Ls0))))) (hjn6 () M13)
def f_X4_roomOf (N : Nat) (a1 : Int32) (M : Mm) : Rs :=
  if inb a1 4 then
  (if (M.1 49 (ix a1)) = (-1) then
    (if inb a1 4 then
    (some (M.1 45 (ix a1), M)) else none)
  else
    (if (M.1 49 (ix a1)) < 0 then
      (some (198, M))
    else
      (if (M.1 49 (ix a1)) < (M.1 40 1) then
        (if inb (M.1 49 (ix a1)) 4 then
        (some (M.1 42 (ix (M.1 49 (ix a1))), M)) else none)
      else
        (some (198, M))))) else none

set_option maxHeartbeats 4000000 in
set_option maxRecDepth 100000 in
theorem c_X4_roomOf (l : Launch) (w : W0) (N : Nat) (a1 : Int32) (M : Mm) : Ct l KC w 0 yX4_roomOf cX4_roomOf 3 (some .int) [rf w 40, .int a1] M (f_X4_roomOf N a1 M) := by
  refine ct_of [rf w 40, .int a1, .null] (by decide) (Nat.le_of_ble_eq_true rfl) rfl (fun Z e1 e2 e3 g => ?_)
  have g : Good KC w Z cX4_roomOf RX4 0 := g
  unfold f_X4_roomOf
  have n2 : 2 < Z.2.2.1 := by rw [e2]; decide
  refine r_aload_n (pc' := 1) g dX4_roomOf_0 rfl rfl ?_
  refine r_get (pc' := 4) g dX4_roomOf_1 rfl fl_X4_43 lC_40 (eC_40 w _ _) rfl ?_
  refine r_iload_n (pc' := 5) g dX4_roomOf_4 rfl rfl ?_
  refine r_iald (pc' := 6) g dX4_roomOf_5 rfl lC_49 (eC_49 w _ _) ?_
  refine r_istore_n (pc' := 7) (L' := [rf w 40, .int a1, .int (M.1 49 (ix a1))]) g dX4_roomOf_6 rfl n2 rfl rfl ?_
  refine r_iload_n (pc' := 8) g dX4_roomOf_7 rfl rfl ?_
  refine r_iconst (pc' := 9) (v := -1) g dX4_roomOf_8 rfl rfl ?_
  refine r_cne (pc' := 12) (tgt := 19) g dX4_roomOf_9 rfl rfl ?_ ?_
  · skip
    refine r_iload_n (pc' := 20) g dX4_roomOf_19 rfl rfl ?_
    refine r_iflt (pc' := 23) (tgt := 40) g dX4_roomOf_20 rfl rfl ?_ ?_
    · skip
      refine r_sipush (pc' := 43) (v := 198) g dX4_roomOf_40 rfl rfl ?_
      exact r_iret g e3 dX4_roomOf_43
    · skip
      refine r_iload_n (pc' := 24) g dX4_roomOf_23 rfl rfl ?_
      refine r_aload_n (pc' := 25) g dX4_roomOf_24 rfl rfl ?_
      refine r_get (pc' := 28) g dX4_roomOf_25 rfl fl_X4_9 lC_40 (eC_40 w _ _) rfl ?_
      refine r_cge (pc' := 31) (tgt := 40) g dX4_roomOf_28 rfl rfl ?_ ?_
      · skip
        refine r_sipush (pc' := 43) (v := 198) g dX4_roomOf_40 rfl rfl ?_
        exact r_iret g e3 dX4_roomOf_43
      · skip
        refine r_aload_n (pc' := 32) g dX4_roomOf_31 rfl rfl ?_
        refine r_get (pc' := 35) g dX4_roomOf_32 rfl fl_X4_19 lC_40 (eC_40 w _ _) rfl ?_
        refine r_iload_n (pc' := 36) g dX4_roomOf_35 rfl rfl ?_
        refine r_iald (pc' := 37) g dX4_roomOf_36 rfl lC_42 (eC_42 w _ _) ?_
        refine r_goto (tgt := 43) g dX4_roomOf_37 rfl ?_
        exact r_iret g e3 dX4_roomOf_43
  · skip
    refine r_aload_n (pc' := 13) g dX4_roomOf_12 rfl rfl ?_
    refine r_get (pc' := 16) g dX4_roomOf_13 rfl fl_X4_31 lC_40 (eC_40 w _ _) rfl ?_
    refine r_iload_n (pc' := 17) g dX4_roomOf_16 rfl rfl ?_
    refine r_iald (pc' := 18) g dX4_roomOf_17 rfl lC_45 (eC_45 w _ _) ?_
    exact r_iret g e3 dX4_roomOf_18
def f_X4_goOwnWay (N : Nat) (a1 : Int32) (a2 : Int32) (M : Mm) : Rs :=
  if inb a1 4 then
  (if (M.1 49 (ix a1)) = (-1) then
    (if inb a1 4 then
    (if inb a1 4 then
    (lt' (wI M 45 (ix a1) ((M.1 45 (ix a1)) - a2)) fun M4 =>
    (some (0, M4))) else none) else none)
  else
    (if (M.1 49 (ix a1)) < 0 then
      (some (0, M))
    else
      (if (M.1 49 (ix a1)) < (M.1 40 1) then
        (if inb (M.1 49 (ix a1)) 4 then
        (if inb (M.1 49 (ix a1)) 4 then
        (lt' (wI M 42 (ix (M.1 49 (ix a1))) ((M.1 42 (ix (M.1 49 (ix a1)))) - a2)) fun M1 =>
        (lt' (((M.1 49 (ix a1)) * 4) + a1) fun x2 =>
        (if inb x2 16 then
        (if inb x2 16 then
        (lt' (wI M1 47 (ix x2) ((M1.1 47 (ix x2)) + a2)) fun M3 =>
        (some (0, M3))) else none) else none))) else none) else none)
      else
        (some (0, M))))) else none

set_option maxHeartbeats 4000000 in
set_option maxRecDepth 100000 in
theorem c_X4_goOwnWay (l : Launch) (w : W0) (N : Nat) (a1 : Int32) (a2 : Int32) (M : Mm) : Ct l KC w 0 yX4_goOwnWay cX4_goOwnWay 4 none [rf w 40, .int a1, .int a2] M (f_X4_goOwnWay N a1 a2 M) := by
  refine ct_of [rf w 40, .int a1, .int a2, .null] (by decide) (Nat.le_of_ble_eq_true rfl) rfl (fun Z e1 e2 e3 g => ?_)
  have g : Good KC w Z cX4_goOwnWay RX4 0 := g
  unfold f_X4_goOwnWay
  have n3 : 3 < Z.2.2.1 := by rw [e2]; decide
  refine r_aload_n (pc' := 1) g dX4_goOwnWay_0 rfl rfl ?_
  refine r_get (pc' := 4) g dX4_goOwnWay_1 rfl fl_X4_43 lC_40 (eC_40 w _ _) rfl ?_
  refine r_iload_n (pc' := 5) g dX4_goOwnWay_4 rfl rfl ?_
  refine r_iald (pc' := 6) g dX4_goOwnWay_5 rfl lC_49 (eC_49 w _ _) ?_
  refine r_istore_n (pc' := 7) (L' := [rf w 40, .int a1, .int a2, .int (M.1 49 (ix a1))]) g dX4_goOwnWay_6 rfl n3 rfl rfl ?_
  refine r_iload_n (pc' := 8) g dX4_goOwnWay_7 rfl rfl ?_
  refine r_iconst (pc' := 9) (v := -1) g dX4_goOwnWay_8 rfl rfl ?_
  refine r_cne (pc' := 12) (tgt := 25) g dX4_goOwnWay_9 rfl rfl ?_ ?_
  · skip
    refine r_iload_n (pc' := 26) g dX4_goOwnWay_25 rfl rfl ?_
    refine r_iflt (pc' := 29) (tgt := 61) g dX4_goOwnWay_26 rfl rfl ?_ ?_
    · skip
      exact r_vret g e3 dX4_goOwnWay_61
    · skip
      refine r_iload_n (pc' := 30) g dX4_goOwnWay_29 rfl rfl ?_
      refine r_aload_n (pc' := 31) g dX4_goOwnWay_30 rfl rfl ?_
      refine r_get (pc' := 34) g dX4_goOwnWay_31 rfl fl_X4_9 lC_40 (eC_40 w _ _) rfl ?_
      refine r_cge (pc' := 37) (tgt := 61) g dX4_goOwnWay_34 rfl rfl ?_ ?_
      · skip
        exact r_vret g e3 dX4_goOwnWay_61
      · skip
        refine r_aload_n (pc' := 38) g dX4_goOwnWay_37 rfl rfl ?_
        refine r_get (pc' := 41) g dX4_goOwnWay_38 rfl fl_X4_19 lC_40 (eC_40 w _ _) rfl ?_
        refine r_iload_n (pc' := 42) g dX4_goOwnWay_41 rfl rfl ?_
        refine r_dup2 (pc' := 43) g dX4_goOwnWay_42 rfl ?_
        refine r_iald (pc' := 44) g dX4_goOwnWay_43 rfl lC_42 (eC_42 w _ _) ?_
        refine r_iload_n (pc' := 45) g dX4_goOwnWay_44 rfl rfl ?_
        refine r_isub (pc' := 46) g dX4_goOwnWay_45 rfl ?_
        refine r_iast (pc' := 47) g dX4_goOwnWay_46 rfl lC_42 (fun m => eC_42 w m _) ?_
        refine r_ltM (fun M1 => ?_)
        refine r_aload_n (pc' := 48) g dX4_goOwnWay_47 rfl rfl ?_
        refine r_get (pc' := 51) g dX4_goOwnWay_48 rfl fl_X4_37 lC_40 (eC_40 w _ _) rfl ?_
        refine r_iload_n (pc' := 52) g dX4_goOwnWay_51 rfl rfl ?_
        refine r_iconst (pc' := 53) (v := 4) g dX4_goOwnWay_52 rfl rfl ?_
        refine r_imul (pc' := 54) g dX4_goOwnWay_53 rfl ?_
        refine r_iload_n (pc' := 55) g dX4_goOwnWay_54 rfl rfl ?_
        refine r_iadd (pc' := 56) g dX4_goOwnWay_55 rfl ?_
        refine r_ltI (fun x2 => ?_)
        refine r_dup2 (pc' := 57) g dX4_goOwnWay_56 rfl ?_
        refine r_iald (pc' := 58) g dX4_goOwnWay_57 rfl lC_47 (eC_47 w _ _) ?_
        refine r_iload_n (pc' := 59) g dX4_goOwnWay_58 rfl rfl ?_
        refine r_iadd (pc' := 60) g dX4_goOwnWay_59 rfl ?_
        refine r_iast (pc' := 61) g dX4_goOwnWay_60 rfl lC_47 (fun m => eC_47 w m _) ?_
        refine r_ltM (fun M3 => ?_)
        exact r_vret g e3 dX4_goOwnWay_61
  · skip
    refine r_aload_n (pc' := 13) g dX4_goOwnWay_12 rfl rfl ?_
    refine r_get (pc' := 16) g dX4_goOwnWay_13 rfl fl_X4_31 lC_40 (eC_40 w _ _) rfl ?_
    refine r_iload_n (pc' := 17) g dX4_goOwnWay_16 rfl rfl ?_
    refine r_dup2 (pc' := 18) g dX4_goOwnWay_17 rfl ?_
    refine r_iald (pc' := 19) g dX4_goOwnWay_18 rfl lC_45 (eC_45 w _ _) ?_
    refine r_iload_n (pc' := 20) g dX4_goOwnWay_19 rfl rfl ?_
    refine r_isub (pc' := 21) g dX4_goOwnWay_20 rfl ?_
    refine r_iast (pc' := 22) g dX4_goOwnWay_21 rfl lC_45 (fun m => eC_45 w m _) ?_
    refine r_ltM (fun M4 => ?_)
    refine r_goto (tgt := 61) g dX4_goOwnWay_22 rfl ?_
    exact r_vret g e3 dX4_goOwnWay_61
def B_X4_serve_27 (N : Nat) (p1 : Int32) (p5 : Int32) (G : (Int32 × Int32 × Int32) → Mm → Rs) (rec : (Int32 × Int32 × Int32 × Int32) → Mm → Rs) (s : Int32 × Int32 × Int32 × Int32) (M : Mm) : Rs :=
  if s.2.2.2 < p1 then
      (if inb s.2.2.2 4 then
      (if inb ((p5 * 4) + s.2.2.2) 16 then
      (if inb ((p5 * 4) + p1) 16 then
      (lt' (((M.1 48 (ix s.2.2.2)) - (M.1 46 (ix ((p5 * 4) + s.2.2.2)))) + (M.1 46 (ix ((p5 * 4) + p1)))) fun x1 =>
      (if inb ((p5 * 4) + s.2.2.2) 16 then
      (if 0 < (M.1 47 (ix ((p5 * 4) + s.2.2.2))) then
        (if x1 < s.1 then
          (rec (x1, s.2.2.2, p5, s.2.2.2 + 1) M)
        else
          (rec (s.1, s.2.1, s.2.2.1, s.2.2.2 + 1) M))
      else
        (rec (s.1, s.2.1, s.2.2.1, s.2.2.2 + 1) M)) else none)) else none) else none) else none)
    else
      (G (s.1, s.2.1, s.2.2.1) M)

def B_X4_serve_15 (N : Nat) (p1 : Int32) (G : (Int32 × Int32 × Int32) → Mm → Rs) (rec : (Int32 × Int32 × Int32 × Int32) → Mm → Rs) (s : Int32 × Int32 × Int32 × Int32) (M : Mm) : Rs :=
  if s.2.2.2 < (M.1 40 1) then
      (itr (B_X4_serve_27 N p1 s.2.2.2 fun z2 M3 =>
      (rec (z2.1, z2.2.1, z2.2.2, s.2.2.2 + 1) M3)) N (s.1, s.2.1, s.2.2.1, 0) M)
    else
      (G (s.1, s.2.1, s.2.2.1) M)

def f_X4_serve (N : Nat) (a1 : Int32) (M : Mm) : Rs :=
  if inb a1 4 then
  (itr (B_X4_serve_15 N a1 fun z4 M5 =>
  (if inb a1 4 then
  (bd (f_X4_roomOf N z4.2.1 M5) fun r6 M7 =>
  (lt' (if r6 < (M5.1 44 (ix a1)) then r6 else (M5.1 44 (ix a1))) fun x8 =>
  (lt' (fun (s9 : Int32) (M10 : Mm) =>
    ((bd (f_X4_goOwnWay N z4.2.1 s9 M10) fun r12 M13 =>
    (if inb a1 4 then
    (if inb a1 4 then
    (lt' (wI M13 44 (ix a1) ((M13.1 44 (ix a1)) - s9)) fun M14 =>
    (some (s9 * z4.1, M14))) else none) else none)) : Rs)) fun jn11 =>
  (if z4.2.1 = a1 then
    (jn11 x8 M7)
  else
    (if inb ((z4.2.2 * 4) + z4.2.1) 16 then
    (lt' (if (M7.1 47 (ix ((z4.2.2 * 4) + z4.2.1))) < x8 then (M7.1 47 (ix ((z4.2.2 * 4) + z4.2.1))) else x8) fun x15 =>
    (lt' ((z4.2.2 * 4) + z4.2.1) fun x16 =>
    (if inb x16 16 then
    (if inb x16 16 then
    (lt' (wI M7 47 (ix x16) ((M7.1 47 (ix x16)) - x15)) fun M17 =>
    (lt' ((z4.2.2 * 4) + a1) fun x18 =>
    (if inb x18 16 then
    (if inb x18 16 then
    (lt' (wI M17 47 (ix x18) ((M17.1 47 (ix x18)) + x15)) fun M19 =>
    (jn11 x15 M19)) else none) else none))) else none) else none))) else none))))) else none)) N (M.1 48 (ix a1), a1, 0, 0) M) else none

set_option maxHeartbeats 4000000 in
set_option maxRecDepth 100000 in
theorem s_X4_serve_27 {w : W0} {Z : Zx} (g : Good KC w Z cX4_serve RX4 1) (e2 : Z.2.2.1 = 8) (e3 : Z.2.2.2 = (some .int)) (N : Nat) (p1 : Int32) (p5 : Int32) (G : (Int32 × Int32 × Int32) → Mm → Rs) (kG : ∀ (x : Int32 × Int32 × Int32) (M : Mm), Sim KC w Z 104 [rf w 40, .int p1, .int x.1, .int x.2.1, .int x.2.2, .int p5, .null, .null] [] M (G x M)) : ∀ (n : Nat) (s : Int32 × Int32 × Int32 × Int32) (M : Mm), Sim KC w Z 27 [rf w 40, .int p1, .int s.1, .int s.2.1, .int s.2.2.1, .int p5, .int s.2.2.2, .null] [] M (itr (B_X4_serve_27 N p1 p5 G) n s M) := by
  have n2 : 2 < Z.2.2.1 := by rw [e2]; decide
  have n3 : 3 < Z.2.2.1 := by rw [e2]; decide
  have n4 : 4 < Z.2.2.1 := by rw [e2]; decide
  have n6 : 6 < Z.2.2.1 := by rw [e2]; decide
  have n7 : 7 < Z.2.2.1 := by rw [e2]; decide
  refine r_itr (Lf := fun (s : Int32 × Int32 × Int32 × Int32) => [rf w 40, .int p1, .int s.1, .int s.2.1, .int s.2.2.1, .int p5, .int s.2.2.2, .null]) (fun rec hr s M => ?_)
  unfold B_X4_serve_27
  refine r_iload (pc' := 29) g dX4_serve_27 rfl rfl ?_
  refine r_iload_n (pc' := 30) g dX4_serve_29 rfl rfl ?_
  refine r_cge (pc' := 33) (tgt := 104) g dX4_serve_30 rfl rfl ?_ ?_
  · skip
    exact r_weak (Ls2 (Ls2 (Ls2 (Ls2 (Ls2 (Ls2 (Ls1 (Ls1 Ls0)))))))) (kG (s.1, s.2.1, s.2.2.1) M)
  · skip
    refine r_aload_n (pc' := 34) g dX4_serve_33 rfl rfl ?_
    refine r_get (pc' := 37) g dX4_serve_34 rfl fl_X4_40 lC_40 (eC_40 w _ _) rfl ?_
    refine r_iload (pc' := 39) g dX4_serve_37 rfl rfl ?_
    refine r_iald (pc' := 40) g dX4_serve_39 rfl lC_48 (eC_48 w _ _) ?_
    refine r_aload_n (pc' := 41) g dX4_serve_40 rfl rfl ?_
    refine r_get (pc' := 44) g dX4_serve_41 rfl fl_X4_34 lC_40 (eC_40 w _ _) rfl ?_
    refine r_iload (pc' := 46) g dX4_serve_44 rfl rfl ?_
    refine r_iconst (pc' := 47) (v := 4) g dX4_serve_46 rfl rfl ?_
    refine r_imul (pc' := 48) g dX4_serve_47 rfl ?_
    refine r_iload (pc' := 50) g dX4_serve_48 rfl rfl ?_
    refine r_iadd (pc' := 51) g dX4_serve_50 rfl ?_
    refine r_iald (pc' := 52) g dX4_serve_51 rfl lC_46 (eC_46 w _ _) ?_
    refine r_isub (pc' := 53) g dX4_serve_52 rfl ?_
    refine r_aload_n (pc' := 54) g dX4_serve_53 rfl rfl ?_
    refine r_get (pc' := 57) g dX4_serve_54 rfl fl_X4_34 lC_40 (eC_40 w _ _) rfl ?_
    refine r_iload (pc' := 59) g dX4_serve_57 rfl rfl ?_
    refine r_iconst (pc' := 60) (v := 4) g dX4_serve_59 rfl rfl ?_
    refine r_imul (pc' := 61) g dX4_serve_60 rfl ?_
    refine r_iload_n (pc' := 62) g dX4_serve_61 rfl rfl ?_
    refine r_iadd (pc' := 63) g dX4_serve_62 rfl ?_
    refine r_iald (pc' := 64) g dX4_serve_63 rfl lC_46 (eC_46 w _ _) ?_
    refine r_iadd (pc' := 65) g dX4_serve_64 rfl ?_
    refine r_ltI (fun x1 => ?_)
    refine r_istore (pc' := 67) (L' := [rf w 40, .int p1, .int s.1, .int s.2.1, .int s.2.2.1, .int p5, .int s.2.2.2, .int x1]) g dX4_serve_65 rfl n7 rfl rfl ?_
    refine r_aload_n (pc' := 68) g dX4_serve_67 rfl rfl ?_
    refine r_get (pc' := 71) g dX4_serve_68 rfl fl_X4_37 lC_40 (eC_40 w _ _) rfl ?_
    refine r_iload (pc' := 73) g dX4_serve_71 rfl rfl ?_
    refine r_iconst (pc' := 74) (v := 4) g dX4_serve_73 rfl rfl ?_
    refine r_imul (pc' := 75) g dX4_serve_74 rfl ?_
    refine r_iload (pc' := 77) g dX4_serve_75 rfl rfl ?_
    refine r_iadd (pc' := 78) g dX4_serve_77 rfl ?_
    refine r_iald (pc' := 79) g dX4_serve_78 rfl lC_47 (eC_47 w _ _) ?_
    refine r_ifle (pc' := 82) (tgt := 98) g dX4_serve_79 rfl rfl ?_ ?_
    · skip
      refine r_iinc (pc' := 101) (b := 1) (L' := [rf w 40, .int p1, .int s.1, .int s.2.1, .int s.2.2.1, .int p5, .int (s.2.2.2 + 1), .int x1]) g dX4_serve_98 rfl rfl rfl n6 rfl rfl ?_
      refine r_goto (tgt := 27) g dX4_serve_101 rfl ?_
      exact r_weak (Ls2 (Ls2 (Ls2 (Ls2 (Ls2 (Ls2 (Ls2 (Ls1 Ls0)))))))) (hr (s.1, s.2.1, s.2.2.1, s.2.2.2 + 1) M)
    · skip
      refine r_iload (pc' := 84) g dX4_serve_82 rfl rfl ?_
      refine r_iload_n (pc' := 85) g dX4_serve_84 rfl rfl ?_
      refine r_cge (pc' := 88) (tgt := 98) g dX4_serve_85 rfl rfl ?_ ?_
      · skip
        refine r_iinc (pc' := 101) (b := 1) (L' := [rf w 40, .int p1, .int s.1, .int s.2.1, .int s.2.2.1, .int p5, .int (s.2.2.2 + 1), .int x1]) g dX4_serve_98 rfl rfl rfl n6 rfl rfl ?_
        refine r_goto (tgt := 27) g dX4_serve_101 rfl ?_
        exact r_weak (Ls2 (Ls2 (Ls2 (Ls2 (Ls2 (Ls2 (Ls2 (Ls1 Ls0)))))))) (hr (s.1, s.2.1, s.2.2.1, s.2.2.2 + 1) M)
      · skip
        refine r_iload (pc' := 90) g dX4_serve_88 rfl rfl ?_
        refine r_istore_n (pc' := 91) (L' := [rf w 40, .int p1, .int x1, .int s.2.1, .int s.2.2.1, .int p5, .int s.2.2.2, .int x1]) g dX4_serve_90 rfl n2 rfl rfl ?_
        refine r_iload (pc' := 93) g dX4_serve_91 rfl rfl ?_
        refine r_istore_n (pc' := 94) (L' := [rf w 40, .int p1, .int x1, .int s.2.2.2, .int s.2.2.1, .int p5, .int s.2.2.2, .int x1]) g dX4_serve_93 rfl n3 rfl rfl ?_
        refine r_iload (pc' := 96) g dX4_serve_94 rfl rfl ?_
        refine r_istore (pc' := 98) (L' := [rf w 40, .int p1, .int x1, .int s.2.2.2, .int p5, .int p5, .int s.2.2.2, .int x1]) g dX4_serve_96 rfl n4 rfl rfl ?_
        refine r_iinc (pc' := 101) (b := 1) (L' := [rf w 40, .int p1, .int x1, .int s.2.2.2, .int p5, .int p5, .int (s.2.2.2 + 1), .int x1]) g dX4_serve_98 rfl rfl rfl n6 rfl rfl ?_
        refine r_goto (tgt := 27) g dX4_serve_101 rfl ?_
        exact r_weak (Ls2 (Ls2 (Ls2 (Ls2 (Ls2 (Ls2 (Ls2 (Ls1 Ls0)))))))) (hr (x1, s.2.2.2, p5, s.2.2.2 + 1) M)
set_option maxHeartbeats 4000000 in
set_option maxRecDepth 100000 in
theorem s_X4_serve_15 {w : W0} {Z : Zx} (g : Good KC w Z cX4_serve RX4 1) (e2 : Z.2.2.1 = 8) (e3 : Z.2.2.2 = (some .int)) (N : Nat) (p1 : Int32) (G : (Int32 × Int32 × Int32) → Mm → Rs) (kG : ∀ (x : Int32 × Int32 × Int32) (M : Mm), Sim KC w Z 110 [rf w 40, .int p1, .int x.1, .int x.2.1, .int x.2.2, .null, .null, .null] [] M (G x M)) : ∀ (n : Nat) (s : Int32 × Int32 × Int32 × Int32) (M : Mm), Sim KC w Z 15 [rf w 40, .int p1, .int s.1, .int s.2.1, .int s.2.2.1, .int s.2.2.2, .null, .null] [] M (itr (B_X4_serve_15 N p1 G) n s M) := by
  have n5 : 5 < Z.2.2.1 := by rw [e2]; decide
  have n6 : 6 < Z.2.2.1 := by rw [e2]; decide
  refine r_itr (Lf := fun (s : Int32 × Int32 × Int32 × Int32) => [rf w 40, .int p1, .int s.1, .int s.2.1, .int s.2.2.1, .int s.2.2.2, .null, .null]) (fun rec hr s M => ?_)
  unfold B_X4_serve_15
  refine r_iload (pc' := 17) g dX4_serve_15 rfl rfl ?_
  refine r_aload_n (pc' := 18) g dX4_serve_17 rfl rfl ?_
  refine r_get (pc' := 21) g dX4_serve_18 rfl fl_X4_9 lC_40 (eC_40 w _ _) rfl ?_
  refine r_cge (pc' := 24) (tgt := 110) g dX4_serve_21 rfl rfl ?_ ?_
  · skip
    exact r_weak (Ls2 (Ls2 (Ls2 (Ls2 (Ls2 (Ls1 (Ls1 (Ls1 Ls0)))))))) (kG (s.1, s.2.1, s.2.2.1) M)
  · skip
    refine r_iconst (pc' := 25) (v := 0) g dX4_serve_24 rfl rfl ?_
    refine r_istore (pc' := 27) (L' := [rf w 40, .int p1, .int s.1, .int s.2.1, .int s.2.2.1, .int s.2.2.2, .int 0, .null]) g dX4_serve_25 rfl n6 rfl rfl ?_
    refine r_weak (Ls2 (Ls2 (Ls2 (Ls2 (Ls2 (Ls2 (Ls2 (Ls1 Ls0)))))))) (s_X4_serve_27 g e2 e3 N p1 s.2.2.2 _ (fun z2 M3 => ?_) N (s.1, s.2.1, s.2.2.1, 0) M)
    refine r_iinc (pc' := 107) (b := 1) (L' := [rf w 40, .int p1, .int z2.1, .int z2.2.1, .int z2.2.2, .int (s.2.2.2 + 1), .null, .null]) g dX4_serve_104 rfl rfl rfl n5 rfl rfl ?_
    refine r_goto (tgt := 15) g dX4_serve_107 rfl ?_
    exact r_weak (Ls2 (Ls2 (Ls2 (Ls2 (Ls2 (Ls2 (Ls1 (Ls1 Ls0)))))))) (hr (z2.1, z2.2.1, z2.2.2, s.2.2.2 + 1) M3)
set_option maxHeartbeats 4000000 in
set_option maxRecDepth 100000 in
theorem c_X4_serve (l : Launch) (w : W0) (N : Nat) (a1 : Int32) (M : Mm) : Ct l KC w 1 yX4_serve cX4_serve 8 (some .int) [rf w 40, .int a1] M (f_X4_serve N a1 M) := by
  refine ct_of [rf w 40, .int a1, .null, .null, .null, .null, .null, .null] (by decide) (Nat.le_of_ble_eq_true rfl) rfl (fun Z e1 e2 e3 g => ?_)
  have g : Good KC w Z cX4_serve RX4 1 := g
  unfold f_X4_serve
  have n2 : 2 < Z.2.2.1 := by rw [e2]; decide
  have n3 : 3 < Z.2.2.1 := by rw [e2]; decide
  have n4 : 4 < Z.2.2.1 := by rw [e2]; decide
  have n5 : 5 < Z.2.2.1 := by rw [e2]; decide
  refine r_aload_n (pc' := 1) g dX4_serve_0 rfl rfl ?_
  refine r_get (pc' := 4) g dX4_serve_1 rfl fl_X4_40 lC_40 (eC_40 w _ _) rfl ?_
  refine r_iload_n (pc' := 5) g dX4_serve_4 rfl rfl ?_
  refine r_iald (pc' := 6) g dX4_serve_5 rfl lC_48 (eC_48 w _ _) ?_
  refine r_istore_n (pc' := 7) (L' := [rf w 40, .int a1, .int (M.1 48 (ix a1)), .null, .null, .null, .null, .null]) g dX4_serve_6 rfl n2 rfl rfl ?_
  refine r_iload_n (pc' := 8) g dX4_serve_7 rfl rfl ?_
  refine r_istore_n (pc' := 9) (L' := [rf w 40, .int a1, .int (M.1 48 (ix a1)), .int a1, .null, .null, .null, .null]) g dX4_serve_8 rfl n3 rfl rfl ?_
  refine r_iconst (pc' := 10) (v := 0) g dX4_serve_9 rfl rfl ?_
  refine r_istore (pc' := 12) (L' := [rf w 40, .int a1, .int (M.1 48 (ix a1)), .int a1, .int 0, .null, .null, .null]) g dX4_serve_10 rfl n4 rfl rfl ?_
  refine r_iconst (pc' := 13) (v := 0) g dX4_serve_12 rfl rfl ?_
  refine r_istore (pc' := 15) (L' := [rf w 40, .int a1, .int (M.1 48 (ix a1)), .int a1, .int 0, .int 0, .null, .null]) g dX4_serve_13 rfl n5 rfl rfl ?_
  refine r_weak (Ls2 (Ls2 (Ls2 (Ls2 (Ls2 (Ls2 (Ls1 (Ls1 Ls0)))))))) (s_X4_serve_15 g e2 e3 N a1 _ (fun z4 M5 => ?_) N (M.1 48 (ix a1), a1, 0, 0) M)
  refine r_aload_n (pc' := 111) g dX4_serve_110 rfl rfl ?_
  refine r_get (pc' := 114) g dX4_serve_111 rfl fl_X4_28 lC_40 (eC_40 w _ _) rfl ?_
  refine r_iload_n (pc' := 115) g dX4_serve_114 rfl rfl ?_
  refine r_iald (pc' := 116) g dX4_serve_115 rfl lC_44 (eC_44 w _ _) ?_
  refine r_aload_n (pc' := 117) g dX4_serve_116 rfl rfl ?_
  refine r_iload_n (pc' := 118) g dX4_serve_117 rfl rfl ?_
  refine r_callVi (pc' := 121) (As := [.int z4.2.1]) (rest := [.int (M5.1 44 (ix a1))]) g dX4_serve_118 rfl ml_X4_73 mw_X4_roomOf mv_X4_roomOf (Nat.le_of_ble_eq_true rfl) (c_X4_roomOf _ w N z4.2.1 M5) rfl lC_40 (eC_40 w _ _) rfl rfl (Nat.le_of_ble_eq_true rfl) (fun r6 M7 => ?_)
  refine r_min (pc' := 124) g dX4_serve_121 rfl mm_X4_76 mm_min_s mm_i mm_min_c (Nat.le_of_ble_eq_true rfl) ?_
  refine r_ltI (fun x8 => ?_)
  refine r_istore (pc' := 126) (L' := [rf w 40, .int a1, .int z4.1, .int z4.2.1, .int z4.2.2, .int x8, .null, .null]) g dX4_serve_124 rfl n5 rfl rfl ?_
  refine r_iload_n (pc' := 127) g dX4_serve_126 rfl rfl ?_
  refine r_iload_n (pc' := 128) g dX4_serve_127 rfl rfl ?_
  refine r_jn (pj := 181) (Lj := fun (s9 : Int32) => [rf w 40, .int a1, .int z4.1, .int z4.2.1, .null, .int s9, .null, .null]) (stj := fun (s9 : Int32) => []) (fun s9 M10 => ?_) (fun jn11 hjn11 => ?_)
  · skip
    refine r_aload_n (pc' := 182) g dX4_serve_181 rfl rfl ?_
    refine r_iload_n (pc' := 183) g dX4_serve_182 rfl rfl ?_
    refine r_iload (pc' := 185) g dX4_serve_183 rfl rfl ?_
    refine r_callVv (pc' := 188) (As := [.int z4.2.1, .int s9]) (rest := []) g dX4_serve_185 rfl ml_X4_82 mw_X4_goOwnWay mv_X4_goOwnWay (Nat.le_of_ble_eq_true rfl) (c_X4_goOwnWay _ w N z4.2.1 s9 M10) rfl lC_40 (eC_40 w _ _) rfl rfl (Nat.le_of_ble_eq_true rfl) (fun r12 M13 => ?_)
    refine r_aload_n (pc' := 189) g dX4_serve_188 rfl rfl ?_
    refine r_get (pc' := 192) g dX4_serve_189 rfl fl_X4_28 lC_40 (eC_40 w _ _) rfl ?_
    refine r_iload_n (pc' := 193) g dX4_serve_192 rfl rfl ?_
    refine r_dup2 (pc' := 194) g dX4_serve_193 rfl ?_
    refine r_iald (pc' := 195) g dX4_serve_194 rfl lC_44 (eC_44 w _ _) ?_
    refine r_iload (pc' := 197) g dX4_serve_195 rfl rfl ?_
    refine r_isub (pc' := 198) g dX4_serve_197 rfl ?_
    refine r_iast (pc' := 199) g dX4_serve_198 rfl lC_44 (fun m => eC_44 w m _) ?_
    refine r_ltM (fun M14 => ?_)
    refine r_iload (pc' := 201) g dX4_serve_199 rfl rfl ?_
    refine r_iload_n (pc' := 202) g dX4_serve_201 rfl rfl ?_
    refine r_imul (pc' := 203) g dX4_serve_202 rfl ?_
    exact r_iret g e3 dX4_serve_203
  refine r_ceq (pc' := 131) (tgt := 181) g dX4_serve_128 rfl rfl ?_ ?_
  · skip
    exact r_weak (Ls2 (Ls2 (Ls2 (Ls2 (Ls1 (Ls2 (Ls1 (Ls1 Ls0)))))))) (hjn11 x8 M7)
  · skip
    refine r_iload (pc' := 133) g dX4_serve_131 rfl rfl ?_
    refine r_aload_n (pc' := 134) g dX4_serve_133 rfl rfl ?_
    refine r_get (pc' := 137) g dX4_serve_134 rfl fl_X4_37 lC_40 (eC_40 w _ _) rfl ?_
    refine r_iload (pc' := 139) g dX4_serve_137 rfl rfl ?_
    refine r_iconst (pc' := 140) (v := 4) g dX4_serve_139 rfl rfl ?_
    refine r_imul (pc' := 141) g dX4_serve_140 rfl ?_
    refine r_iload_n (pc' := 142) g dX4_serve_141 rfl rfl ?_
    refine r_iadd (pc' := 143) g dX4_serve_142 rfl ?_
    refine r_iald (pc' := 144) g dX4_serve_143 rfl lC_47 (eC_47 w _ _) ?_
    refine r_min (pc' := 147) g dX4_serve_144 rfl mm_X4_76 mm_min_s mm_i mm_min_c (Nat.le_of_ble_eq_true rfl) ?_
    refine r_ltI (fun x15 => ?_)
    refine r_istore (pc' := 149) (L' := [rf w 40, .int a1, .int z4.1, .int z4.2.1, .int z4.2.2, .int x15, .null, .null]) g dX4_serve_147 rfl n5 rfl rfl ?_
    refine r_aload_n (pc' := 150) g dX4_serve_149 rfl rfl ?_
    refine r_get (pc' := 153) g dX4_serve_150 rfl fl_X4_37 lC_40 (eC_40 w _ _) rfl ?_
    refine r_iload (pc' := 155) g dX4_serve_153 rfl rfl ?_
    refine r_iconst (pc' := 156) (v := 4) g dX4_serve_155 rfl rfl ?_
    refine r_imul (pc' := 157) g dX4_serve_156 rfl ?_
    refine r_iload_n (pc' := 158) g dX4_serve_157 rfl rfl ?_
    refine r_iadd (pc' := 159) g dX4_serve_158 rfl ?_
    refine r_ltI (fun x16 => ?_)
    refine r_dup2 (pc' := 160) g dX4_serve_159 rfl ?_
    refine r_iald (pc' := 161) g dX4_serve_160 rfl lC_47 (eC_47 w _ _) ?_
    refine r_iload (pc' := 163) g dX4_serve_161 rfl rfl ?_
    refine r_isub (pc' := 164) g dX4_serve_163 rfl ?_
    refine r_iast (pc' := 165) g dX4_serve_164 rfl lC_47 (fun m => eC_47 w m _) ?_
    refine r_ltM (fun M17 => ?_)
    refine r_aload_n (pc' := 166) g dX4_serve_165 rfl rfl ?_
    refine r_get (pc' := 169) g dX4_serve_166 rfl fl_X4_37 lC_40 (eC_40 w _ _) rfl ?_
    refine r_iload (pc' := 171) g dX4_serve_169 rfl rfl ?_
    refine r_iconst (pc' := 172) (v := 4) g dX4_serve_171 rfl rfl ?_
    refine r_imul (pc' := 173) g dX4_serve_172 rfl ?_
    refine r_iload_n (pc' := 174) g dX4_serve_173 rfl rfl ?_
    refine r_iadd (pc' := 175) g dX4_serve_174 rfl ?_
    refine r_ltI (fun x18 => ?_)
    refine r_dup2 (pc' := 176) g dX4_serve_175 rfl ?_
    refine r_iald (pc' := 177) g dX4_serve_176 rfl lC_47 (eC_47 w _ _) ?_
    refine r_iload (pc' := 179) g dX4_serve_177 rfl rfl ?_
    refine r_iadd (pc' := 180) g dX4_serve_179 rfl ?_
    refine r_iast (pc' := 181) g dX4_serve_180 rfl lC_47 (fun m => eC_47 w m _) ?_
    refine r_ltM (fun M19 => ?_)
    exact r_weak (Ls2 (Ls2 (Ls2 (Ls2 (Ls1 (Ls2 (Ls1 (Ls1 Ls0)))))))) (hjn11 x15 M19)
def B_X4_leastLater_33 (N : Nat) (p1 : Int32) (p2 : Int32) (p3 : Int32) (G : Unit → Mm → Rs) (rec : Int32 → Mm → Rs) (s : Int32) (M : Mm) : Rs :=
  if p2 < s then
      (G () M)
    else
      (bd (f_X4_findOwnWay N s M) fun r1 M2 =>
      (rec (s + 1) M2))

def B_X4_leastLater_14 (N : Nat) (p2 : Int32) (G : Int32 → Mm → Rs) (rec : (Int32 × Int32) → Mm → Rs) (s : Int32 × Int32) (M : Mm) : Rs :=
  if s.2 < 198 then
      (if inb p2 4 then
      (if 0 < (M.1 44 (ix p2)) then
        (itr (B_X4_leastLater_33 N s.1 p2 s.2 fun z3 M4 =>
        (bd (f_X4_serve N p2 M4) fun r5 M6 =>
        (lt' (s.1 + r5) fun x7 =>
        (rec (x7, s.2 + 1) M6)))) N 0 M)
      else
        (G s.1 M)) else none)
    else
      (G s.1 M)

def B_X4_leastLater_4 (N : Nat) (G : Int32 → Mm → Rs) (rec : (Int32 × Int32) → Mm → Rs) (s : Int32 × Int32) (M : Mm) : Rs :=
  if s.2 < (M.1 40 4) then
      (itr (B_X4_leastLater_14 N s.2 fun z8 M9 =>
      (rec (z8, s.2 + 1) M9)) N (s.1, 0) M)
    else
      (G s.1 M)

def f_X4_leastLater (N : Nat) (M : Mm) : Rs :=
  itr (B_X4_leastLater_4 N fun z10 M11 =>
  (some (z10, M11))) N (0, 0) M

set_option maxHeartbeats 4000000 in
set_option maxRecDepth 100000 in
theorem s_X4_leastLater_33 {w : W0} {Z : Zx} (g : Good KC w Z cX4_leastLater RX4 2) (e2 : Z.2.2.1 = 5) (e3 : Z.2.2.2 = (some .int)) (N : Nat) (p1 : Int32) (p2 : Int32) (p3 : Int32) (G : Unit → Mm → Rs) (kG : ∀ (x : Unit) (M : Mm), Sim KC w Z 51 [rf w 40, .int p1, .int p2, .int p3, .null] [] M (G x M)) : ∀ (n : Nat) (s : Int32) (M : Mm), Sim KC w Z 33 [rf w 40, .int p1, .int p2, .int p3, .int s] [] M (itr (B_X4_leastLater_33 N p1 p2 p3 G) n s M) := by
  have n4 : 4 < Z.2.2.1 := by rw [e2]; decide
  refine r_itr (Lf := fun (s : Int32) => [rf w 40, .int p1, .int p2, .int p3, .int s]) (fun rec hr s M => ?_)
  unfold B_X4_leastLater_33
  refine r_iload (pc' := 35) g dX4_leastLater_33 rfl rfl ?_
  refine r_iload_n (pc' := 36) g dX4_leastLater_35 rfl rfl ?_
  refine r_cgt (pc' := 39) (tgt := 51) g dX4_leastLater_36 rfl rfl ?_ ?_
  · skip
    exact r_weak (Ls2 (Ls2 (Ls2 (Ls2 (Ls1 Ls0))))) (kG () M)
  · skip
    refine r_aload_n (pc' := 40) g dX4_leastLater_39 rfl rfl ?_
    refine r_iload (pc' := 42) g dX4_leastLater_40 rfl rfl ?_
    refine r_callVv (pc' := 45) (As := [.int s]) (rest := []) g dX4_leastLater_42 rfl ml_X4_65 mw_X4_findOwnWay mv_X4_findOwnWay (Nat.le_of_ble_eq_true rfl) (c_X4_findOwnWay _ w N s M) rfl lC_40 (eC_40 w _ _) rfl rfl (Nat.le_of_ble_eq_true rfl) (fun r1 M2 => ?_)
    refine r_iinc (pc' := 48) (b := 1) (L' := [rf w 40, .int p1, .int p2, .int p3, .int (s + 1)]) g dX4_leastLater_45 rfl rfl rfl n4 rfl rfl ?_
    refine r_goto (tgt := 33) g dX4_leastLater_48 rfl ?_
    exact r_weak (Ls2 (Ls2 (Ls2 (Ls2 (Ls2 Ls0))))) (hr (s + 1) M2)
set_option maxHeartbeats 4000000 in
set_option maxRecDepth 100000 in
theorem s_X4_leastLater_14 {w : W0} {Z : Zx} (g : Good KC w Z cX4_leastLater RX4 2) (e2 : Z.2.2.1 = 5) (e3 : Z.2.2.2 = (some .int)) (N : Nat) (p2 : Int32) (G : Int32 → Mm → Rs) (kG : ∀ (x : Int32) (M : Mm), Sim KC w Z 65 [rf w 40, .int x, .int p2, .null, .null] [] M (G x M)) : ∀ (n : Nat) (s : Int32 × Int32) (M : Mm), Sim KC w Z 14 [rf w 40, .int s.1, .int p2, .int s.2, .null] [] M (itr (B_X4_leastLater_14 N p2 G) n s M) := by
  have n1 : 1 < Z.2.2.1 := by rw [e2]; decide
  have n3 : 3 < Z.2.2.1 := by rw [e2]; decide
  have n4 : 4 < Z.2.2.1 := by rw [e2]; decide
  refine r_itr (Lf := fun (s : Int32 × Int32) => [rf w 40, .int s.1, .int p2, .int s.2, .null]) (fun rec hr s M => ?_)
  unfold B_X4_leastLater_14
  refine r_iload_n (pc' := 15) g dX4_leastLater_14 rfl rfl ?_
  refine r_sipush (pc' := 18) (v := 198) g dX4_leastLater_15 rfl rfl ?_
  refine r_cge (pc' := 21) (tgt := 65) g dX4_leastLater_18 rfl rfl ?_ ?_
  · skip
    exact r_weak (Ls2 (Ls2 (Ls2 (Ls1 (Ls1 Ls0))))) (kG s.1 M)
  · skip
    refine r_aload_n (pc' := 22) g dX4_leastLater_21 rfl rfl ?_
    refine r_get (pc' := 25) g dX4_leastLater_22 rfl fl_X4_28 lC_40 (eC_40 w _ _) rfl ?_
    refine r_iload_n (pc' := 26) g dX4_leastLater_25 rfl rfl ?_
    refine r_iald (pc' := 27) g dX4_leastLater_26 rfl lC_44 (eC_44 w _ _) ?_
    refine r_ifle (pc' := 30) (tgt := 65) g dX4_leastLater_27 rfl rfl ?_ ?_
    · skip
      exact r_weak (Ls2 (Ls2 (Ls2 (Ls1 (Ls1 Ls0))))) (kG s.1 M)
    · skip
      refine r_iconst (pc' := 31) (v := 0) g dX4_leastLater_30 rfl rfl ?_
      refine r_istore (pc' := 33) (L' := [rf w 40, .int s.1, .int p2, .int s.2, .int 0]) g dX4_leastLater_31 rfl n4 rfl rfl ?_
      refine r_weak (Ls2 (Ls2 (Ls2 (Ls2 (Ls2 Ls0))))) (s_X4_leastLater_33 g e2 e3 N s.1 p2 s.2 _ (fun z3 M4 => ?_) N 0 M)
      refine r_iload_n (pc' := 52) g dX4_leastLater_51 rfl rfl ?_
      refine r_aload_n (pc' := 53) g dX4_leastLater_52 rfl rfl ?_
      refine r_iload_n (pc' := 54) g dX4_leastLater_53 rfl rfl ?_
      refine r_callVi (pc' := 57) (As := [.int p2]) (rest := [.int s.1]) g dX4_leastLater_54 rfl ml_X4_69 mw_X4_serve mv_X4_serve (Nat.le_of_ble_eq_true rfl) (c_X4_serve _ w N p2 M4) rfl lC_40 (eC_40 w _ _) rfl rfl (Nat.le_of_ble_eq_true rfl) (fun r5 M6 => ?_)
      refine r_iadd (pc' := 58) g dX4_leastLater_57 rfl ?_
      refine r_ltI (fun x7 => ?_)
      refine r_istore_n (pc' := 59) (L' := [rf w 40, .int x7, .int p2, .int s.2, .null]) g dX4_leastLater_58 rfl n1 rfl rfl ?_
      refine r_iinc (pc' := 62) (b := 1) (L' := [rf w 40, .int x7, .int p2, .int (s.2 + 1), .null]) g dX4_leastLater_59 rfl rfl rfl n3 rfl rfl ?_
      refine r_goto (tgt := 14) g dX4_leastLater_62 rfl ?_
      exact r_weak (Ls2 (Ls2 (Ls2 (Ls2 (Ls1 Ls0))))) (hr (x7, s.2 + 1) M6)
set_option maxHeartbeats 4000000 in
set_option maxRecDepth 100000 in
theorem s_X4_leastLater_4 {w : W0} {Z : Zx} (g : Good KC w Z cX4_leastLater RX4 2) (e2 : Z.2.2.1 = 5) (e3 : Z.2.2.2 = (some .int)) (N : Nat) (G : Int32 → Mm → Rs) (kG : ∀ (x : Int32) (M : Mm), Sim KC w Z 71 [.null, .int x, .null, .null, .null] [] M (G x M)) : ∀ (n : Nat) (s : Int32 × Int32) (M : Mm), Sim KC w Z 4 [rf w 40, .int s.1, .int s.2, .null, .null] [] M (itr (B_X4_leastLater_4 N G) n s M) := by
  have n2 : 2 < Z.2.2.1 := by rw [e2]; decide
  have n3 : 3 < Z.2.2.1 := by rw [e2]; decide
  refine r_itr (Lf := fun (s : Int32 × Int32) => [rf w 40, .int s.1, .int s.2, .null, .null]) (fun rec hr s M => ?_)
  unfold B_X4_leastLater_4
  refine r_iload_n (pc' := 5) g dX4_leastLater_4 rfl rfl ?_
  refine r_aload_n (pc' := 6) g dX4_leastLater_5 rfl rfl ?_
  refine r_get (pc' := 9) g dX4_leastLater_6 rfl fl_X4_22 lC_40 (eC_40 w _ _) rfl ?_
  refine r_cge (pc' := 12) (tgt := 71) g dX4_leastLater_9 rfl rfl ?_ ?_
  · skip
    exact r_weak (Ls1 (Ls2 (Ls1 (Ls1 (Ls1 Ls0))))) (kG s.1 M)
  · skip
    refine r_iconst (pc' := 13) (v := 0) g dX4_leastLater_12 rfl rfl ?_
    refine r_istore_n (pc' := 14) (L' := [rf w 40, .int s.1, .int s.2, .int 0, .null]) g dX4_leastLater_13 rfl n3 rfl rfl ?_
    refine r_weak (Ls2 (Ls2 (Ls2 (Ls2 (Ls1 Ls0))))) (s_X4_leastLater_14 g e2 e3 N s.2 _ (fun z8 M9 => ?_) N (s.1, 0) M)
    refine r_iinc (pc' := 68) (b := 1) (L' := [rf w 40, .int z8, .int (s.2 + 1), .null, .null]) g dX4_leastLater_65 rfl rfl rfl n2 rfl rfl ?_
    refine r_goto (tgt := 4) g dX4_leastLater_68 rfl ?_
    exact r_weak (Ls2 (Ls2 (Ls2 (Ls1 (Ls1 Ls0))))) (hr (z8, s.2 + 1) M9)
set_option maxHeartbeats 4000000 in
set_option maxRecDepth 100000 in
theorem c_X4_leastLater (l : Launch) (w : W0) (N : Nat) (M : Mm) : Ct l KC w 2 yX4_leastLater cX4_leastLater 5 (some .int) [rf w 40] M (f_X4_leastLater N M) := by
  refine ct_of [rf w 40, .null, .null, .null, .null] (by decide) (Nat.le_of_ble_eq_true rfl) rfl (fun Z e1 e2 e3 g => ?_)
  have g : Good KC w Z cX4_leastLater RX4 2 := g
  unfold f_X4_leastLater
  have n1 : 1 < Z.2.2.1 := by rw [e2]; decide
  have n2 : 2 < Z.2.2.1 := by rw [e2]; decide
  refine r_iconst (pc' := 1) (v := 0) g dX4_leastLater_0 rfl rfl ?_
  refine r_istore_n (pc' := 2) (L' := [rf w 40, .int 0, .null, .null, .null]) g dX4_leastLater_1 rfl n1 rfl rfl ?_
  refine r_iconst (pc' := 3) (v := 0) g dX4_leastLater_2 rfl rfl ?_
  refine r_istore_n (pc' := 4) (L' := [rf w 40, .int 0, .int 0, .null, .null]) g dX4_leastLater_3 rfl n2 rfl rfl ?_
  refine r_weak (Ls2 (Ls2 (Ls2 (Ls1 (Ls1 Ls0))))) (s_X4_leastLater_4 g e2 e3 N _ (fun z10 M11 => ?_) N (0, 0) M)
  refine r_iload_n (pc' := 72) g dX4_leastLater_71 rfl rfl ?_
  exact r_iret g e3 dX4_leastLater_72
def f_X3_of (N : Nat) (a1 : Int32) (a2 : Int32) (M : Mm) : Rs :=
  if a1 < 0 then
    (some ((-9), M))
  else
    (if a1 < 256 then
      (if a2 < 0 then
        (some ((-9), M))
      else
        (if a2 < 16 then
          (lt' ((a1 * 16) + a2) fun x1 =>
          (lt' (fun (s2 : Unit) (M3 : Mm) =>
            ((if inb x1 4096 then
            (if (M3.1 39 (ix x1)) = (-1) then
              (bd (f_X4_weigh N a1 a2 M3) fun r5 M6 =>
              (bd (f_X10_fare N a1 M6) fun r7 M8 =>
              (bd (f_X4_leastLater N  M8) fun r9 M10 =>
              (if inb x1 4096 then
              (lt' (wI M10 39 (ix x1) (r7 + r9)) fun M11 =>
              (if inb x1 4096 then
              (some (M11.1 39 (ix x1), M11)) else none)) else none))))
            else
              (if inb x1 4096 then
              (some (M3.1 39 (ix x1), M3)) else none)) else none) : Rs)) fun jn4 =>
          (if (M.1 38 3) = 0 then
            (jn4 () M)
          else
            (bd (f_J7_fill_53178a N (-1) M) fun r12 M13 =>
            (lt' (wI M13 38 3 0) fun M14 =>
            (jn4 () M14))))))
        else
          (some ((-9), M))))
    else
      (some ((-9), M)))

set_option maxHeartbeats 4000000 in
set_option maxRecDepth 100000 in
theorem c_X3_of (l : Launch) (w : W0) (N : Nat) (a1 : Int32) (a2 : Int32) (M : Mm) : Ct l KC w 3 yX3_of cX3_of 4 (some .int) [rf w 38, .int a1, .int a2] M (f_X3_of N a1 a2 M) := by
  refine ct_of [rf w 38, .int a1, .int a2, .null] (by decide) (Nat.le_of_ble_eq_true rfl) rfl (fun Z e1 e2 e3 g => ?_)
  have g : Good KC w Z cX3_of RX3 3 := g
  unfold f_X3_of
  have n3 : 3 < Z.2.2.1 := by rw [e2]; decide
  refine r_iload_n (pc' := 1) g dX3_of_0 rfl rfl ?_
  refine r_iflt (pc' := 4) (tgt := 21) g dX3_of_1 rfl rfl ?_ ?_
  · skip
    refine r_bipush (pc' := 23) (v := -9) g dX3_of_21 rfl rfl ?_
    exact r_iret g e3 dX3_of_23
  · skip
    refine r_iload_n (pc' := 5) g dX3_of_4 rfl rfl ?_
    refine r_sipush (pc' := 8) (v := 256) g dX3_of_5 rfl rfl ?_
    refine r_cge (pc' := 11) (tgt := 21) g dX3_of_8 rfl rfl ?_ ?_
    · skip
      refine r_bipush (pc' := 23) (v := -9) g dX3_of_21 rfl rfl ?_
      exact r_iret g e3 dX3_of_23
    · skip
      refine r_iload_n (pc' := 12) g dX3_of_11 rfl rfl ?_
      refine r_iflt (pc' := 15) (tgt := 21) g dX3_of_12 rfl rfl ?_ ?_
      · skip
        refine r_bipush (pc' := 23) (v := -9) g dX3_of_21 rfl rfl ?_
        exact r_iret g e3 dX3_of_23
      · skip
        refine r_iload_n (pc' := 16) g dX3_of_15 rfl rfl ?_
        refine r_bipush (pc' := 18) (v := 16) g dX3_of_16 rfl rfl ?_
        refine r_clt (pc' := 21) (tgt := 24) g dX3_of_18 rfl rfl ?_ ?_
        · skip
          refine r_iload_n (pc' := 25) g dX3_of_24 rfl rfl ?_
          refine r_bipush (pc' := 27) (v := 16) g dX3_of_25 rfl rfl ?_
          refine r_imul (pc' := 28) g dX3_of_27 rfl ?_
          refine r_iload_n (pc' := 29) g dX3_of_28 rfl rfl ?_
          refine r_iadd (pc' := 30) g dX3_of_29 rfl ?_
          refine r_ltI (fun x1 => ?_)
          refine r_istore_n (pc' := 31) (L' := [rf w 38, .int a1, .int a2, .int x1]) g dX3_of_30 rfl n3 rfl rfl ?_
          refine r_aload_n (pc' := 32) g dX3_of_31 rfl rfl ?_
          refine r_get (pc' := 35) g dX3_of_32 rfl fl_X3_15 lC_38 (eC_38 w _ _) rfl ?_
          refine r_jn (pj := 51) (Lj := fun (s2 : Unit) => [rf w 38, .int a1, .int a2, .int x1]) (stj := fun (s2 : Unit) => []) (fun s2 M3 => ?_) (fun jn4 hjn4 => ?_)
          · skip
            refine r_aload_n (pc' := 52) g dX3_of_51 rfl rfl ?_
            refine r_get (pc' := 55) g dX3_of_52 rfl fl_X3_9 lC_38 (eC_38 w _ _) rfl ?_
            refine r_iload_n (pc' := 56) g dX3_of_55 rfl rfl ?_
            refine r_iald (pc' := 57) g dX3_of_56 rfl lC_39 (eC_39 w _ _) ?_
            refine r_iconst (pc' := 58) (v := -1) g dX3_of_57 rfl rfl ?_
            refine r_cne (pc' := 61) (tgt := 92) g dX3_of_58 rfl rfl ?_ ?_
            · skip
              refine r_aload_n (pc' := 93) g dX3_of_92 rfl rfl ?_
              refine r_get (pc' := 96) g dX3_of_93 rfl fl_X3_9 lC_38 (eC_38 w _ _) rfl ?_
              refine r_iload_n (pc' := 97) g dX3_of_96 rfl rfl ?_
              refine r_iald (pc' := 98) g dX3_of_97 rfl lC_39 (eC_39 w _ _) ?_
              exact r_iret g e3 dX3_of_98
            · skip
              refine r_aload_n (pc' := 62) g dX3_of_61 rfl rfl ?_
              refine r_get (pc' := 65) g dX3_of_62 rfl fl_X3_32 lC_38 (eC_38 w _ _) rfl ?_
              refine r_iload_n (pc' := 66) g dX3_of_65 rfl rfl ?_
              refine r_iload_n (pc' := 67) g dX3_of_66 rfl rfl ?_
              refine r_callVv (pc' := 70) (As := [.int a1, .int a2]) (rest := []) g dX3_of_67 rfl ml_X3_42 mw_X4_weigh mv_X4_weigh (Nat.le_of_ble_eq_true rfl) (c_X4_weigh _ w N a1 a2 M3) rfl lC_40 (eC_40 w _ _) rfl rfl (Nat.le_of_ble_eq_true rfl) (fun r5 M6 => ?_)
              refine r_aload_n (pc' := 71) g dX3_of_70 rfl rfl ?_
              refine r_get (pc' := 74) g dX3_of_71 rfl fl_X3_9 lC_38 (eC_38 w _ _) rfl ?_
              refine r_iload_n (pc' := 75) g dX3_of_74 rfl rfl ?_
              refine r_aload_n (pc' := 76) g dX3_of_75 rfl rfl ?_
              refine r_get (pc' := 79) g dX3_of_76 rfl fl_X3_23 lC_38 (eC_38 w _ _) rfl ?_
              refine r_iload_n (pc' := 80) g dX3_of_79 rfl rfl ?_
              refine r_callVi (pc' := 83) (As := [.int a1]) (rest := [.int x1, rf w 39]) g dX3_of_80 rfl ml_X3_46 mw_X10_fare mv_X10_fare (Nat.le_of_ble_eq_true rfl) (c_X10_fare _ w N a1 M6) rfl lC_1 (eC_1 w _ _) rfl rfl (Nat.le_of_ble_eq_true rfl) (fun r7 M8 => ?_)
              refine r_aload_n (pc' := 84) g dX3_of_83 rfl rfl ?_
              refine r_get (pc' := 87) g dX3_of_84 rfl fl_X3_32 lC_38 (eC_38 w _ _) rfl ?_
              refine r_callVi (pc' := 90) (As := []) (rest := [.int r7, .int x1, rf w 39]) g dX3_of_87 rfl ml_X3_52 mw_X4_leastLater mv_X4_leastLater (Nat.le_of_ble_eq_true rfl) (c_X4_leastLater _ w N  M8) rfl lC_40 (eC_40 w _ _) rfl rfl (Nat.le_of_ble_eq_true rfl) (fun r9 M10 => ?_)
              refine r_iadd (pc' := 91) g dX3_of_90 rfl ?_
              refine r_iast (pc' := 92) g dX3_of_91 rfl lC_39 (fun m => eC_39 w m _) ?_
              refine r_ltM (fun M11 => ?_)
              refine r_aload_n (pc' := 93) g dX3_of_92 rfl rfl ?_
              refine r_get (pc' := 96) g dX3_of_93 rfl fl_X3_9 lC_38 (eC_38 w _ _) rfl ?_
              refine r_iload_n (pc' := 97) g dX3_of_96 rfl rfl ?_
              refine r_iald (pc' := 98) g dX3_of_97 rfl lC_39 (eC_39 w _ _) ?_
              exact r_iret g e3 dX3_of_98
          refine r_ifeq (pc' := 38) (tgt := 51) g dX3_of_35 rfl rfl ?_ ?_
          · skip
            exact r_weak (Ls2 (Ls2 (Ls2 (Ls2 Ls0)))) (hjn4 () M)
          · skip
            refine r_aload_n (pc' := 39) g dX3_of_38 rfl rfl ?_
            refine r_get (pc' := 42) g dX3_of_39 rfl fl_X3_9 lC_38 (eC_38 w _ _) rfl ?_
            refine r_iconst (pc' := 43) (v := -1) g dX3_of_42 rfl rfl ?_
            refine r_callSv (pc' := 46) (As := [rf w 39, .int (-1)]) (rest := []) g dX3_of_43 rfl ml_X3_36 mw_J7_fill_53178 ms_J7_fill_53178 (Nat.le_of_ble_eq_true rfl) (c_J7_fill_53178a _ w N (-1) M) rfl rfl (Nat.le_of_ble_eq_true rfl) (fun r12 M13 => ?_)
            refine r_aload_n (pc' := 47) g dX3_of_46 rfl rfl ?_
            refine r_iconst (pc' := 48) (v := 0) g dX3_of_47 rfl rfl ?_
            refine r_putz (pc' := 51) g dX3_of_48 rfl fl_X3_15 rfl rfl lC_38 (eC_38 w _ _) (Nat.le_of_ble_eq_true rfl) (sC_38_3 w _ _ _) ?_
            refine r_ltM (fun M14 => ?_)
            exact r_weak (Ls2 (Ls2 (Ls2 (Ls2 Ls0)))) (hjn4 () M14)
        · skip
          refine r_bipush (pc' := 23) (v := -9) g dX3_of_21 rfl rfl ?_
          exact r_iret g e3 dX3_of_23
def f_X11_later (N : Nat) (a1 : Int32) (a2 : Int32) (M : Mm) : Rs :=
  bd (f_X10_isPlan N a1 M) fun r1 M2 =>
  (if r1 = 0 then
    (bd (f_X11_refuse N (-1) M2) fun r3 M4 =>
    (some (r3, M4)))
  else
    (bd (f_X10_isWorld N a2 M2) fun r5 M6 =>
    (if r5 = 0 then
      (bd (f_X11_refuse N (-1) M6) fun r11 M12 =>
      (some (r11, M12)))
    else
      (bd (f_X3_of N a1 a2 M6) fun r7 M8 =>
      (bd (f_X10_fare N a1 M8) fun r9 M10 =>
      (some (r7 - r9, M10)))))))

set_option maxHeartbeats 4000000 in
set_option maxRecDepth 100000 in
theorem c_X11_later (l : Launch) (w : W0) (N : Nat) (a1 : Int32) (a2 : Int32) (M : Mm) : Ct l KC w 4 yX11_later cX11_later 3 (some .int) [rf w 0, .int a1, .int a2] M (f_X11_later N a1 a2 M) := by
  refine ct_of [rf w 0, .int a1, .int a2] (by decide) (Nat.le_of_ble_eq_true rfl) rfl (fun Z e1 e2 e3 g => ?_)
  have g : Good KC w Z cX11_later RX11 4 := g
  unfold f_X11_later
  refine r_aload_n (pc' := 1) g dX11_later_0 rfl rfl ?_
  refine r_get (pc' := 4) g dX11_later_1 rfl fl_X11_12 lC_0 (eC_0 w _ _) rfl ?_
  refine r_iload_n (pc' := 5) g dX11_later_4 rfl rfl ?_
  refine r_callVi (pc' := 8) (As := [.int a1]) (rest := []) g dX11_later_5 rfl ml_X11_163 mw_X10_isPlan mv_X10_isPlan (Nat.le_of_ble_eq_true rfl) (c_X10_isPlan _ w N a1 M) rfl lC_1 (eC_1 w _ _) rfl rfl (Nat.le_of_ble_eq_true rfl) (fun r1 M2 => ?_)
  refine r_ifeq (pc' := 11) (tgt := 22) g dX11_later_8 rfl rfl ?_ ?_
  · skip
    refine r_aload_n (pc' := 23) g dX11_later_22 rfl rfl ?_
    refine r_iconst (pc' := 24) (v := -1) g dX11_later_23 rfl rfl ?_
    refine r_callVi (pc' := 27) (As := [.int (-1)]) (rest := []) g dX11_later_24 rfl ml_X11_80 mw_X11_refuse mv_X11_refuse (Nat.le_of_ble_eq_true rfl) (c_X11_refuse _ w N (-1) M2) rfl lC_0 (eC_0 w _ _) rfl rfl (Nat.le_of_ble_eq_true rfl) (fun r3 M4 => ?_)
    exact r_iret g e3 dX11_later_27
  · skip
    refine r_aload_n (pc' := 12) g dX11_later_11 rfl rfl ?_
    refine r_get (pc' := 15) g dX11_later_12 rfl fl_X11_12 lC_0 (eC_0 w _ _) rfl ?_
    refine r_iload_n (pc' := 16) g dX11_later_15 rfl rfl ?_
    refine r_callVi (pc' := 19) (As := [.int a2]) (rest := []) g dX11_later_16 rfl ml_X11_166 mw_X10_isWorld mv_X10_isWorld (Nat.le_of_ble_eq_true rfl) (c_X10_isWorld _ w N a2 M2) rfl lC_1 (eC_1 w _ _) rfl rfl (Nat.le_of_ble_eq_true rfl) (fun r5 M6 => ?_)
    refine r_ifne (pc' := 22) (tgt := 28) g dX11_later_19 rfl rfl ?_ ?_
    · skip
      refine r_aload_n (pc' := 29) g dX11_later_28 rfl rfl ?_
      refine r_get (pc' := 32) g dX11_later_29 rfl fl_X11_60 lC_0 (eC_0 w _ _) rfl ?_
      refine r_iload_n (pc' := 33) g dX11_later_32 rfl rfl ?_
      refine r_iload_n (pc' := 34) g dX11_later_33 rfl rfl ?_
      refine r_callVi (pc' := 37) (As := [.int a1, .int a2]) (rest := []) g dX11_later_34 rfl ml_X11_169 mw_X3_of mv_X3_of (Nat.le_of_ble_eq_true rfl) (c_X3_of _ w N a1 a2 M6) rfl lC_38 (eC_38 w _ _) rfl rfl (Nat.le_of_ble_eq_true rfl) (fun r7 M8 => ?_)
      refine r_aload_n (pc' := 38) g dX11_later_37 rfl rfl ?_
      refine r_get (pc' := 41) g dX11_later_38 rfl fl_X11_12 lC_0 (eC_0 w _ _) rfl ?_
      refine r_iload_n (pc' := 42) g dX11_later_41 rfl rfl ?_
      refine r_callVi (pc' := 45) (As := [.int a1]) (rest := [.int r7]) g dX11_later_42 rfl ml_X11_173 mw_X10_fare mv_X10_fare (Nat.le_of_ble_eq_true rfl) (c_X10_fare _ w N a1 M8) rfl lC_1 (eC_1 w _ _) rfl rfl (Nat.le_of_ble_eq_true rfl) (fun r9 M10 => ?_)
      refine r_isub (pc' := 46) g dX11_later_45 rfl ?_
      exact r_iret g e3 dX11_later_46
    · skip
      refine r_aload_n (pc' := 23) g dX11_later_22 rfl rfl ?_
      refine r_iconst (pc' := 24) (v := -1) g dX11_later_23 rfl rfl ?_
      refine r_callVi (pc' := 27) (As := [.int (-1)]) (rest := []) g dX11_later_24 rfl ml_X11_80 mw_X11_refuse mv_X11_refuse (Nat.le_of_ble_eq_true rfl) (c_X11_refuse _ w N (-1) M6) rfl lC_0 (eC_0 w _ _) rfl rfl (Nat.le_of_ble_eq_true rfl) (fun r11 M12 => ?_)
      exact r_iret g e3 dX11_later_27
def f_X11_cost (N : Nat) (a1 : Int32) (a2 : Int32) (M : Mm) : Rs :=
  bd (f_X10_isPlan N a1 M) fun r1 M2 =>
  (if r1 = 0 then
    (bd (f_X11_refuse N (-1) M2) fun r3 M4 =>
    (some (r3, M4)))
  else
    (bd (f_X10_isWorld N a2 M2) fun r5 M6 =>
    (if r5 = 0 then
      (bd (f_X11_refuse N (-1) M6) fun r9 M10 =>
      (some (r9, M10)))
    else
      (bd (f_X3_of N a1 a2 M6) fun r7 M8 =>
      (some (r7, M8))))))

set_option maxHeartbeats 4000000 in
set_option maxRecDepth 100000 in
theorem c_X11_cost (l : Launch) (w : W0) (N : Nat) (a1 : Int32) (a2 : Int32) (M : Mm) : Ct l KC w 4 yX11_cost cX11_cost 3 (some .int) [rf w 0, .int a1, .int a2] M (f_X11_cost N a1 a2 M) := by
  refine ct_of [rf w 0, .int a1, .int a2] (by decide) (Nat.le_of_ble_eq_true rfl) rfl (fun Z e1 e2 e3 g => ?_)
  have g : Good KC w Z cX11_cost RX11 4 := g
  unfold f_X11_cost
  refine r_aload_n (pc' := 1) g dX11_cost_0 rfl rfl ?_
  refine r_get (pc' := 4) g dX11_cost_1 rfl fl_X11_12 lC_0 (eC_0 w _ _) rfl ?_
  refine r_iload_n (pc' := 5) g dX11_cost_4 rfl rfl ?_
  refine r_callVi (pc' := 8) (As := [.int a1]) (rest := []) g dX11_cost_5 rfl ml_X11_163 mw_X10_isPlan mv_X10_isPlan (Nat.le_of_ble_eq_true rfl) (c_X10_isPlan _ w N a1 M) rfl lC_1 (eC_1 w _ _) rfl rfl (Nat.le_of_ble_eq_true rfl) (fun r1 M2 => ?_)
  refine r_ifeq (pc' := 11) (tgt := 22) g dX11_cost_8 rfl rfl ?_ ?_
  · skip
    refine r_aload_n (pc' := 23) g dX11_cost_22 rfl rfl ?_
    refine r_iconst (pc' := 24) (v := -1) g dX11_cost_23 rfl rfl ?_
    refine r_callVi (pc' := 27) (As := [.int (-1)]) (rest := []) g dX11_cost_24 rfl ml_X11_80 mw_X11_refuse mv_X11_refuse (Nat.le_of_ble_eq_true rfl) (c_X11_refuse _ w N (-1) M2) rfl lC_0 (eC_0 w _ _) rfl rfl (Nat.le_of_ble_eq_true rfl) (fun r3 M4 => ?_)
    exact r_iret g e3 dX11_cost_27
  · skip
    refine r_aload_n (pc' := 12) g dX11_cost_11 rfl rfl ?_
    refine r_get (pc' := 15) g dX11_cost_12 rfl fl_X11_12 lC_0 (eC_0 w _ _) rfl ?_
    refine r_iload_n (pc' := 16) g dX11_cost_15 rfl rfl ?_
    refine r_callVi (pc' := 19) (As := [.int a2]) (rest := []) g dX11_cost_16 rfl ml_X11_166 mw_X10_isWorld mv_X10_isWorld (Nat.le_of_ble_eq_true rfl) (c_X10_isWorld _ w N a2 M2) rfl lC_1 (eC_1 w _ _) rfl rfl (Nat.le_of_ble_eq_true rfl) (fun r5 M6 => ?_)
    refine r_ifne (pc' := 22) (tgt := 28) g dX11_cost_19 rfl rfl ?_ ?_
    · skip
      refine r_aload_n (pc' := 29) g dX11_cost_28 rfl rfl ?_
      refine r_get (pc' := 32) g dX11_cost_29 rfl fl_X11_60 lC_0 (eC_0 w _ _) rfl ?_
      refine r_iload_n (pc' := 33) g dX11_cost_32 rfl rfl ?_
      refine r_iload_n (pc' := 34) g dX11_cost_33 rfl rfl ?_
      refine r_callVi (pc' := 37) (As := [.int a1, .int a2]) (rest := []) g dX11_cost_34 rfl ml_X11_169 mw_X3_of mv_X3_of (Nat.le_of_ble_eq_true rfl) (c_X3_of _ w N a1 a2 M6) rfl lC_38 (eC_38 w _ _) rfl rfl (Nat.le_of_ble_eq_true rfl) (fun r7 M8 => ?_)
      exact r_iret g e3 dX11_cost_37
    · skip
      refine r_aload_n (pc' := 23) g dX11_cost_22 rfl rfl ?_
      refine r_iconst (pc' := 24) (v := -1) g dX11_cost_23 rfl rfl ?_
      refine r_callVi (pc' := 27) (As := [.int (-1)]) (rest := []) g dX11_cost_24 rfl ml_X11_80 mw_X11_refuse mv_X11_refuse (Nat.le_of_ble_eq_true rfl) (c_X11_refuse _ w N (-1) M6) rfl lC_0 (eC_0 w _ _) rfl rfl (Nat.le_of_ble_eq_true rfl) (fun r9 M10 => ?_)
      exact r_iret g e3 dX11_cost_27
def B_X3_worstWorld_10 (N : Nat) (p1 : Int32) (p2 : Int32) (G : Int32 → Mm → Rs) (rec : (Int32 × Int32 × Int32) → Mm → Rs) (s : Int32 × Int32 × Int32) (M : Mm) : Rs :=
  if s.2.2 < 16 then
      (if ((p2 >>> (s.2.2 &&& 31)) &&& 1) = 0 then
        (rec (s.1, s.2.1, s.2.2 + 1) M)
      else
        (bd (f_X3_of N p1 s.2.2 M) fun r1 M2 =>
        (if s.2.1 < r1 then
          (rec (s.2.2, r1, s.2.2 + 1) M2)
        else
          (rec (s.1, s.2.1, s.2.2 + 1) M2))))
    else
      (G s.1 M)

def f_X3_worstWorld (N : Nat) (a1 : Int32) (a2 : Int32) (M : Mm) : Rs :=
  itr (B_X3_worstWorld_10 N a1 a2 fun z3 M4 =>
  (some (z3, M4))) N ((-9), (-9), 0) M

set_option maxHeartbeats 4000000 in
set_option maxRecDepth 100000 in
theorem s_X3_worstWorld_10 {w : W0} {Z : Zx} (g : Good KC w Z cX3_worstWorld RX3 4) (e2 : Z.2.2.1 = 7) (e3 : Z.2.2.2 = (some .int)) (N : Nat) (p1 : Int32) (p2 : Int32) (G : Int32 → Mm → Rs) (kG : ∀ (x : Int32) (M : Mm), Sim KC w Z 58 [.null, .null, .null, .int x, .null, .null, .null] [] M (G x M)) : ∀ (n : Nat) (s : Int32 × Int32 × Int32) (M : Mm), Sim KC w Z 10 [rf w 38, .int p1, .int p2, .int s.1, .int s.2.1, .int s.2.2, .null] [] M (itr (B_X3_worstWorld_10 N p1 p2 G) n s M) := by
  have n3 : 3 < Z.2.2.1 := by rw [e2]; decide
  have n4 : 4 < Z.2.2.1 := by rw [e2]; decide
  have n5 : 5 < Z.2.2.1 := by rw [e2]; decide
  have n6 : 6 < Z.2.2.1 := by rw [e2]; decide
  refine r_itr (Lf := fun (s : Int32 × Int32 × Int32) => [rf w 38, .int p1, .int p2, .int s.1, .int s.2.1, .int s.2.2, .null]) (fun rec hr s M => ?_)
  unfold B_X3_worstWorld_10
  refine r_iload (pc' := 12) g dX3_worstWorld_10 rfl rfl ?_
  refine r_bipush (pc' := 14) (v := 16) g dX3_worstWorld_12 rfl rfl ?_
  refine r_cge (pc' := 17) (tgt := 58) g dX3_worstWorld_14 rfl rfl ?_ ?_
  · skip
    exact r_weak (Ls1 (Ls1 (Ls1 (Ls2 (Ls1 (Ls1 (Ls1 Ls0))))))) (kG s.1 M)
  · skip
    refine r_iload_n (pc' := 18) g dX3_worstWorld_17 rfl rfl ?_
    refine r_iload (pc' := 20) g dX3_worstWorld_18 rfl rfl ?_
    refine r_ishr (pc' := 21) g dX3_worstWorld_20 rfl ?_
    refine r_iconst (pc' := 22) (v := 1) g dX3_worstWorld_21 rfl rfl ?_
    refine r_iand (pc' := 23) g dX3_worstWorld_22 rfl ?_
    refine r_ifne (pc' := 26) (tgt := 29) g dX3_worstWorld_23 rfl rfl ?_ ?_
    · skip
      refine r_aload_n (pc' := 30) g dX3_worstWorld_29 rfl rfl ?_
      refine r_iload_n (pc' := 31) g dX3_worstWorld_30 rfl rfl ?_
      refine r_iload (pc' := 33) g dX3_worstWorld_31 rfl rfl ?_
      refine r_callVi (pc' := 36) (As := [.int p1, .int s.2.2]) (rest := []) g dX3_worstWorld_33 rfl ml_X3_56 mw_X3_of mv_X3_of (Nat.le_of_ble_eq_true rfl) (c_X3_of _ w N p1 s.2.2 M) rfl lC_38 (eC_38 w _ _) rfl rfl (Nat.le_of_ble_eq_true rfl) (fun r1 M2 => ?_)
      refine r_istore (pc' := 38) (L' := [rf w 38, .int p1, .int p2, .int s.1, .int s.2.1, .int s.2.2, .int r1]) g dX3_worstWorld_36 rfl n6 rfl rfl ?_
      refine r_iload (pc' := 40) g dX3_worstWorld_38 rfl rfl ?_
      refine r_iload (pc' := 42) g dX3_worstWorld_40 rfl rfl ?_
      refine r_cle (pc' := 45) (tgt := 52) g dX3_worstWorld_42 rfl rfl ?_ ?_
      · skip
        refine r_iinc (pc' := 55) (b := 1) (L' := [rf w 38, .int p1, .int p2, .int s.1, .int s.2.1, .int (s.2.2 + 1), .int r1]) g dX3_worstWorld_52 rfl rfl rfl n5 rfl rfl ?_
        refine r_goto (tgt := 10) g dX3_worstWorld_55 rfl ?_
        exact r_weak (Ls2 (Ls2 (Ls2 (Ls2 (Ls2 (Ls2 (Ls1 Ls0))))))) (hr (s.1, s.2.1, s.2.2 + 1) M2)
      · skip
        refine r_iload (pc' := 47) g dX3_worstWorld_45 rfl rfl ?_
        refine r_istore_n (pc' := 48) (L' := [rf w 38, .int p1, .int p2, .int s.2.2, .int s.2.1, .int s.2.2, .int r1]) g dX3_worstWorld_47 rfl n3 rfl rfl ?_
        refine r_iload (pc' := 50) g dX3_worstWorld_48 rfl rfl ?_
        refine r_istore (pc' := 52) (L' := [rf w 38, .int p1, .int p2, .int s.2.2, .int r1, .int s.2.2, .int r1]) g dX3_worstWorld_50 rfl n4 rfl rfl ?_
        refine r_iinc (pc' := 55) (b := 1) (L' := [rf w 38, .int p1, .int p2, .int s.2.2, .int r1, .int (s.2.2 + 1), .int r1]) g dX3_worstWorld_52 rfl rfl rfl n5 rfl rfl ?_
        refine r_goto (tgt := 10) g dX3_worstWorld_55 rfl ?_
        exact r_weak (Ls2 (Ls2 (Ls2 (Ls2 (Ls2 (Ls2 (Ls1 Ls0))))))) (hr (s.2.2, r1, s.2.2 + 1) M2)
    · skip
      refine r_goto (tgt := 52) g dX3_worstWorld_26 rfl ?_
      refine r_iinc (pc' := 55) (b := 1) (L' := [rf w 38, .int p1, .int p2, .int s.1, .int s.2.1, .int (s.2.2 + 1), .null]) g dX3_worstWorld_52 rfl rfl rfl n5 rfl rfl ?_
      refine r_goto (tgt := 10) g dX3_worstWorld_55 rfl ?_
      exact r_weak (Ls2 (Ls2 (Ls2 (Ls2 (Ls2 (Ls2 (Ls1 Ls0))))))) (hr (s.1, s.2.1, s.2.2 + 1) M)
set_option maxHeartbeats 4000000 in
set_option maxRecDepth 100000 in
theorem c_X3_worstWorld (l : Launch) (w : W0) (N : Nat) (a1 : Int32) (a2 : Int32) (M : Mm) : Ct l KC w 4 yX3_worstWorld cX3_worstWorld 7 (some .int) [rf w 38, .int a1, .int a2] M (f_X3_worstWorld N a1 a2 M) := by
  refine ct_of [rf w 38, .int a1, .int a2, .null, .null, .null, .null] (by decide) (Nat.le_of_ble_eq_true rfl) rfl (fun Z e1 e2 e3 g => ?_)
  have g : Good KC w Z cX3_worstWorld RX3 4 := g
  unfold f_X3_worstWorld
  have n3 : 3 < Z.2.2.1 := by rw [e2]; decide
  have n4 : 4 < Z.2.2.1 := by rw [e2]; decide
  have n5 : 5 < Z.2.2.1 := by rw [e2]; decide
  refine r_bipush (pc' := 2) (v := -9) g dX3_worstWorld_0 rfl rfl ?_
  refine r_istore_n (pc' := 3) (L' := [rf w 38, .int a1, .int a2, .int (-9), .null, .null, .null]) g dX3_worstWorld_2 rfl n3 rfl rfl ?_
  refine r_bipush (pc' := 5) (v := -9) g dX3_worstWorld_3 rfl rfl ?_
  refine r_istore (pc' := 7) (L' := [rf w 38, .int a1, .int a2, .int (-9), .int (-9), .null, .null]) g dX3_worstWorld_5 rfl n4 rfl rfl ?_
  refine r_iconst (pc' := 8) (v := 0) g dX3_worstWorld_7 rfl rfl ?_
  refine r_istore (pc' := 10) (L' := [rf w 38, .int a1, .int a2, .int (-9), .int (-9), .int 0, .null]) g dX3_worstWorld_8 rfl n5 rfl rfl ?_
  refine r_weak (Ls2 (Ls2 (Ls2 (Ls2 (Ls2 (Ls2 (Ls1 Ls0))))))) (s_X3_worstWorld_10 g e2 e3 N a1 a2 _ (fun z3 M4 => ?_) N ((-9), (-9), 0) M)
  refine r_iload_n (pc' := 59) g dX3_worstWorld_58 rfl rfl ?_
  exact r_iret g e3 dX3_worstWorld_59
def f_X3_worstOver (N : Nat) (a1 : Int32) (a2 : Int32) (M : Mm) : Rs :=
  bd (f_X3_worstWorld N a1 a2 M) fun r1 M2 =>
  (bd (f_X3_of N a1 r1 M2) fun r3 M4 =>
  (some (r3, M4)))

set_option maxHeartbeats 4000000 in
set_option maxRecDepth 100000 in
theorem c_X3_worstOver (l : Launch) (w : W0) (N : Nat) (a1 : Int32) (a2 : Int32) (M : Mm) : Ct l KC w 5 yX3_worstOver cX3_worstOver 3 (some .int) [rf w 38, .int a1, .int a2] M (f_X3_worstOver N a1 a2 M) := by
  refine ct_of [rf w 38, .int a1, .int a2] (by decide) (Nat.le_of_ble_eq_true rfl) rfl (fun Z e1 e2 e3 g => ?_)
  have g : Good KC w Z cX3_worstOver RX3 5 := g
  unfold f_X3_worstOver
  refine r_aload_n (pc' := 1) g dX3_worstOver_0 rfl rfl ?_
  refine r_iload_n (pc' := 2) g dX3_worstOver_1 rfl rfl ?_
  refine r_aload_n (pc' := 3) g dX3_worstOver_2 rfl rfl ?_
  refine r_iload_n (pc' := 4) g dX3_worstOver_3 rfl rfl ?_
  refine r_iload_n (pc' := 5) g dX3_worstOver_4 rfl rfl ?_
  refine r_callVi (pc' := 8) (As := [.int a1, .int a2]) (rest := [.int a1, rf w 38]) g dX3_worstOver_5 rfl ml_X3_60 mw_X3_worstWorld mv_X3_worstWorld (Nat.le_of_ble_eq_true rfl) (c_X3_worstWorld _ w N a1 a2 M) rfl lC_38 (eC_38 w _ _) rfl rfl (Nat.le_of_ble_eq_true rfl) (fun r1 M2 => ?_)
  refine r_callVi (pc' := 11) (As := [.int a1, .int r1]) (rest := []) g dX3_worstOver_8 rfl ml_X3_56 mw_X3_of mv_X3_of (Nat.le_of_ble_eq_true rfl) (c_X3_of _ w N a1 r1 M2) rfl lC_38 (eC_38 w _ _) rfl rfl (Nat.le_of_ble_eq_true rfl) (fun r3 M4 => ?_)
  exact r_iret g e3 dX3_worstOver_11
def f_X11_worst (N : Nat) (a1 : Int32) (a2 : Int32) (M : Mm) : Rs :=
  bd (f_X10_isPlan N a1 M) fun r1 M2 =>
  (if r1 = 0 then
    (bd (f_X11_refuse N (-1) M2) fun r16 M17 =>
    (some (r16, M17)))
  else
    (lt' (fun (s3 : Unit) (M4 : Mm) =>
      ((if a2 = 0 then
        (bd (f_X11_theSet N  M4) fun r10 M11 =>
        (bd (f_X3_worstOver N a1 r10 M11) fun r12 M13 =>
        (some (r12, M13))))
      else
        (bd (f_X11_theSet N  M4) fun r6 M7 =>
        (bd (f_X3_worstWorld N a1 r6 M7) fun r8 M9 =>
        (some (r8, M9))))) : Rs)) fun jn5 =>
    (if a2 = 0 then
      (jn5 () M2)
    else
      (if a2 = 1 then
        (jn5 () M2)
      else
        (bd (f_X11_refuse N (-2) M2) fun r14 M15 =>
        (some (r14, M15)))))))

set_option maxHeartbeats 4000000 in
set_option maxRecDepth 100000 in
theorem c_X11_worst (l : Launch) (w : W0) (N : Nat) (a1 : Int32) (a2 : Int32) (M : Mm) : Ct l KC w 6 yX11_worst cX11_worst 3 (some .int) [rf w 0, .int a1, .int a2] M (f_X11_worst N a1 a2 M) := by
  refine ct_of [rf w 0, .int a1, .int a2] (by decide) (Nat.le_of_ble_eq_true rfl) rfl (fun Z e1 e2 e3 g => ?_)
  have g : Good KC w Z cX11_worst RX11 6 := g
  unfold f_X11_worst
  refine r_aload_n (pc' := 1) g dX11_worst_0 rfl rfl ?_
  refine r_get (pc' := 4) g dX11_worst_1 rfl fl_X11_12 lC_0 (eC_0 w _ _) rfl ?_
  refine r_iload_n (pc' := 5) g dX11_worst_4 rfl rfl ?_
  refine r_callVi (pc' := 8) (As := [.int a1]) (rest := []) g dX11_worst_5 rfl ml_X11_163 mw_X10_isPlan mv_X10_isPlan (Nat.le_of_ble_eq_true rfl) (c_X10_isPlan _ w N a1 M) rfl lC_1 (eC_1 w _ _) rfl rfl (Nat.le_of_ble_eq_true rfl) (fun r1 M2 => ?_)
  refine r_ifne (pc' := 11) (tgt := 17) g dX11_worst_8 rfl rfl ?_ ?_
  · skip
    refine r_iload_n (pc' := 18) g dX11_worst_17 rfl rfl ?_
    refine r_jn (pj := 33) (Lj := fun (s3 : Unit) => [rf w 0, .int a1, .int a2]) (stj := fun (s3 : Unit) => []) (fun s3 M4 => ?_) (fun jn5 hjn5 => ?_)
    · skip
      refine r_iload_n (pc' := 34) g dX11_worst_33 rfl rfl ?_
      refine r_ifne (pc' := 37) (tgt := 52) g dX11_worst_34 rfl rfl ?_ ?_
      · skip
        refine r_aload_n (pc' := 53) g dX11_worst_52 rfl rfl ?_
        refine r_get (pc' := 56) g dX11_worst_53 rfl fl_X11_60 lC_0 (eC_0 w _ _) rfl ?_
        refine r_iload_n (pc' := 57) g dX11_worst_56 rfl rfl ?_
        refine r_aload_n (pc' := 58) g dX11_worst_57 rfl rfl ?_
        refine r_callVi (pc' := 61) (As := []) (rest := [.int a1, rf w 38]) g dX11_worst_58 rfl ml_X11_159 mw_X11_theSet mv_X11_theSet (Nat.le_of_ble_eq_true rfl) (c_X11_theSet _ w N  M4) rfl lC_0 (eC_0 w _ _) rfl rfl (Nat.le_of_ble_eq_true rfl) (fun r6 M7 => ?_)
        refine r_callVi (pc' := 64) (As := [.int a1, .int r6]) (rest := []) g dX11_worst_61 rfl ml_X11_179 mw_X3_worstWorld mv_X3_worstWorld (Nat.le_of_ble_eq_true rfl) (c_X3_worstWorld _ w N a1 r6 M7) rfl lC_38 (eC_38 w _ _) rfl rfl (Nat.le_of_ble_eq_true rfl) (fun r8 M9 => ?_)
        exact r_iret g e3 dX11_worst_64
      · skip
        refine r_aload_n (pc' := 38) g dX11_worst_37 rfl rfl ?_
        refine r_get (pc' := 41) g dX11_worst_38 rfl fl_X11_60 lC_0 (eC_0 w _ _) rfl ?_
        refine r_iload_n (pc' := 42) g dX11_worst_41 rfl rfl ?_
        refine r_aload_n (pc' := 43) g dX11_worst_42 rfl rfl ?_
        refine r_callVi (pc' := 46) (As := []) (rest := [.int a1, rf w 38]) g dX11_worst_43 rfl ml_X11_159 mw_X11_theSet mv_X11_theSet (Nat.le_of_ble_eq_true rfl) (c_X11_theSet _ w N  M4) rfl lC_0 (eC_0 w _ _) rfl rfl (Nat.le_of_ble_eq_true rfl) (fun r10 M11 => ?_)
        refine r_callVi (pc' := 49) (As := [.int a1, .int r10]) (rest := []) g dX11_worst_46 rfl ml_X11_176 mw_X3_worstOver mv_X3_worstOver (Nat.le_of_ble_eq_true rfl) (c_X3_worstOver _ w N a1 r10 M11) rfl lC_38 (eC_38 w _ _) rfl rfl (Nat.le_of_ble_eq_true rfl) (fun r12 M13 => ?_)
        refine r_goto (tgt := 64) g dX11_worst_49 rfl ?_
        exact r_iret g e3 dX11_worst_64
    refine r_ifeq (pc' := 21) (tgt := 33) g dX11_worst_18 rfl rfl ?_ ?_
    · skip
      exact r_weak (Ls2 (Ls2 (Ls2 Ls0))) (hjn5 () M2)
    · skip
      refine r_iload_n (pc' := 22) g dX11_worst_21 rfl rfl ?_
      refine r_iconst (pc' := 23) (v := 1) g dX11_worst_22 rfl rfl ?_
      refine r_ceq (pc' := 26) (tgt := 33) g dX11_worst_23 rfl rfl ?_ ?_
      · skip
        exact r_weak (Ls2 (Ls2 (Ls2 Ls0))) (hjn5 () M2)
      · skip
        refine r_aload_n (pc' := 27) g dX11_worst_26 rfl rfl ?_
        refine r_bipush (pc' := 29) (v := -2) g dX11_worst_27 rfl rfl ?_
        refine r_callVi (pc' := 32) (As := [.int (-2)]) (rest := []) g dX11_worst_29 rfl ml_X11_80 mw_X11_refuse mv_X11_refuse (Nat.le_of_ble_eq_true rfl) (c_X11_refuse _ w N (-2) M2) rfl lC_0 (eC_0 w _ _) rfl rfl (Nat.le_of_ble_eq_true rfl) (fun r14 M15 => ?_)
        exact r_iret g e3 dX11_worst_32
  · skip
    refine r_aload_n (pc' := 12) g dX11_worst_11 rfl rfl ?_
    refine r_iconst (pc' := 13) (v := -1) g dX11_worst_12 rfl rfl ?_
    refine r_callVi (pc' := 16) (As := [.int (-1)]) (rest := []) g dX11_worst_13 rfl ml_X11_80 mw_X11_refuse mv_X11_refuse (Nat.le_of_ble_eq_true rfl) (c_X11_refuse _ w N (-1) M2) rfl lC_0 (eC_0 w _ _) rfl rfl (Nat.le_of_ble_eq_true rfl) (fun r16 M17 => ?_)
    exact r_iret g e3 dX11_worst_16
def B_X3_bestOver_15 (N : Nat) (p1 : Int32) (G : Int32 → Mm → Rs) (rec : (Int32 × Int32 × Int32) → Mm → Rs) (s : Int32 × Int32 × Int32) (M : Mm) : Rs :=
  if s.2.2 < 256 then
      (if p1 = 0 then
        (G s.1 M)
      else
        (bd (f_X10_isPlan N s.2.2 M) fun r2 M3 =>
        (if r2 = 0 then
          (rec (s.1, s.2.1, s.2.2 + 1) M3)
        else
          (lt' (fun (s4 : Unit) (M5 : Mm) =>
            ((bd (f_X3_worstWorld N s.2.2 p1 M5) fun r7 M8 =>
            (bd (f_X3_of N s.2.2 r7 M8) fun r9 M10 =>
            (lt' (fun (s11 : Unit) (M12 : Mm) =>
              ((lt' (wI M12 38 4 s.2.2) fun M14 =>
              (rec (r9, r7, s.2.2 + 1) M14)) : Rs)) fun jn13 =>
            (if (M10.1 38 4) = (-9) then
              (jn13 () M10)
            else
              (if r9 < s.1 then
                (jn13 () M10)
              else
                (rec (s.1, s.2.1, s.2.2 + 1) M10)))))) : Rs)) fun jn6 =>
          (if (M3.1 38 4) = (-9) then
            (jn6 () M3)
          else
            (bd (f_X10_fare N s.2.2 M3) fun r15 M16 =>
            (if r15 < s.1 then
              (bd (f_X3_of N s.2.2 s.2.1 M16) fun r17 M18 =>
              (if r17 < s.1 then
                (jn6 () M18)
              else
                (rec (s.1, s.2.1, s.2.2 + 1) M18)))
            else
              (rec (s.1, s.2.1, s.2.2 + 1) M16))))))))
    else
      (G s.1 M)

def f_X3_bestOver (N : Nat) (a1 : Int32) (M : Mm) : Rs :=
  lt' (wI M 38 4 (-9)) fun M1 =>
  (itr (B_X3_bestOver_15 N a1 fun z19 M20 =>
  (some (z19, M20))) N ((-9), (-9), 0) M1)

set_option maxHeartbeats 4000000 in
set_option maxRecDepth 100000 in
theorem s_X3_bestOver_15 {w : W0} {Z : Zx} (g : Good KC w Z cX3_bestOver RX3 5) (e2 : Z.2.2.1 = 7) (e3 : Z.2.2.2 = (some .int)) (N : Nat) (p1 : Int32) (G : Int32 → Mm → Rs) (kG : ∀ (x : Int32) (M : Mm), Sim KC w Z 130 [.null, .null, .int x, .null, .null, .null, .null] [] M (G x M)) : ∀ (n : Nat) (s : Int32 × Int32 × Int32) (M : Mm), Sim KC w Z 15 [rf w 38, .int p1, .int s.1, .int s.2.1, .int s.2.2, .null, .null] [] M (itr (B_X3_bestOver_15 N p1 G) n s M) := by
  have n2 : 2 < Z.2.2.1 := by rw [e2]; decide
  have n3 : 3 < Z.2.2.1 := by rw [e2]; decide
  have n4 : 4 < Z.2.2.1 := by rw [e2]; decide
  have n5 : 5 < Z.2.2.1 := by rw [e2]; decide
  have n6 : 6 < Z.2.2.1 := by rw [e2]; decide
  refine r_itr (Lf := fun (s : Int32 × Int32 × Int32) => [rf w 38, .int p1, .int s.1, .int s.2.1, .int s.2.2, .null, .null]) (fun rec hr s M => ?_)
  unfold B_X3_bestOver_15
  refine r_iload (pc' := 17) g dX3_bestOver_15 rfl rfl ?_
  refine r_sipush (pc' := 20) (v := 256) g dX3_bestOver_17 rfl rfl ?_
  refine r_cge (pc' := 23) (tgt := 130) g dX3_bestOver_20 rfl rfl ?_ ?_
  · skip
    exact r_weak (Ls1 (Ls1 (Ls2 (Ls1 (Ls1 (Ls1 (Ls1 Ls0))))))) (kG s.1 M)
  · skip
    refine r_iload_n (pc' := 24) g dX3_bestOver_23 rfl rfl ?_
    refine r_ifeq (pc' := 27) (tgt := 130) g dX3_bestOver_24 rfl rfl ?_ ?_
    · skip
      exact r_weak (Ls1 (Ls1 (Ls2 (Ls1 (Ls1 (Ls1 (Ls1 Ls0))))))) (kG s.1 M)
    · skip
      refine r_aload_n (pc' := 28) g dX3_bestOver_27 rfl rfl ?_
      refine r_get (pc' := 31) g dX3_bestOver_28 rfl fl_X3_23 lC_38 (eC_38 w _ _) rfl ?_
      refine r_iload (pc' := 33) g dX3_bestOver_31 rfl rfl ?_
      refine r_callVi (pc' := 36) (As := [.int s.2.2]) (rest := []) g dX3_bestOver_33 rfl ml_X3_63 mw_X10_isPlan mv_X10_isPlan (Nat.le_of_ble_eq_true rfl) (c_X10_isPlan _ w N s.2.2 M) rfl lC_1 (eC_1 w _ _) rfl rfl (Nat.le_of_ble_eq_true rfl) (fun r2 M3 => ?_)
      refine r_ifne (pc' := 39) (tgt := 42) g dX3_bestOver_36 rfl rfl ?_ ?_
      · skip
        refine r_aload_n (pc' := 43) g dX3_bestOver_42 rfl rfl ?_
        refine r_get (pc' := 46) g dX3_bestOver_43 rfl fl_X3_19 lC_38 (eC_38 w _ _) rfl ?_
        refine r_bipush (pc' := 48) (v := -9) g dX3_bestOver_46 rfl rfl ?_
        refine r_jn (pj := 78) (Lj := fun (s4 : Unit) => [rf w 38, .int p1, .int s.1, .int s.2.1, .int s.2.2, .null, .null]) (stj := fun (s4 : Unit) => []) (fun s4 M5 => ?_) (fun jn6 hjn6 => ?_)
        · skip
          refine r_aload_n (pc' := 79) g dX3_bestOver_78 rfl rfl ?_
          refine r_iload (pc' := 81) g dX3_bestOver_79 rfl rfl ?_
          refine r_iload_n (pc' := 82) g dX3_bestOver_81 rfl rfl ?_
          refine r_callVi (pc' := 85) (As := [.int s.2.2, .int p1]) (rest := []) g dX3_bestOver_82 rfl ml_X3_60 mw_X3_worstWorld mv_X3_worstWorld (Nat.le_of_ble_eq_true rfl) (c_X3_worstWorld _ w N s.2.2 p1 M5) rfl lC_38 (eC_38 w _ _) rfl rfl (Nat.le_of_ble_eq_true rfl) (fun r7 M8 => ?_)
          refine r_istore (pc' := 87) (L' := [rf w 38, .int p1, .int s.1, .int s.2.1, .int s.2.2, .int r7, .null]) g dX3_bestOver_85 rfl n5 rfl rfl ?_
          refine r_aload_n (pc' := 88) g dX3_bestOver_87 rfl rfl ?_
          refine r_iload (pc' := 90) g dX3_bestOver_88 rfl rfl ?_
          refine r_iload (pc' := 92) g dX3_bestOver_90 rfl rfl ?_
          refine r_callVi (pc' := 95) (As := [.int s.2.2, .int r7]) (rest := []) g dX3_bestOver_92 rfl ml_X3_56 mw_X3_of mv_X3_of (Nat.le_of_ble_eq_true rfl) (c_X3_of _ w N s.2.2 r7 M8) rfl lC_38 (eC_38 w _ _) rfl rfl (Nat.le_of_ble_eq_true rfl) (fun r9 M10 => ?_)
          refine r_istore (pc' := 97) (L' := [rf w 38, .int p1, .int s.1, .int s.2.1, .int s.2.2, .int r7, .int r9]) g dX3_bestOver_95 rfl n6 rfl rfl ?_
          refine r_aload_n (pc' := 98) g dX3_bestOver_97 rfl rfl ?_
          refine r_get (pc' := 101) g dX3_bestOver_98 rfl fl_X3_19 lC_38 (eC_38 w _ _) rfl ?_
          refine r_bipush (pc' := 103) (v := -9) g dX3_bestOver_101 rfl rfl ?_
          refine r_jn (pj := 112) (Lj := fun (s11 : Unit) => [rf w 38, .int p1, .null, .null, .int s.2.2, .int r7, .int r9]) (stj := fun (s11 : Unit) => []) (fun s11 M12 => ?_) (fun jn13 hjn13 => ?_)
          · skip
            refine r_aload_n (pc' := 113) g dX3_bestOver_112 rfl rfl ?_
            refine r_iload (pc' := 115) g dX3_bestOver_113 rfl rfl ?_
            refine r_put (pc' := 118) g dX3_bestOver_115 rfl fl_X3_19 rfl lC_38 (eC_38 w _ _) (Nat.le_of_ble_eq_true rfl) (sC_38_4 w _ _ _) ?_
            refine r_ltM (fun M14 => ?_)
            refine r_iload (pc' := 120) g dX3_bestOver_118 rfl rfl ?_
            refine r_istore_n (pc' := 121) (L' := [rf w 38, .int p1, .int r9, .null, .int s.2.2, .int r7, .int r9]) g dX3_bestOver_120 rfl n2 rfl rfl ?_
            refine r_iload (pc' := 123) g dX3_bestOver_121 rfl rfl ?_
            refine r_istore_n (pc' := 124) (L' := [rf w 38, .int p1, .int r9, .int r7, .int s.2.2, .int r7, .int r9]) g dX3_bestOver_123 rfl n3 rfl rfl ?_
            refine r_iinc (pc' := 127) (b := 1) (L' := [rf w 38, .int p1, .int r9, .int r7, .int (s.2.2 + 1), .int r7, .int r9]) g dX3_bestOver_124 rfl rfl rfl n4 rfl rfl ?_
            refine r_goto (tgt := 15) g dX3_bestOver_127 rfl ?_
            exact r_weak (Ls2 (Ls2 (Ls2 (Ls2 (Ls2 (Ls1 (Ls1 Ls0))))))) (hr (r9, r7, s.2.2 + 1) M14)
          refine r_ceq (pc' := 106) (tgt := 112) g dX3_bestOver_103 rfl rfl ?_ ?_
          · skip
            exact r_weak (Ls2 (Ls2 (Ls1 (Ls1 (Ls2 (Ls2 (Ls2 Ls0))))))) (hjn13 () M10)
          · skip
            refine r_iload (pc' := 108) g dX3_bestOver_106 rfl rfl ?_
            refine r_iload_n (pc' := 109) g dX3_bestOver_108 rfl rfl ?_
            refine r_cge (pc' := 112) (tgt := 124) g dX3_bestOver_109 rfl rfl ?_ ?_
            · skip
              refine r_iinc (pc' := 127) (b := 1) (L' := [rf w 38, .int p1, .int s.1, .int s.2.1, .int (s.2.2 + 1), .int r7, .int r9]) g dX3_bestOver_124 rfl rfl rfl n4 rfl rfl ?_
              refine r_goto (tgt := 15) g dX3_bestOver_127 rfl ?_
              exact r_weak (Ls2 (Ls2 (Ls2 (Ls2 (Ls2 (Ls1 (Ls1 Ls0))))))) (hr (s.1, s.2.1, s.2.2 + 1) M10)
            · skip
              exact r_weak (Ls2 (Ls2 (Ls1 (Ls1 (Ls2 (Ls2 (Ls2 Ls0))))))) (hjn13 () M10)
        refine r_ceq (pc' := 51) (tgt := 78) g dX3_bestOver_48 rfl rfl ?_ ?_
        · skip
          exact r_weak (Ls2 (Ls2 (Ls2 (Ls2 (Ls2 (Ls1 (Ls1 Ls0))))))) (hjn6 () M3)
        · skip
          refine r_aload_n (pc' := 52) g dX3_bestOver_51 rfl rfl ?_
          refine r_get (pc' := 55) g dX3_bestOver_52 rfl fl_X3_23 lC_38 (eC_38 w _ _) rfl ?_
          refine r_iload (pc' := 57) g dX3_bestOver_55 rfl rfl ?_
          refine r_callVi (pc' := 60) (As := [.int s.2.2]) (rest := []) g dX3_bestOver_57 rfl ml_X3_46 mw_X10_fare mv_X10_fare (Nat.le_of_ble_eq_true rfl) (c_X10_fare _ w N s.2.2 M3) rfl lC_1 (eC_1 w _ _) rfl rfl (Nat.le_of_ble_eq_true rfl) (fun r15 M16 => ?_)
          refine r_iload_n (pc' := 61) g dX3_bestOver_60 rfl rfl ?_
          refine r_cge (pc' := 64) (tgt := 124) g dX3_bestOver_61 rfl rfl ?_ ?_
          · skip
            refine r_iinc (pc' := 127) (b := 1) (L' := [rf w 38, .int p1, .int s.1, .int s.2.1, .int (s.2.2 + 1), .null, .null]) g dX3_bestOver_124 rfl rfl rfl n4 rfl rfl ?_
            refine r_goto (tgt := 15) g dX3_bestOver_127 rfl ?_
            exact r_weak (Ls2 (Ls2 (Ls2 (Ls2 (Ls2 (Ls1 (Ls1 Ls0))))))) (hr (s.1, s.2.1, s.2.2 + 1) M16)
          · skip
            refine r_aload_n (pc' := 65) g dX3_bestOver_64 rfl rfl ?_
            refine r_iload (pc' := 67) g dX3_bestOver_65 rfl rfl ?_
            refine r_iload_n (pc' := 68) g dX3_bestOver_67 rfl rfl ?_
            refine r_callVi (pc' := 71) (As := [.int s.2.2, .int s.2.1]) (rest := []) g dX3_bestOver_68 rfl ml_X3_56 mw_X3_of mv_X3_of (Nat.le_of_ble_eq_true rfl) (c_X3_of _ w N s.2.2 s.2.1 M16) rfl lC_38 (eC_38 w _ _) rfl rfl (Nat.le_of_ble_eq_true rfl) (fun r17 M18 => ?_)
            refine r_iload_n (pc' := 72) g dX3_bestOver_71 rfl rfl ?_
            refine r_clt (pc' := 75) (tgt := 78) g dX3_bestOver_72 rfl rfl ?_ ?_
            · skip
              exact r_weak (Ls2 (Ls2 (Ls2 (Ls2 (Ls2 (Ls1 (Ls1 Ls0))))))) (hjn6 () M18)
            · skip
              refine r_goto (tgt := 124) g dX3_bestOver_75 rfl ?_
              refine r_iinc (pc' := 127) (b := 1) (L' := [rf w 38, .int p1, .int s.1, .int s.2.1, .int (s.2.2 + 1), .null, .null]) g dX3_bestOver_124 rfl rfl rfl n4 rfl rfl ?_
              refine r_goto (tgt := 15) g dX3_bestOver_127 rfl ?_
              exact r_weak (Ls2 (Ls2 (Ls2 (Ls2 (Ls2 (Ls1 (Ls1 Ls0))))))) (hr (s.1, s.2.1, s.2.2 + 1) M18)
      · skip
        refine r_goto (tgt := 124) g dX3_bestOver_39 rfl ?_
        refine r_iinc (pc' := 127) (b := 1) (L' := [rf w 38, .int p1, .int s.1, .int s.2.1, .int (s.2.2 + 1), .null, .null]) g dX3_bestOver_124 rfl rfl rfl n4 rfl rfl ?_
        refine r_goto (tgt := 15) g dX3_bestOver_127 rfl ?_
        exact r_weak (Ls2 (Ls2 (Ls2 (Ls2 (Ls2 (Ls1 (Ls1 Ls0))))))) (hr (s.1, s.2.1, s.2.2 + 1) M3)
set_option maxHeartbeats 4000000 in
set_option maxRecDepth 100000 in
theorem c_X3_bestOver (l : Launch) (w : W0) (N : Nat) (a1 : Int32) (M : Mm) : Ct l KC w 5 yX3_bestOver cX3_bestOver 7 (some .int) [rf w 38, .int a1] M (f_X3_bestOver N a1 M) := by
  refine ct_of [rf w 38, .int a1, .null, .null, .null, .null, .null] (by decide) (Nat.le_of_ble_eq_true rfl) rfl (fun Z e1 e2 e3 g => ?_)
  have g : Good KC w Z cX3_bestOver RX3 5 := g
  unfold f_X3_bestOver
  have n2 : 2 < Z.2.2.1 := by rw [e2]; decide
  have n3 : 3 < Z.2.2.1 := by rw [e2]; decide
  have n4 : 4 < Z.2.2.1 := by rw [e2]; decide
  refine r_aload_n (pc' := 1) g dX3_bestOver_0 rfl rfl ?_
  refine r_bipush (pc' := 3) (v := -9) g dX3_bestOver_1 rfl rfl ?_
  refine r_put (pc' := 6) g dX3_bestOver_3 rfl fl_X3_19 rfl lC_38 (eC_38 w _ _) (Nat.le_of_ble_eq_true rfl) (sC_38_4 w _ _ _) ?_
  refine r_ltM (fun M1 => ?_)
  refine r_bipush (pc' := 8) (v := -9) g dX3_bestOver_6 rfl rfl ?_
  refine r_istore_n (pc' := 9) (L' := [rf w 38, .int a1, .int (-9), .null, .null, .null, .null]) g dX3_bestOver_8 rfl n2 rfl rfl ?_
  refine r_bipush (pc' := 11) (v := -9) g dX3_bestOver_9 rfl rfl ?_
  refine r_istore_n (pc' := 12) (L' := [rf w 38, .int a1, .int (-9), .int (-9), .null, .null, .null]) g dX3_bestOver_11 rfl n3 rfl rfl ?_
  refine r_iconst (pc' := 13) (v := 0) g dX3_bestOver_12 rfl rfl ?_
  refine r_istore (pc' := 15) (L' := [rf w 38, .int a1, .int (-9), .int (-9), .int 0, .null, .null]) g dX3_bestOver_13 rfl n4 rfl rfl ?_
  refine r_weak (Ls2 (Ls2 (Ls2 (Ls2 (Ls2 (Ls1 (Ls1 Ls0))))))) (s_X3_bestOver_15 g e2 e3 N a1 _ (fun z19 M20 => ?_) N ((-9), (-9), 0) M1)
  refine r_iload_n (pc' := 131) g dX3_bestOver_130 rfl rfl ?_
  exact r_iret g e3 dX3_bestOver_131
def f_X11_best (N : Nat) (a1 : Int32) (M : Mm) : Rs :=
  lt' (fun (s1 : Unit) (M2 : Mm) =>
    ((bd (f_X11_theSet N  M2) fun r4 M5 =>
    (bd (f_X3_bestOver N r4 M5) fun r6 M7 =>
    (if a1 = 0 then
      (some (M7.1 38 4, M7))
    else
      (some (r6, M7))))) : Rs)) fun jn3 =>
  (if a1 = 0 then
    (jn3 () M)
  else
    (if a1 = 1 then
      (jn3 () M)
    else
      (bd (f_X11_refuse N (-2) M) fun r8 M9 =>
      (some (r8, M9)))))

set_option maxHeartbeats 4000000 in
set_option maxRecDepth 100000 in
theorem c_X11_best (l : Launch) (w : W0) (N : Nat) (a1 : Int32) (M : Mm) : Ct l KC w 6 yX11_best cX11_best 3 (some .int) [rf w 0, .int a1] M (f_X11_best N a1 M) := by
  refine ct_of [rf w 0, .int a1, .null] (by decide) (Nat.le_of_ble_eq_true rfl) rfl (fun Z e1 e2 e3 g => ?_)
  have g : Good KC w Z cX11_best RX11 6 := g
  unfold f_X11_best
  have n2 : 2 < Z.2.2.1 := by rw [e2]; decide
  refine r_iload_n (pc' := 1) g dX11_best_0 rfl rfl ?_
  refine r_jn (pj := 16) (Lj := fun (s1 : Unit) => [rf w 0, .int a1, .null]) (stj := fun (s1 : Unit) => []) (fun s1 M2 => ?_) (fun jn3 hjn3 => ?_)
  · skip
    refine r_aload_n (pc' := 17) g dX11_best_16 rfl rfl ?_
    refine r_get (pc' := 20) g dX11_best_17 rfl fl_X11_60 lC_0 (eC_0 w _ _) rfl ?_
    refine r_aload_n (pc' := 21) g dX11_best_20 rfl rfl ?_
    refine r_callVi (pc' := 24) (As := []) (rest := [rf w 38]) g dX11_best_21 rfl ml_X11_159 mw_X11_theSet mv_X11_theSet (Nat.le_of_ble_eq_true rfl) (c_X11_theSet _ w N  M2) rfl lC_0 (eC_0 w _ _) rfl rfl (Nat.le_of_ble_eq_true rfl) (fun r4 M5 => ?_)
    refine r_callVi (pc' := 27) (As := [.int r4]) (rest := []) g dX11_best_24 rfl ml_X11_182 mw_X3_bestOver mv_X3_bestOver (Nat.le_of_ble_eq_true rfl) (c_X3_bestOver _ w N r4 M5) rfl lC_38 (eC_38 w _ _) rfl rfl (Nat.le_of_ble_eq_true rfl) (fun r6 M7 => ?_)
    refine r_istore_n (pc' := 28) (L' := [rf w 0, .int a1, .int r6]) g dX11_best_27 rfl n2 rfl rfl ?_
    refine r_iload_n (pc' := 29) g dX11_best_28 rfl rfl ?_
    refine r_ifne (pc' := 32) (tgt := 42) g dX11_best_29 rfl rfl ?_ ?_
    · skip
      refine r_iload_n (pc' := 43) g dX11_best_42 rfl rfl ?_
      exact r_iret g e3 dX11_best_43
    · skip
      refine r_aload_n (pc' := 33) g dX11_best_32 rfl rfl ?_
      refine r_get (pc' := 36) g dX11_best_33 rfl fl_X11_60 lC_0 (eC_0 w _ _) rfl ?_
      refine r_get (pc' := 39) g dX11_best_36 rfl fl_X11_185 lC_38 (eC_38 w _ _) rfl ?_
      refine r_goto (tgt := 43) g dX11_best_39 rfl ?_
      exact r_iret g e3 dX11_best_43
  refine r_ifeq (pc' := 4) (tgt := 16) g dX11_best_1 rfl rfl ?_ ?_
  · skip
    exact r_weak (Ls2 (Ls2 (Ls1 Ls0))) (hjn3 () M)
  · skip
    refine r_iload_n (pc' := 5) g dX11_best_4 rfl rfl ?_
    refine r_iconst (pc' := 6) (v := 1) g dX11_best_5 rfl rfl ?_
    refine r_ceq (pc' := 9) (tgt := 16) g dX11_best_6 rfl rfl ?_ ?_
    · skip
      exact r_weak (Ls2 (Ls2 (Ls1 Ls0))) (hjn3 () M)
    · skip
      refine r_aload_n (pc' := 10) g dX11_best_9 rfl rfl ?_
      refine r_bipush (pc' := 12) (v := -2) g dX11_best_10 rfl rfl ?_
      refine r_callVi (pc' := 15) (As := [.int (-2)]) (rest := []) g dX11_best_12 rfl ml_X11_80 mw_X11_refuse mv_X11_refuse (Nat.le_of_ble_eq_true rfl) (c_X11_refuse _ w N (-2) M) rfl lC_0 (eC_0 w _ _) rfl rfl (Nat.le_of_ble_eq_true rfl) (fun r8 M9 => ?_)
      exact r_iret g e3 dX11_best_15
def f_X7_valueOf (N : Nat) (a0 : Int32) (a1 : Int32) (a2 : Int32) (M : Mm) : Rs :=
  if a0 < 1000 then
    (some (a0, M))
  else
    (if a0 < 1010 then
      (some ((a1 >>> ((2 * (a0 - 1000)) &&& 31)) &&& 3, M))
    else
      (some ((a2 >>> ((a0 - 1010) &&& 31)) &&& 1, M)))

set_option maxHeartbeats 4000000 in
set_option maxRecDepth 100000 in
theorem c_X7_valueOf (l : Launch) (w : W0) (N : Nat) (a0 : Int32) (a1 : Int32) (a2 : Int32) (M : Mm) : Ct l KC w 0 yX7_valueOf cX7_valueOf 3 (some .int) [.int a0, .int a1, .int a2] M (f_X7_valueOf N a0 a1 a2 M) := by
  refine ct_of [.int a0, .int a1, .int a2] (by decide) (Nat.le_of_ble_eq_true rfl) rfl (fun Z e1 e2 e3 g => ?_)
  have g : Good KC w Z cX7_valueOf RX7 0 := g
  unfold f_X7_valueOf
  refine r_iload_n (pc' := 1) g dX7_valueOf_0 rfl rfl ?_
  refine r_sipush (pc' := 4) (v := 1000) g dX7_valueOf_1 rfl rfl ?_
  refine r_cge (pc' := 7) (tgt := 9) g dX7_valueOf_4 rfl rfl ?_ ?_
  · skip
    refine r_iload_n (pc' := 10) g dX7_valueOf_9 rfl rfl ?_
    refine r_sipush (pc' := 13) (v := 1010) g dX7_valueOf_10 rfl rfl ?_
    refine r_cge (pc' := 16) (tgt := 30) g dX7_valueOf_13 rfl rfl ?_ ?_
    · skip
      refine r_iload_n (pc' := 31) g dX7_valueOf_30 rfl rfl ?_
      refine r_iload_n (pc' := 32) g dX7_valueOf_31 rfl rfl ?_
      refine r_sipush (pc' := 35) (v := 1010) g dX7_valueOf_32 rfl rfl ?_
      refine r_isub (pc' := 36) g dX7_valueOf_35 rfl ?_
      refine r_ishr (pc' := 37) g dX7_valueOf_36 rfl ?_
      refine r_iconst (pc' := 38) (v := 1) g dX7_valueOf_37 rfl rfl ?_
      refine r_iand (pc' := 39) g dX7_valueOf_38 rfl ?_
      exact r_iret g e3 dX7_valueOf_39
    · skip
      refine r_iload_n (pc' := 17) g dX7_valueOf_16 rfl rfl ?_
      refine r_iconst (pc' := 18) (v := 2) g dX7_valueOf_17 rfl rfl ?_
      refine r_iload_n (pc' := 19) g dX7_valueOf_18 rfl rfl ?_
      refine r_sipush (pc' := 22) (v := 1000) g dX7_valueOf_19 rfl rfl ?_
      refine r_isub (pc' := 23) g dX7_valueOf_22 rfl ?_
      refine r_imul (pc' := 24) g dX7_valueOf_23 rfl ?_
      refine r_ishr (pc' := 25) g dX7_valueOf_24 rfl ?_
      refine r_iconst (pc' := 26) (v := 3) g dX7_valueOf_25 rfl rfl ?_
      refine r_iand (pc' := 27) g dX7_valueOf_26 rfl ?_
      refine r_goto (tgt := 39) g dX7_valueOf_27 rfl ?_
      exact r_iret g e3 dX7_valueOf_39
  · skip
    refine r_iload_n (pc' := 8) g dX7_valueOf_7 rfl rfl ?_
    exact r_iret g e3 dX7_valueOf_8
def f_X7_joined (N : Nat) (a0 : Int32) (a1 : Int32) (a2 : Int32) (M : Mm) : Rs :=
  if a0 = 1022 then
    (some (a1 * a2, M))
  else
    (if a0 = 1020 then
      (some (a1 + a2, M))
    else
      (some (a1 - a2, M)))

set_option maxHeartbeats 4000000 in
set_option maxRecDepth 100000 in
theorem c_X7_joined (l : Launch) (w : W0) (N : Nat) (a0 : Int32) (a1 : Int32) (a2 : Int32) (M : Mm) : Ct l KC w 0 yX7_joined cX7_joined 3 (some .int) [.int a0, .int a1, .int a2] M (f_X7_joined N a0 a1 a2 M) := by
  refine ct_of [.int a0, .int a1, .int a2] (by decide) (Nat.le_of_ble_eq_true rfl) rfl (fun Z e1 e2 e3 g => ?_)
  have g : Good KC w Z cX7_joined RX7 0 := g
  unfold f_X7_joined
  refine r_iload_n (pc' := 1) g dX7_joined_0 rfl rfl ?_
  refine r_sipush (pc' := 4) (v := 1022) g dX7_joined_1 rfl rfl ?_
  refine r_cne (pc' := 7) (tgt := 11) g dX7_joined_4 rfl rfl ?_ ?_
  · skip
    refine r_iload_n (pc' := 12) g dX7_joined_11 rfl rfl ?_
    refine r_sipush (pc' := 15) (v := 1020) g dX7_joined_12 rfl rfl ?_
    refine r_cne (pc' := 18) (tgt := 24) g dX7_joined_15 rfl rfl ?_ ?_
    · skip
      refine r_iload_n (pc' := 25) g dX7_joined_24 rfl rfl ?_
      refine r_iload_n (pc' := 26) g dX7_joined_25 rfl rfl ?_
      refine r_isub (pc' := 27) g dX7_joined_26 rfl ?_
      exact r_iret g e3 dX7_joined_27
    · skip
      refine r_iload_n (pc' := 19) g dX7_joined_18 rfl rfl ?_
      refine r_iload_n (pc' := 20) g dX7_joined_19 rfl rfl ?_
      refine r_iadd (pc' := 21) g dX7_joined_20 rfl ?_
      refine r_goto (tgt := 27) g dX7_joined_21 rfl ?_
      exact r_iret g e3 dX7_joined_27
  · skip
    refine r_iload_n (pc' := 8) g dX7_joined_7 rfl rfl ?_
    refine r_iload_n (pc' := 9) g dX7_joined_8 rfl rfl ?_
    refine r_imul (pc' := 10) g dX7_joined_9 rfl ?_
    exact r_iret g e3 dX7_joined_10
def B_X7_value_6 (N : Nat) (k : Nat) (p1 : Int32) (p2 : Int32) (G : Int32 → Mm → Rs) (rec : (Int32 × Int32) → Mm → Rs) (s : Int32 × Int32) (M : Mm) : Rs :=
  if s.2 < (M.1 k 1) then
      (if s.2 < 40 then
        (if inb s.2 40 then
        (if (M.1 (k + 1) (ix s.2)) < 1020 then
          (if s.1 < 40 then
            (bd (f_X7_valueOf N (M.1 (k + 1) (ix s.2)) p1 p2 M) fun r5 M6 =>
            (if inb s.1 40 then
            (lt' (wI M6 37 (ix s.1) r5) fun M7 =>
            (rec (s.1 + 1, s.2 + 1) M7)) else none))
          else
            (some (0, M)))
        else
          (if s.1 < 2 then
            (some (0, M))
          else
            (lt' (s.1 + (-1)) fun x1 =>
            (if inb (x1 - 1) 40 then
            (if inb x1 40 then
            (bd (f_X7_joined N (M.1 (k + 1) (ix s.2)) (M.1 37 (ix (x1 - 1))) (M.1 37 (ix x1)) M) fun r2 M3 =>
            (if inb (x1 - 1) 40 then
            (lt' (wI M3 37 (ix (x1 - 1)) r2) fun M4 =>
            (rec (x1, s.2 + 1) M4)) else none)) else none) else none)))) else none)
      else
        (G s.1 M))
    else
      (G s.1 M)

def f_X7_value (N : Nat) (k : Nat) (a1 : Int32) (a2 : Int32) (M : Mm) : Rs :=
  itr (B_X7_value_6 N k a1 a2 fun z8 M9 =>
  (if 0 < z8 then
    (if inb (z8 - 1) 40 then
    (some (M9.1 37 (ix (z8 - 1)), M9)) else none)
  else
    (some (0, M9)))) N (0, 0) M

set_option maxHeartbeats 4000000 in
set_option maxRecDepth 100000 in
theorem s_X7_value_6 {w : W0} {Z : Zx} (g : Good KC w Z cX7_value RX7 1) (e2 : Z.2.2.1 = 7) (e3 : Z.2.2.2 = (some .int)) (N : Nat) (k : Nat) (hk : isRl k = true) (p1 : Int32) (p2 : Int32) (G : Int32 → Mm → Rs) (kG : ∀ (x : Int32) (M : Mm), Sim KC w Z 103 [.null, .null, .null, rf w 37, .int x, .null, .null] [] M (G x M)) : ∀ (n : Nat) (s : Int32 × Int32) (M : Mm), Sim KC w Z 6 [rf w k, .int p1, .int p2, rf w 37, .int s.1, .int s.2, .null] [] M (itr (B_X7_value_6 N k p1 p2 G) n s M) := by
  have n4 : 4 < Z.2.2.1 := by rw [e2]; decide
  have n5 : 5 < Z.2.2.1 := by rw [e2]; decide
  have n6 : 6 < Z.2.2.1 := by rw [e2]; decide
  refine r_itr (Lf := fun (s : Int32 × Int32) => [rf w k, .int p1, .int p2, rf w 37, .int s.1, .int s.2, .null]) (fun rec hr s M => ?_)
  unfold B_X7_value_6
  refine r_iload (pc' := 8) g dX7_value_6 rfl rfl ?_
  refine r_aload_n (pc' := 9) g dX7_value_8 rfl rfl ?_
  refine r_get (pc' := 12) g dX7_value_9 rfl fl_X7_15 (lC_r hk) (eC_r hk w _ _) rfl ?_
  refine r_cge (pc' := 15) (tgt := 103) g dX7_value_12 rfl rfl ?_ ?_
  · skip
    exact r_weak (Ls1 (Ls1 (Ls1 (Ls2 (Ls2 (Ls1 (Ls1 Ls0))))))) (kG s.1 M)
  · skip
    refine r_iload (pc' := 17) g dX7_value_15 rfl rfl ?_
    refine r_bipush (pc' := 19) (v := 40) g dX7_value_17 rfl rfl ?_
    refine r_cge (pc' := 22) (tgt := 103) g dX7_value_19 rfl rfl ?_ ?_
    · skip
      exact r_weak (Ls1 (Ls1 (Ls1 (Ls2 (Ls2 (Ls1 (Ls1 Ls0))))))) (kG s.1 M)
    · skip
      refine r_aload_n (pc' := 23) g dX7_value_22 rfl rfl ?_
      refine r_get (pc' := 26) g dX7_value_23 rfl fl_X7_9 (lC_r hk) (eC_r hk w _ _) rfl ?_
      refine r_iload (pc' := 28) g dX7_value_26 rfl rfl ?_
      refine r_iald (pc' := 29) g dX7_value_28 rfl (lC_p hk) (eC_p hk w _ _) ?_
      refine r_istore (pc' := 31) (L' := [rf w k, .int p1, .int p2, rf w 37, .int s.1, .int s.2, .int (M.1 (k + 1) (ix s.2))]) g dX7_value_29 rfl n6 rfl rfl ?_
      refine r_iload (pc' := 33) g dX7_value_31 rfl rfl ?_
      refine r_sipush (pc' := 36) (v := 1020) g dX7_value_33 rfl rfl ?_
      refine r_cge (pc' := 39) (tgt := 65) g dX7_value_36 rfl rfl ?_ ?_
      · skip
        refine r_iload (pc' := 67) g dX7_value_65 rfl rfl ?_
        refine r_iconst (pc' := 68) (v := 2) g dX7_value_67 rfl rfl ?_
        refine r_cge (pc' := 71) (tgt := 73) g dX7_value_68 rfl rfl ?_ ?_
        · skip
          refine r_iincn (pc' := 76) (b := -1) (L' := fun x1 => [rf w k, .int p1, .int p2, rf w 37, .int x1, .int s.2, .int (M.1 (k + 1) (ix s.2))]) g dX7_value_73 rfl rfl rfl n4 rfl (fun _ => rfl) (fun x1 => ?_)
          refine r_aload_n (pc' := 77) g dX7_value_76 rfl rfl ?_
          refine r_iload (pc' := 79) g dX7_value_77 rfl rfl ?_
          refine r_iconst (pc' := 80) (v := 1) g dX7_value_79 rfl rfl ?_
          refine r_isub (pc' := 81) g dX7_value_80 rfl ?_
          refine r_iload (pc' := 83) g dX7_value_81 rfl rfl ?_
          refine r_aload_n (pc' := 84) g dX7_value_83 rfl rfl ?_
          refine r_iload (pc' := 86) g dX7_value_84 rfl rfl ?_
          refine r_iconst (pc' := 87) (v := 1) g dX7_value_86 rfl rfl ?_
          refine r_isub (pc' := 88) g dX7_value_87 rfl ?_
          refine r_iald (pc' := 89) g dX7_value_88 rfl lC_37 (eC_37 w _ _) ?_
          refine r_aload_n (pc' := 90) g dX7_value_89 rfl rfl ?_
          refine r_iload (pc' := 92) g dX7_value_90 rfl rfl ?_
          refine r_iald (pc' := 93) g dX7_value_92 rfl lC_37 (eC_37 w _ _) ?_
          refine r_callSi (pc' := 96) (As := [.int (M.1 (k + 1) (ix s.2)), .int (M.1 37 (ix (x1 - 1))), .int (M.1 37 (ix x1))]) (rest := [.int (x1 - 1), rf w 37]) g dX7_value_93 rfl ml_X7_29 mw_X7_joined ms_X7_joined (Nat.le_of_ble_eq_true rfl) (c_X7_joined _ w N (M.1 (k + 1) (ix s.2)) (M.1 37 (ix (x1 - 1))) (M.1 37 (ix x1)) M) rfl rfl (Nat.le_of_ble_eq_true rfl) (fun r2 M3 => ?_)
          refine r_iast (pc' := 97) g dX7_value_96 rfl lC_37 (fun m => eC_37 w m _) ?_
          refine r_ltM (fun M4 => ?_)
          refine r_iinc (pc' := 100) (b := 1) (L' := [rf w k, .int p1, .int p2, rf w 37, .int x1, .int (s.2 + 1), .int (M.1 (k + 1) (ix s.2))]) g dX7_value_97 rfl rfl rfl n5 rfl rfl ?_
          refine r_goto (tgt := 6) g dX7_value_100 rfl ?_
          exact r_weak (Ls2 (Ls2 (Ls2 (Ls2 (Ls2 (Ls2 (Ls1 Ls0))))))) (hr (x1, s.2 + 1) M4)
        · skip
          refine r_iconst (pc' := 72) (v := 0) g dX7_value_71 rfl rfl ?_
          exact r_iret g e3 dX7_value_72
      · skip
        refine r_iload (pc' := 41) g dX7_value_39 rfl rfl ?_
        refine r_aload_n (pc' := 42) g dX7_value_41 rfl rfl ?_
        refine r_alen (pc' := 43) (v := 40) (t := 0) g dX7_value_42 rfl lC_37 (eC_37 w _ _) rfl rfl ?_
        refine r_clt (pc' := 46) (tgt := 48) g dX7_value_43 rfl rfl ?_ ?_
        · skip
          refine r_aload_n (pc' := 49) g dX7_value_48 rfl rfl ?_
          refine r_iload (pc' := 51) g dX7_value_49 rfl rfl ?_
          refine r_iload (pc' := 53) g dX7_value_51 rfl rfl ?_
          refine r_iload_n (pc' := 54) g dX7_value_53 rfl rfl ?_
          refine r_iload_n (pc' := 55) g dX7_value_54 rfl rfl ?_
          refine r_callSi (pc' := 58) (As := [.int (M.1 (k + 1) (ix s.2)), .int p1, .int p2]) (rest := [.int s.1, rf w 37]) g dX7_value_55 rfl ml_X7_25 mw_X7_valueOf ms_X7_valueOf (Nat.le_of_ble_eq_true rfl) (c_X7_valueOf _ w N (M.1 (k + 1) (ix s.2)) p1 p2 M) rfl rfl (Nat.le_of_ble_eq_true rfl) (fun r5 M6 => ?_)
          refine r_iast (pc' := 59) g dX7_value_58 rfl lC_37 (fun m => eC_37 w m _) ?_
          refine r_ltM (fun M7 => ?_)
          refine r_iinc (pc' := 62) (b := 1) (L' := [rf w k, .int p1, .int p2, rf w 37, .int (s.1 + 1), .int s.2, .int (M.1 (k + 1) (ix s.2))]) g dX7_value_59 rfl rfl rfl n4 rfl rfl ?_
          refine r_goto (tgt := 97) g dX7_value_62 rfl ?_
          refine r_iinc (pc' := 100) (b := 1) (L' := [rf w k, .int p1, .int p2, rf w 37, .int (s.1 + 1), .int (s.2 + 1), .int (M.1 (k + 1) (ix s.2))]) g dX7_value_97 rfl rfl rfl n5 rfl rfl ?_
          refine r_goto (tgt := 6) g dX7_value_100 rfl ?_
          exact r_weak (Ls2 (Ls2 (Ls2 (Ls2 (Ls2 (Ls2 (Ls1 Ls0))))))) (hr (s.1 + 1, s.2 + 1) M7)
        · skip
          refine r_iconst (pc' := 47) (v := 0) g dX7_value_46 rfl rfl ?_
          exact r_iret g e3 dX7_value_47
set_option maxHeartbeats 4000000 in
set_option maxRecDepth 100000 in
theorem c_X7_value (l : Launch) (w : W0) (N : Nat) (k : Nat) (a1 : Int32) (a2 : Int32) (hk : isRl k = true) (M : Mm) : Ct l KC w 1 yX7_value cX7_value 7 (some .int) [rf w k, .int a1, .int a2, rf w 37] M (f_X7_value N k a1 a2 M) := by
  refine ct_of [rf w k, .int a1, .int a2, rf w 37, .null, .null, .null] (by decide) (Nat.le_of_ble_eq_true rfl) rfl (fun Z e1 e2 e3 g => ?_)
  have g : Good KC w Z cX7_value RX7 1 := g
  unfold f_X7_value
  have n4 : 4 < Z.2.2.1 := by rw [e2]; decide
  have n5 : 5 < Z.2.2.1 := by rw [e2]; decide
  refine r_iconst (pc' := 1) (v := 0) g dX7_value_0 rfl rfl ?_
  refine r_istore (pc' := 3) (L' := [rf w k, .int a1, .int a2, rf w 37, .int 0, .null, .null]) g dX7_value_1 rfl n4 rfl rfl ?_
  refine r_iconst (pc' := 4) (v := 0) g dX7_value_3 rfl rfl ?_
  refine r_istore (pc' := 6) (L' := [rf w k, .int a1, .int a2, rf w 37, .int 0, .int 0, .null]) g dX7_value_4 rfl n5 rfl rfl ?_
  refine r_weak (Ls2 (Ls2 (Ls2 (Ls2 (Ls2 (Ls2 (Ls1 Ls0))))))) (s_X7_value_6 g e2 e3 N k hk a1 a2 _ (fun z8 M9 => ?_) N (0, 0) M)
  refine r_iload (pc' := 105) g dX7_value_103 rfl rfl ?_
  refine r_ifle (pc' := 108) (tgt := 117) g dX7_value_105 rfl rfl ?_ ?_
  · skip
    refine r_iconst (pc' := 118) (v := 0) g dX7_value_117 rfl rfl ?_
    exact r_iret g e3 dX7_value_118
  · skip
    refine r_aload_n (pc' := 109) g dX7_value_108 rfl rfl ?_
    refine r_iload (pc' := 111) g dX7_value_109 rfl rfl ?_
    refine r_iconst (pc' := 112) (v := 1) g dX7_value_111 rfl rfl ?_
    refine r_isub (pc' := 113) g dX7_value_112 rfl ?_
    refine r_iald (pc' := 114) g dX7_value_113 rfl lC_37 (eC_37 w _ _) ?_
    refine r_goto (tgt := 118) g dX7_value_114 rfl ?_
    exact r_iret g e3 dX7_value_118
