def f_X12_least (N : Nat) (a0 : Int32) (a1 : Int32) (M : Mm) : Rs :=
  if a0 < a1 then
    (some (a0, M))
  else
    (some (a1, M))

set_option maxHeartbeats 4000000 in
set_option maxRecDepth 100000 in
theorem c_X12_least (l : Launch) (w : W0) (N : Nat) (a0 : Int32) (a1 : Int32) (M : Mm) : Ct l KM w 0 yX12_least cX12_least 2 (some .int) [.int a0, .int a1] M (f_X12_least N a0 a1 M) := by
  refine ct_of [.int a0, .int a1] (by decide) (Nat.le_of_ble_eq_true rfl) rfl (fun Z e1 e2 e3 g => ?_)
  have g : Good KM w Z cX12_least RX12 0 := g
  unfold f_X12_least
  refine r_iload_n (pc' := 1) g dX12_least_0 rfl rfl ?_
  refine r_iload_n (pc' := 2) g dX12_least_1 rfl rfl ?_
  refine r_cge (pc' := 5) (tgt := 9) g dX12_least_2 rfl rfl ?_ ?_
  · skip
    refine r_iload_n (pc' := 10) g dX12_least_9 rfl rfl ?_
    exact r_iret g e3 dX12_least_10
  · skip
    refine r_iload_n (pc' := 6) g dX12_least_5 rfl rfl ?_
    refine r_goto (tgt := 10) g dX12_least_6 rfl ?_
    exact r_iret g e3 dX12_least_10
def B_X12_worth_32 (N : Nat) (p1 : Int32) (p2 : Int32) (G : Int32 → Mm → Rs) (rec : (Int32 × Int32) → Mm → Rs) (s : Int32 × Int32) (M : Mm) : Rs :=
  if s.2 < 4 then
      (if inb s.2 4 then
      (if 0 < (M.1 15 (ix s.2)) then
        (if inb s.2 4 then
        (if inb ((24 + (4 * s.2)) + p2) 47 then
        (bd (f_X12_least N s.1 ((M.1 17 (ix s.2)) + (M.1 2 (ix ((24 + (4 * s.2)) + p2)))) M) fun r1 M2 =>
        (rec (r1, s.2 + 1) M2)) else none) else none)
      else
        (rec (s.1, s.2 + 1) M)) else none)
    else
      (G s.1 M)

def B_X12_worth_4 (N : Nat) (G : Int32 → Mm → Rs) (rec : (Int32 × Int32) → Mm → Rs) (s : Int32 × Int32) (M : Mm) : Rs :=
  if s.2 < 4 then
      (if inb s.2 4 then
      (if (M.1 16 (ix s.2)) = 0 then
        (rec (s.1, s.2 + 1) M)
      else
        (itr (B_X12_worth_32 N s.1 s.2 fun z3 M4 =>
        (if inb ((6 * s.2) + 3) 47 then
        (lt' (M4.1 2 (ix ((6 * s.2) + 3))) fun x5 =>
        (if inb s.2 4 then
        (if inb ((6 * s.2) + 4) 47 then
        (lt' ((M4.1 16 (ix s.2)) - (M4.1 2 (ix ((6 * s.2) + 4)))) fun x6 =>
        (bd (f_X12_least N z3 x5 M4) fun r7 M8 =>
        (if inb s.2 4 then
        (if x5 < z3 then
          (if 0 < x6 then
            (lt' (s.1 + ((r7 * (M8.1 16 (ix s.2))) + ((z3 - x5) * x6))) fun x11 =>
            (rec (x11, s.2 + 1) M8))
          else
            (lt' (s.1 + ((r7 * (M8.1 16 (ix s.2))) + 0)) fun x10 =>
            (rec (x10, s.2 + 1) M8)))
        else
          (lt' (s.1 + ((r7 * (M8.1 16 (ix s.2))) + 0)) fun x9 =>
          (rec (x9, s.2 + 1) M8))) else none))) else none) else none)) else none)) N (M.1 2 (ix 41), 0) M)) else none)
    else
      (G s.1 M)

def B_X12_worth_161 (N : Nat) (G : Int32 → Mm → Rs) (rec : (Int32 × Int32) → Mm → Rs) (s : Int32 × Int32) (M : Mm) : Rs :=
  if s.2 < 4 then
      (if inb s.2 4 then
      (if inb s.2 4 then
      (lt' (s.1 - ((M.1 17 (ix s.2)) * (M.1 15 (ix s.2)))) fun x14 =>
      (rec (x14, s.2 + 1) M)) else none) else none)
    else
      (G s.1 M)

def f_X12_worth (N : Nat) (M : Mm) : Rs :=
  itr (B_X12_worth_4 N fun z12 M13 =>
  (itr (B_X12_worth_161 N fun z15 M16 =>
  (some (z15, M16))) N (z12, 0) M13)) N (0, 0) M

set_option maxHeartbeats 4000000 in
set_option maxRecDepth 100000 in
theorem s_X12_worth_32 {w : W0} {Z : Zx} (g : Good KM w Z cX12_worth RX12 1) (e2 : Z.2.2.1 = 6) (e3 : Z.2.2.2 = (some .int)) (N : Nat) (p1 : Int32) (p2 : Int32) (G : Int32 → Mm → Rs) (kG : ∀ (x : Int32) (M : Mm), Sim KM w Z 81 [rf w 0, .int p1, .int p2, .int x, .null, .null] [] M (G x M)) : ∀ (n : Nat) (s : Int32 × Int32) (M : Mm), Sim KM w Z 32 [rf w 0, .int p1, .int p2, .int s.1, .int s.2, .null] [] M (itr (B_X12_worth_32 N p1 p2 G) n s M) := by
  have n3 : 3 < Z.2.2.1 := by rw [e2]; decide
  have n4 : 4 < Z.2.2.1 := by rw [e2]; decide
  refine r_itr (Lf := fun (s : Int32 × Int32) => [rf w 0, .int p1, .int p2, .int s.1, .int s.2, .null]) (fun rec hr s M => ?_)
  unfold B_X12_worth_32
  refine r_iload (pc' := 34) g dX12_worth_32 rfl rfl ?_
  refine r_iconst (pc' := 35) (v := 4) g dX12_worth_34 rfl rfl ?_
  refine r_cge (pc' := 38) (tgt := 81) g dX12_worth_35 rfl rfl ?_ ?_
  · skip
    exact r_weak (Ls2 (Ls2 (Ls2 (Ls2 (Ls1 (Ls1 Ls0)))))) (kG s.1 M)
  · skip
    refine r_aload_n (pc' := 39) g dX12_worth_38 rfl rfl ?_
    refine r_get (pc' := 42) g dX12_worth_39 rfl fl_X12_53 lM_0 (eM_0 w _ _) rfl ?_
    refine r_iload (pc' := 44) g dX12_worth_42 rfl rfl ?_
    refine r_iald (pc' := 45) g dX12_worth_44 rfl lM_15 (eM_15 w _ _) ?_
    refine r_ifle (pc' := 48) (tgt := 75) g dX12_worth_45 rfl rfl ?_ ?_
    · skip
      refine r_iinc (pc' := 78) (b := 1) (L' := [rf w 0, .int p1, .int p2, .int s.1, .int (s.2 + 1), .null]) g dX12_worth_75 rfl rfl rfl n4 rfl rfl ?_
      refine r_goto (tgt := 32) g dX12_worth_78 rfl ?_
      exact r_weak (Ls2 (Ls2 (Ls2 (Ls2 (Ls2 (Ls1 Ls0)))))) (hr (s.1, s.2 + 1) M)
    · skip
      refine r_iload_n (pc' := 49) g dX12_worth_48 rfl rfl ?_
      refine r_aload_n (pc' := 50) g dX12_worth_49 rfl rfl ?_
      refine r_get (pc' := 53) g dX12_worth_50 rfl fl_X12_59 lM_0 (eM_0 w _ _) rfl ?_
      refine r_iload (pc' := 55) g dX12_worth_53 rfl rfl ?_
      refine r_iald (pc' := 56) g dX12_worth_55 rfl lM_17 (eM_17 w _ _) ?_
      refine r_aload_n (pc' := 57) g dX12_worth_56 rfl rfl ?_
      refine r_get (pc' := 60) g dX12_worth_57 rfl fl_X12_13 lM_0 (eM_0 w _ _) rfl ?_
      refine r_bipush (pc' := 62) (v := 24) g dX12_worth_60 rfl rfl ?_
      refine r_iconst (pc' := 63) (v := 4) g dX12_worth_62 rfl rfl ?_
      refine r_iload (pc' := 65) g dX12_worth_63 rfl rfl ?_
      refine r_imul (pc' := 66) g dX12_worth_65 rfl ?_
      refine r_iadd (pc' := 67) g dX12_worth_66 rfl ?_
      refine r_iload_n (pc' := 68) g dX12_worth_67 rfl rfl ?_
      refine r_iadd (pc' := 69) g dX12_worth_68 rfl ?_
      refine r_iald (pc' := 70) g dX12_worth_69 rfl lM_2 (eM_2 w _ _) ?_
      refine r_iadd (pc' := 71) g dX12_worth_70 rfl ?_
      refine r_callSi (pc' := 74) (As := [.int s.1, .int ((M.1 17 (ix s.2)) + (M.1 2 (ix ((24 + (4 * s.2)) + p2))))]) (rest := []) g dX12_worth_71 rfl ml_X12_229 mw_X12_least ms_X12_least (Nat.le_of_ble_eq_true rfl) (c_X12_least _ w N s.1 ((M.1 17 (ix s.2)) + (M.1 2 (ix ((24 + (4 * s.2)) + p2)))) M) rfl rfl (Nat.le_of_ble_eq_true rfl) (fun r1 M2 => ?_)
      refine r_istore_n (pc' := 75) (L' := [rf w 0, .int p1, .int p2, .int r1, .int s.2, .null]) g dX12_worth_74 rfl n3 rfl rfl ?_
      refine r_iinc (pc' := 78) (b := 1) (L' := [rf w 0, .int p1, .int p2, .int r1, .int (s.2 + 1), .null]) g dX12_worth_75 rfl rfl rfl n4 rfl rfl ?_
      refine r_goto (tgt := 32) g dX12_worth_78 rfl ?_
      exact r_weak (Ls2 (Ls2 (Ls2 (Ls2 (Ls2 (Ls1 Ls0)))))) (hr (r1, s.2 + 1) M2)
set_option maxHeartbeats 4000000 in
set_option maxRecDepth 100000 in
theorem s_X12_worth_4 {w : W0} {Z : Zx} (g : Good KM w Z cX12_worth RX12 1) (e2 : Z.2.2.1 = 6) (e3 : Z.2.2.2 = (some .int)) (N : Nat) (G : Int32 → Mm → Rs) (kG : ∀ (x : Int32) (M : Mm), Sim KM w Z 159 [rf w 0, .int x, .null, .null, .null, .null] [] M (G x M)) : ∀ (n : Nat) (s : Int32 × Int32) (M : Mm), Sim KM w Z 4 [rf w 0, .int s.1, .int s.2, .null, .null, .null] [] M (itr (B_X12_worth_4 N G) n s M) := by
  have n1 : 1 < Z.2.2.1 := by rw [e2]; decide
  have n2 : 2 < Z.2.2.1 := by rw [e2]; decide
  have n3 : 3 < Z.2.2.1 := by rw [e2]; decide
  have n4 : 4 < Z.2.2.1 := by rw [e2]; decide
  have n5 : 5 < Z.2.2.1 := by rw [e2]; decide
  refine r_itr (Lf := fun (s : Int32 × Int32) => [rf w 0, .int s.1, .int s.2, .null, .null, .null]) (fun rec hr s M => ?_)
  unfold B_X12_worth_4
  refine r_iload_n (pc' := 5) g dX12_worth_4 rfl rfl ?_
  refine r_iconst (pc' := 6) (v := 4) g dX12_worth_5 rfl rfl ?_
  refine r_cge (pc' := 9) (tgt := 159) g dX12_worth_6 rfl rfl ?_ ?_
  · skip
    exact r_weak (Ls2 (Ls2 (Ls1 (Ls1 (Ls1 (Ls1 Ls0)))))) (kG s.1 M)
  · skip
    refine r_aload_n (pc' := 10) g dX12_worth_9 rfl rfl ?_
    refine r_get (pc' := 13) g dX12_worth_10 rfl fl_X12_56 lM_0 (eM_0 w _ _) rfl ?_
    refine r_iload_n (pc' := 14) g dX12_worth_13 rfl rfl ?_
    refine r_iald (pc' := 15) g dX12_worth_14 rfl lM_16 (eM_16 w _ _) ?_
    refine r_ifne (pc' := 18) (tgt := 21) g dX12_worth_15 rfl rfl ?_ ?_
    · skip
      refine r_aload_n (pc' := 22) g dX12_worth_21 rfl rfl ?_
      refine r_get (pc' := 25) g dX12_worth_22 rfl fl_X12_13 lM_0 (eM_0 w _ _) rfl ?_
      refine r_bipush (pc' := 27) (v := 41) g dX12_worth_25 rfl rfl ?_
      refine r_ialdc (pc' := 28) g dX12_worth_27 rfl lM_2 (eM_2 w _ _) rfl ?_
      refine r_istore_n (pc' := 29) (L' := [rf w 0, .int s.1, .int s.2, .int (M.1 2 (ix 41)), .null, .null]) g dX12_worth_28 rfl n3 rfl rfl ?_
      refine r_iconst (pc' := 30) (v := 0) g dX12_worth_29 rfl rfl ?_
      refine r_istore (pc' := 32) (L' := [rf w 0, .int s.1, .int s.2, .int (M.1 2 (ix 41)), .int 0, .null]) g dX12_worth_30 rfl n4 rfl rfl ?_
      refine r_weak (Ls2 (Ls2 (Ls2 (Ls2 (Ls2 (Ls1 Ls0)))))) (s_X12_worth_32 g e2 e3 N s.1 s.2 _ (fun z3 M4 => ?_) N (M.1 2 (ix 41), 0) M)
      refine r_aload_n (pc' := 82) g dX12_worth_81 rfl rfl ?_
      refine r_get (pc' := 85) g dX12_worth_82 rfl fl_X12_13 lM_0 (eM_0 w _ _) rfl ?_
      refine r_bipush (pc' := 87) (v := 6) g dX12_worth_85 rfl rfl ?_
      refine r_iload_n (pc' := 88) g dX12_worth_87 rfl rfl ?_
      refine r_imul (pc' := 89) g dX12_worth_88 rfl ?_
      refine r_iconst (pc' := 90) (v := 3) g dX12_worth_89 rfl rfl ?_
      refine r_iadd (pc' := 91) g dX12_worth_90 rfl ?_
      refine r_iald (pc' := 92) g dX12_worth_91 rfl lM_2 (eM_2 w _ _) ?_
      refine r_ltI (fun x5 => ?_)
      refine r_istore (pc' := 94) (L' := [rf w 0, .int s.1, .int s.2, .int z3, .int x5, .null]) g dX12_worth_92 rfl n4 rfl rfl ?_
      refine r_aload_n (pc' := 95) g dX12_worth_94 rfl rfl ?_
      refine r_get (pc' := 98) g dX12_worth_95 rfl fl_X12_56 lM_0 (eM_0 w _ _) rfl ?_
      refine r_iload_n (pc' := 99) g dX12_worth_98 rfl rfl ?_
      refine r_iald (pc' := 100) g dX12_worth_99 rfl lM_16 (eM_16 w _ _) ?_
      refine r_aload_n (pc' := 101) g dX12_worth_100 rfl rfl ?_
      refine r_get (pc' := 104) g dX12_worth_101 rfl fl_X12_13 lM_0 (eM_0 w _ _) rfl ?_
      refine r_bipush (pc' := 106) (v := 6) g dX12_worth_104 rfl rfl ?_
      refine r_iload_n (pc' := 107) g dX12_worth_106 rfl rfl ?_
      refine r_imul (pc' := 108) g dX12_worth_107 rfl ?_
      refine r_iconst (pc' := 109) (v := 4) g dX12_worth_108 rfl rfl ?_
      refine r_iadd (pc' := 110) g dX12_worth_109 rfl ?_
      refine r_iald (pc' := 111) g dX12_worth_110 rfl lM_2 (eM_2 w _ _) ?_
      refine r_isub (pc' := 112) g dX12_worth_111 rfl ?_
      refine r_ltI (fun x6 => ?_)
      refine r_istore (pc' := 114) (L' := [rf w 0, .int s.1, .int s.2, .int z3, .int x5, .int x6]) g dX12_worth_112 rfl n5 rfl rfl ?_
      refine r_iload_n (pc' := 115) g dX12_worth_114 rfl rfl ?_
      refine r_iload_n (pc' := 116) g dX12_worth_115 rfl rfl ?_
      refine r_iload (pc' := 118) g dX12_worth_116 rfl rfl ?_
      refine r_callSi (pc' := 121) (As := [.int z3, .int x5]) (rest := [.int s.1]) g dX12_worth_118 rfl ml_X12_229 mw_X12_least ms_X12_least (Nat.le_of_ble_eq_true rfl) (c_X12_least _ w N z3 x5 M4) rfl rfl (Nat.le_of_ble_eq_true rfl) (fun r7 M8 => ?_)
      refine r_aload_n (pc' := 122) g dX12_worth_121 rfl rfl ?_
      refine r_get (pc' := 125) g dX12_worth_122 rfl fl_X12_56 lM_0 (eM_0 w _ _) rfl ?_
      refine r_iload_n (pc' := 126) g dX12_worth_125 rfl rfl ?_
      refine r_iald (pc' := 127) g dX12_worth_126 rfl lM_16 (eM_16 w _ _) ?_
      refine r_imul (pc' := 128) g dX12_worth_127 rfl ?_
      refine r_iload_n (pc' := 129) g dX12_worth_128 rfl rfl ?_
      refine r_iload (pc' := 131) g dX12_worth_129 rfl rfl ?_
      refine r_cle (pc' := 134) (tgt := 149) g dX12_worth_131 rfl rfl ?_ ?_
      · skip
        refine r_iconst (pc' := 150) (v := 0) g dX12_worth_149 rfl rfl ?_
        refine r_iadd (pc' := 151) g dX12_worth_150 rfl ?_
        refine r_iadd (pc' := 152) g dX12_worth_151 rfl ?_
        refine r_ltI (fun x9 => ?_)
        refine r_istore_n (pc' := 153) (L' := [rf w 0, .int x9, .int s.2, .int z3, .int x5, .int x6]) g dX12_worth_152 rfl n1 rfl rfl ?_
        refine r_iinc (pc' := 156) (b := 1) (L' := [rf w 0, .int x9, .int (s.2 + 1), .int z3, .int x5, .int x6]) g dX12_worth_153 rfl rfl rfl n2 rfl rfl ?_
        refine r_goto (tgt := 4) g dX12_worth_156 rfl ?_
        exact r_weak (Ls2 (Ls2 (Ls2 (Ls1 (Ls1 (Ls1 Ls0)))))) (hr (x9, s.2 + 1) M8)
      · skip
        refine r_iload (pc' := 136) g dX12_worth_134 rfl rfl ?_
        refine r_ifle (pc' := 139) (tgt := 149) g dX12_worth_136 rfl rfl ?_ ?_
        · skip
          refine r_iconst (pc' := 150) (v := 0) g dX12_worth_149 rfl rfl ?_
          refine r_iadd (pc' := 151) g dX12_worth_150 rfl ?_
          refine r_iadd (pc' := 152) g dX12_worth_151 rfl ?_
          refine r_ltI (fun x10 => ?_)
          refine r_istore_n (pc' := 153) (L' := [rf w 0, .int x10, .int s.2, .int z3, .int x5, .int x6]) g dX12_worth_152 rfl n1 rfl rfl ?_
          refine r_iinc (pc' := 156) (b := 1) (L' := [rf w 0, .int x10, .int (s.2 + 1), .int z3, .int x5, .int x6]) g dX12_worth_153 rfl rfl rfl n2 rfl rfl ?_
          refine r_goto (tgt := 4) g dX12_worth_156 rfl ?_
          exact r_weak (Ls2 (Ls2 (Ls2 (Ls1 (Ls1 (Ls1 Ls0)))))) (hr (x10, s.2 + 1) M8)
        · skip
          refine r_iload_n (pc' := 140) g dX12_worth_139 rfl rfl ?_
          refine r_iload (pc' := 142) g dX12_worth_140 rfl rfl ?_
          refine r_isub (pc' := 143) g dX12_worth_142 rfl ?_
          refine r_iload (pc' := 145) g dX12_worth_143 rfl rfl ?_
          refine r_imul (pc' := 146) g dX12_worth_145 rfl ?_
          refine r_goto (tgt := 150) g dX12_worth_146 rfl ?_
          refine r_iadd (pc' := 151) g dX12_worth_150 rfl ?_
          refine r_iadd (pc' := 152) g dX12_worth_151 rfl ?_
          refine r_ltI (fun x11 => ?_)
          refine r_istore_n (pc' := 153) (L' := [rf w 0, .int x11, .int s.2, .int z3, .int x5, .int x6]) g dX12_worth_152 rfl n1 rfl rfl ?_
          refine r_iinc (pc' := 156) (b := 1) (L' := [rf w 0, .int x11, .int (s.2 + 1), .int z3, .int x5, .int x6]) g dX12_worth_153 rfl rfl rfl n2 rfl rfl ?_
          refine r_goto (tgt := 4) g dX12_worth_156 rfl ?_
          exact r_weak (Ls2 (Ls2 (Ls2 (Ls1 (Ls1 (Ls1 Ls0)))))) (hr (x11, s.2 + 1) M8)
    · skip
      refine r_goto (tgt := 153) g dX12_worth_18 rfl ?_
      refine r_iinc (pc' := 156) (b := 1) (L' := [rf w 0, .int s.1, .int (s.2 + 1), .null, .null, .null]) g dX12_worth_153 rfl rfl rfl n2 rfl rfl ?_
      refine r_goto (tgt := 4) g dX12_worth_156 rfl ?_
      exact r_weak (Ls2 (Ls2 (Ls2 (Ls1 (Ls1 (Ls1 Ls0)))))) (hr (s.1, s.2 + 1) M)
set_option maxHeartbeats 4000000 in
set_option maxRecDepth 100000 in
theorem s_X12_worth_161 {w : W0} {Z : Zx} (g : Good KM w Z cX12_worth RX12 1) (e2 : Z.2.2.1 = 6) (e3 : Z.2.2.2 = (some .int)) (N : Nat) (G : Int32 → Mm → Rs) (kG : ∀ (x : Int32) (M : Mm), Sim KM w Z 188 [.null, .int x, .null, .null, .null, .null] [] M (G x M)) : ∀ (n : Nat) (s : Int32 × Int32) (M : Mm), Sim KM w Z 161 [rf w 0, .int s.1, .int s.2, .null, .null, .null] [] M (itr (B_X12_worth_161 N G) n s M) := by
  have n1 : 1 < Z.2.2.1 := by rw [e2]; decide
  have n2 : 2 < Z.2.2.1 := by rw [e2]; decide
  refine r_itr (Lf := fun (s : Int32 × Int32) => [rf w 0, .int s.1, .int s.2, .null, .null, .null]) (fun rec hr s M => ?_)
  unfold B_X12_worth_161
  refine r_iload_n (pc' := 162) g dX12_worth_161 rfl rfl ?_
  refine r_iconst (pc' := 163) (v := 4) g dX12_worth_162 rfl rfl ?_
  refine r_cge (pc' := 166) (tgt := 188) g dX12_worth_163 rfl rfl ?_ ?_
  · skip
    exact r_weak (Ls1 (Ls2 (Ls1 (Ls1 (Ls1 (Ls1 Ls0)))))) (kG s.1 M)
  · skip
    refine r_iload_n (pc' := 167) g dX12_worth_166 rfl rfl ?_
    refine r_aload_n (pc' := 168) g dX12_worth_167 rfl rfl ?_
    refine r_get (pc' := 171) g dX12_worth_168 rfl fl_X12_59 lM_0 (eM_0 w _ _) rfl ?_
    refine r_iload_n (pc' := 172) g dX12_worth_171 rfl rfl ?_
    refine r_iald (pc' := 173) g dX12_worth_172 rfl lM_17 (eM_17 w _ _) ?_
    refine r_aload_n (pc' := 174) g dX12_worth_173 rfl rfl ?_
    refine r_get (pc' := 177) g dX12_worth_174 rfl fl_X12_53 lM_0 (eM_0 w _ _) rfl ?_
    refine r_iload_n (pc' := 178) g dX12_worth_177 rfl rfl ?_
    refine r_iald (pc' := 179) g dX12_worth_178 rfl lM_15 (eM_15 w _ _) ?_
    refine r_imul (pc' := 180) g dX12_worth_179 rfl ?_
    refine r_isub (pc' := 181) g dX12_worth_180 rfl ?_
    refine r_ltI (fun x14 => ?_)
    refine r_istore_n (pc' := 182) (L' := [rf w 0, .int x14, .int s.2, .null, .null, .null]) g dX12_worth_181 rfl n1 rfl rfl ?_
    refine r_iinc (pc' := 185) (b := 1) (L' := [rf w 0, .int x14, .int (s.2 + 1), .null, .null, .null]) g dX12_worth_182 rfl rfl rfl n2 rfl rfl ?_
    refine r_goto (tgt := 161) g dX12_worth_185 rfl ?_
    exact r_weak (Ls2 (Ls2 (Ls2 (Ls1 (Ls1 (Ls1 Ls0)))))) (hr (x14, s.2 + 1) M)
set_option maxHeartbeats 4000000 in
set_option maxRecDepth 100000 in
theorem c_X12_worth (l : Launch) (w : W0) (N : Nat) (M : Mm) : Ct l KM w 1 yX12_worth cX12_worth 6 (some .int) [rf w 0] M (f_X12_worth N M) := by
  refine ct_of [rf w 0, .null, .null, .null, .null, .null] (by decide) (Nat.le_of_ble_eq_true rfl) rfl (fun Z e1 e2 e3 g => ?_)
  have g : Good KM w Z cX12_worth RX12 1 := g
  unfold f_X12_worth
  have n1 : 1 < Z.2.2.1 := by rw [e2]; decide
  have n2 : 2 < Z.2.2.1 := by rw [e2]; decide
  refine r_iconst (pc' := 1) (v := 0) g dX12_worth_0 rfl rfl ?_
  refine r_istore_n (pc' := 2) (L' := [rf w 0, .int 0, .null, .null, .null, .null]) g dX12_worth_1 rfl n1 rfl rfl ?_
  refine r_iconst (pc' := 3) (v := 0) g dX12_worth_2 rfl rfl ?_
  refine r_istore_n (pc' := 4) (L' := [rf w 0, .int 0, .int 0, .null, .null, .null]) g dX12_worth_3 rfl n2 rfl rfl ?_
  refine r_weak (Ls2 (Ls2 (Ls2 (Ls1 (Ls1 (Ls1 Ls0)))))) (s_X12_worth_4 g e2 e3 N _ (fun z12 M13 => ?_) N (0, 0) M)
  refine r_iconst (pc' := 160) (v := 0) g dX12_worth_159 rfl rfl ?_
  refine r_istore_n (pc' := 161) (L' := [rf w 0, .int z12, .int 0, .null, .null, .null]) g dX12_worth_160 rfl n2 rfl rfl ?_
  refine r_weak (Ls2 (Ls2 (Ls2 (Ls1 (Ls1 (Ls1 Ls0)))))) (s_X12_worth_161 g e2 e3 N _ (fun z15 M16 => ?_) N (z12, 0) M13)
  refine r_iload_n (pc' := 189) g dX12_worth_188 rfl rfl ?_
  exact r_iret g e3 dX12_worth_189
def f_X12_tries (N : Nat) (M : Mm) : Rs :=
  bd (f_X12_worth N  M) fun r1 M2 =>
  (if (M2.1 0 26) < r1 then
    (lt' (wI M2 0 26 r1) fun M3 =>
    (some (0, M3)))
  else
    (some (0, M2)))

set_option maxHeartbeats 4000000 in
set_option maxRecDepth 100000 in
theorem c_X12_tries (l : Launch) (w : W0) (N : Nat) (M : Mm) : Ct l KM w 2 yX12_tries cX12_tries 2 none [rf w 0] M (f_X12_tries N M) := by
  refine ct_of [rf w 0, .null] (by decide) (Nat.le_of_ble_eq_true rfl) rfl (fun Z e1 e2 e3 g => ?_)
  have g : Good KM w Z cX12_tries RX12 2 := g
  unfold f_X12_tries
  have n1 : 1 < Z.2.2.1 := by rw [e2]; decide
  refine r_aload_n (pc' := 1) g dX12_tries_0 rfl rfl ?_
  refine r_callVi (pc' := 4) (As := []) (rest := []) g dX12_tries_1 rfl ml_X12_232 mw_X12_worth mv_X12_worth (Nat.le_of_ble_eq_true rfl) (c_X12_worth _ w N  M) rfl lM_0 (eM_0 w _ _) rfl rfl (Nat.le_of_ble_eq_true rfl) (fun r1 M2 => ?_)
  refine r_istore_n (pc' := 5) (L' := [rf w 0, .int r1]) g dX12_tries_4 rfl n1 rfl rfl ?_
  refine r_iload_n (pc' := 6) g dX12_tries_5 rfl rfl ?_
  refine r_aload_n (pc' := 7) g dX12_tries_6 rfl rfl ?_
  refine r_get (pc' := 10) g dX12_tries_7 rfl fl_X12_235 lM_0 (eM_0 w _ _) rfl ?_
  refine r_cle (pc' := 13) (tgt := 18) g dX12_tries_10 rfl rfl ?_ ?_
  · skip
    exact r_vret g e3 dX12_tries_18
  · skip
    refine r_aload_n (pc' := 14) g dX12_tries_13 rfl rfl ?_
    refine r_iload_n (pc' := 15) g dX12_tries_14 rfl rfl ?_
    refine r_put (pc' := 18) g dX12_tries_15 rfl fl_X12_235 rfl lM_0 (eM_0 w _ _) (Nat.le_of_ble_eq_true rfl) (sM_0_26 w _ _ _) ?_
    refine r_ltM (fun M3 => ?_)
    exact r_vret g e3 dX12_tries_18
def B_X12_triesLevel_2 (N : Nat) (p1 : Int32) (p2 : Int32) (G : Unit → Mm → Rs) (rec : Int32 → Mm → Rs) (s : Int32) (M : Mm) : Rs :=
  if s < 4 then
      (if inb ((24 + (4 * s)) + p1) 47 then
      (lt' (p2 - (M.1 2 (ix ((24 + (4 * s)) + p1)))) fun x1 =>
      (if inb s 4 then
      (if 0 < (M.1 15 (ix s)) then
        (if 0 < x1 then
          (if inb s 4 then
          (lt' (wI M 17 (ix s) x1) fun M4 =>
          (rec (s + 1) M4)) else none)
        else
          (if inb s 4 then
          (lt' (wI M 17 (ix s) 0) fun M3 =>
          (rec (s + 1) M3)) else none))
      else
        (if inb s 4 then
        (lt' (wI M 17 (ix s) 0) fun M2 =>
        (rec (s + 1) M2)) else none)) else none)) else none)
    else
      (G () M)

def f_X12_triesLevel (N : Nat) (a1 : Int32) (a2 : Int32) (M : Mm) : Rs :=
  itr (B_X12_triesLevel_2 N a1 a2 fun z5 M6 =>
  (bd (f_X12_tries N  M6) fun r7 M8 =>
  (some (0, M8)))) N 0 M

set_option maxHeartbeats 4000000 in
set_option maxRecDepth 100000 in
theorem s_X12_triesLevel_2 {w : W0} {Z : Zx} (g : Good KM w Z cX12_triesLevel RX12 3) (e2 : Z.2.2.1 = 5) (e3 : Z.2.2.2 = none) (N : Nat) (p1 : Int32) (p2 : Int32) (G : Unit → Mm → Rs) (kG : ∀ (x : Unit) (M : Mm), Sim KM w Z 56 [rf w 0, .null, .null, .null, .null] [] M (G x M)) : ∀ (n : Nat) (s : Int32) (M : Mm), Sim KM w Z 2 [rf w 0, .int p1, .int p2, .int s, .null] [] M (itr (B_X12_triesLevel_2 N p1 p2 G) n s M) := by
  have n3 : 3 < Z.2.2.1 := by rw [e2]; decide
  have n4 : 4 < Z.2.2.1 := by rw [e2]; decide
  refine r_itr (Lf := fun (s : Int32) => [rf w 0, .int p1, .int p2, .int s, .null]) (fun rec hr s M => ?_)
  unfold B_X12_triesLevel_2
  refine r_iload_n (pc' := 3) g dX12_triesLevel_2 rfl rfl ?_
  refine r_iconst (pc' := 4) (v := 4) g dX12_triesLevel_3 rfl rfl ?_
  refine r_cge (pc' := 7) (tgt := 56) g dX12_triesLevel_4 rfl rfl ?_ ?_
  · skip
    exact r_weak (Ls2 (Ls1 (Ls1 (Ls1 (Ls1 Ls0))))) (kG () M)
  · skip
    refine r_iload_n (pc' := 8) g dX12_triesLevel_7 rfl rfl ?_
    refine r_aload_n (pc' := 9) g dX12_triesLevel_8 rfl rfl ?_
    refine r_get (pc' := 12) g dX12_triesLevel_9 rfl fl_X12_13 lM_0 (eM_0 w _ _) rfl ?_
    refine r_bipush (pc' := 14) (v := 24) g dX12_triesLevel_12 rfl rfl ?_
    refine r_iconst (pc' := 15) (v := 4) g dX12_triesLevel_14 rfl rfl ?_
    refine r_iload_n (pc' := 16) g dX12_triesLevel_15 rfl rfl ?_
    refine r_imul (pc' := 17) g dX12_triesLevel_16 rfl ?_
    refine r_iadd (pc' := 18) g dX12_triesLevel_17 rfl ?_
    refine r_iload_n (pc' := 19) g dX12_triesLevel_18 rfl rfl ?_
    refine r_iadd (pc' := 20) g dX12_triesLevel_19 rfl ?_
    refine r_iald (pc' := 21) g dX12_triesLevel_20 rfl lM_2 (eM_2 w _ _) ?_
    refine r_isub (pc' := 22) g dX12_triesLevel_21 rfl ?_
    refine r_ltI (fun x1 => ?_)
    refine r_istore (pc' := 24) (L' := [rf w 0, .int p1, .int p2, .int s, .int x1]) g dX12_triesLevel_22 rfl n4 rfl rfl ?_
    refine r_aload_n (pc' := 25) g dX12_triesLevel_24 rfl rfl ?_
    refine r_get (pc' := 28) g dX12_triesLevel_25 rfl fl_X12_59 lM_0 (eM_0 w _ _) rfl ?_
    refine r_iload_n (pc' := 29) g dX12_triesLevel_28 rfl rfl ?_
    refine r_aload_n (pc' := 30) g dX12_triesLevel_29 rfl rfl ?_
    refine r_get (pc' := 33) g dX12_triesLevel_30 rfl fl_X12_53 lM_0 (eM_0 w _ _) rfl ?_
    refine r_iload_n (pc' := 34) g dX12_triesLevel_33 rfl rfl ?_
    refine r_iald (pc' := 35) g dX12_triesLevel_34 rfl lM_15 (eM_15 w _ _) ?_
    refine r_ifle (pc' := 38) (tgt := 48) g dX12_triesLevel_35 rfl rfl ?_ ?_
    · skip
      refine r_iconst (pc' := 49) (v := 0) g dX12_triesLevel_48 rfl rfl ?_
      refine r_iast (pc' := 50) g dX12_triesLevel_49 rfl lM_17 (fun m => eM_17 w m _) ?_
      refine r_ltM (fun M2 => ?_)
      refine r_iinc (pc' := 53) (b := 1) (L' := [rf w 0, .int p1, .int p2, .int (s + 1), .int x1]) g dX12_triesLevel_50 rfl rfl rfl n3 rfl rfl ?_
      refine r_goto (tgt := 2) g dX12_triesLevel_53 rfl ?_
      exact r_weak (Ls2 (Ls2 (Ls2 (Ls2 (Ls1 Ls0))))) (hr (s + 1) M2)
    · skip
      refine r_iload (pc' := 40) g dX12_triesLevel_38 rfl rfl ?_
      refine r_ifle (pc' := 43) (tgt := 48) g dX12_triesLevel_40 rfl rfl ?_ ?_
      · skip
        refine r_iconst (pc' := 49) (v := 0) g dX12_triesLevel_48 rfl rfl ?_
        refine r_iast (pc' := 50) g dX12_triesLevel_49 rfl lM_17 (fun m => eM_17 w m _) ?_
        refine r_ltM (fun M3 => ?_)
        refine r_iinc (pc' := 53) (b := 1) (L' := [rf w 0, .int p1, .int p2, .int (s + 1), .int x1]) g dX12_triesLevel_50 rfl rfl rfl n3 rfl rfl ?_
        refine r_goto (tgt := 2) g dX12_triesLevel_53 rfl ?_
        exact r_weak (Ls2 (Ls2 (Ls2 (Ls2 (Ls1 Ls0))))) (hr (s + 1) M3)
      · skip
        refine r_iload (pc' := 45) g dX12_triesLevel_43 rfl rfl ?_
        refine r_goto (tgt := 49) g dX12_triesLevel_45 rfl ?_
        refine r_iast (pc' := 50) g dX12_triesLevel_49 rfl lM_17 (fun m => eM_17 w m _) ?_
        refine r_ltM (fun M4 => ?_)
        refine r_iinc (pc' := 53) (b := 1) (L' := [rf w 0, .int p1, .int p2, .int (s + 1), .int x1]) g dX12_triesLevel_50 rfl rfl rfl n3 rfl rfl ?_
        refine r_goto (tgt := 2) g dX12_triesLevel_53 rfl ?_
        exact r_weak (Ls2 (Ls2 (Ls2 (Ls2 (Ls1 Ls0))))) (hr (s + 1) M4)
set_option maxHeartbeats 4000000 in
set_option maxRecDepth 100000 in
theorem c_X12_triesLevel (l : Launch) (w : W0) (N : Nat) (a1 : Int32) (a2 : Int32) (M : Mm) : Ct l KM w 3 yX12_triesLevel cX12_triesLevel 5 none [rf w 0, .int a1, .int a2] M (f_X12_triesLevel N a1 a2 M) := by
  refine ct_of [rf w 0, .int a1, .int a2, .null, .null] (by decide) (Nat.le_of_ble_eq_true rfl) rfl (fun Z e1 e2 e3 g => ?_)
  have g : Good KM w Z cX12_triesLevel RX12 3 := g
  unfold f_X12_triesLevel
  have n3 : 3 < Z.2.2.1 := by rw [e2]; decide
  refine r_iconst (pc' := 1) (v := 0) g dX12_triesLevel_0 rfl rfl ?_
  refine r_istore_n (pc' := 2) (L' := [rf w 0, .int a1, .int a2, .int 0, .null]) g dX12_triesLevel_1 rfl n3 rfl rfl ?_
  refine r_weak (Ls2 (Ls2 (Ls2 (Ls2 (Ls1 Ls0))))) (s_X12_triesLevel_2 g e2 e3 N a1 a2 _ (fun z5 M6 => ?_) N 0 M)
  refine r_aload_n (pc' := 57) g dX12_triesLevel_56 rfl rfl ?_
  refine r_callVv (pc' := 60) (As := []) (rest := []) g dX12_triesLevel_57 rfl ml_X12_241 mw_X12_tries mv_X12_tries (Nat.le_of_ble_eq_true rfl) (c_X12_tries _ w N  M6) rfl lM_0 (eM_0 w _ _) rfl rfl (Nat.le_of_ble_eq_true rfl) (fun r7 M8 => ?_)
  exact r_vret g e3 dX12_triesLevel_60
def f_X12_priceOf (N : Nat) (a1 : Int32) (a2 : Int32) (M : Mm) : Rs :=
  if a2 = 8 then
    (some (0, M))
  else
    (lt' (a2 / 2) fun x1 =>
    (if inb x1 4 then
    (if (M.1 16 (ix x1)) = 0 then
      (some (0, M))
    else
      (lt' (fun (s2 : Int32) (M3 : Mm) =>
        ((if inb ((24 + (4 * a1)) + x1) 47 then
        (lt' (s2 - (M3.1 2 (ix ((24 + (4 * a1)) + x1)))) fun x5 =>
        (if 0 < x5 then
          (some (x5, M3))
        else
          (some (0, M3)))) else none) : Rs)) fun jn4 =>
      (if (a2 - a2 / 2 * 2) = 0 then
        (jn4 (M.1 2 (ix 41)) M)
      else
        (if inb ((6 * x1) + 3) 47 then
        (jn4 (M.1 2 (ix ((6 * x1) + 3))) M) else none)))) else none))

set_option maxHeartbeats 4000000 in
set_option maxRecDepth 100000 in
theorem c_X12_priceOf (l : Launch) (w : W0) (N : Nat) (a1 : Int32) (a2 : Int32) (M : Mm) : Ct l KM w 0 yX12_priceOf cX12_priceOf 5 (some .int) [rf w 0, .int a1, .int a2] M (f_X12_priceOf N a1 a2 M) := by
  refine ct_of [rf w 0, .int a1, .int a2, .null, .null] (by decide) (Nat.le_of_ble_eq_true rfl) rfl (fun Z e1 e2 e3 g => ?_)
  have g : Good KM w Z cX12_priceOf RX12 0 := g
  unfold f_X12_priceOf
  have n3 : 3 < Z.2.2.1 := by rw [e2]; decide
  have n4 : 4 < Z.2.2.1 := by rw [e2]; decide
  refine r_iload_n (pc' := 1) g dX12_priceOf_0 rfl rfl ?_
  refine r_bipush (pc' := 3) (v := 8) g dX12_priceOf_1 rfl rfl ?_
  refine r_cne (pc' := 6) (tgt := 8) g dX12_priceOf_3 rfl rfl ?_ ?_
  · skip
    refine r_iload_n (pc' := 9) g dX12_priceOf_8 rfl rfl ?_
    refine r_iconst (pc' := 10) (v := 2) g dX12_priceOf_9 rfl rfl ?_
    refine r_idiv (pc' := 11) g dX12_priceOf_10 rfl (by decide) ?_
    refine r_ltI (fun x1 => ?_)
    refine r_istore_n (pc' := 12) (L' := [rf w 0, .int a1, .int a2, .int x1, .null]) g dX12_priceOf_11 rfl n3 rfl rfl ?_
    refine r_aload_n (pc' := 13) g dX12_priceOf_12 rfl rfl ?_
    refine r_get (pc' := 16) g dX12_priceOf_13 rfl fl_X12_56 lM_0 (eM_0 w _ _) rfl ?_
    refine r_iload_n (pc' := 17) g dX12_priceOf_16 rfl rfl ?_
    refine r_iald (pc' := 18) g dX12_priceOf_17 rfl lM_16 (eM_16 w _ _) ?_
    refine r_ifne (pc' := 21) (tgt := 23) g dX12_priceOf_18 rfl rfl ?_ ?_
    · skip
      refine r_iload_n (pc' := 24) g dX12_priceOf_23 rfl rfl ?_
      refine r_iconst (pc' := 25) (v := 2) g dX12_priceOf_24 rfl rfl ?_
      refine r_irem (pc' := 26) g dX12_priceOf_25 rfl (by decide) ?_
      refine r_jn (pj := 50) (Lj := fun (s2 : Int32) => [rf w 0, .int a1, .null, .int x1, .null]) (stj := fun (s2 : Int32) => [.int s2]) (fun s2 M3 => ?_) (fun jn4 hjn4 => ?_)
      · skip
        refine r_aload_n (pc' := 51) g dX12_priceOf_50 rfl rfl ?_
        refine r_get (pc' := 54) g dX12_priceOf_51 rfl fl_X12_13 lM_0 (eM_0 w _ _) rfl ?_
        refine r_bipush (pc' := 56) (v := 24) g dX12_priceOf_54 rfl rfl ?_
        refine r_iconst (pc' := 57) (v := 4) g dX12_priceOf_56 rfl rfl ?_
        refine r_iload_n (pc' := 58) g dX12_priceOf_57 rfl rfl ?_
        refine r_imul (pc' := 59) g dX12_priceOf_58 rfl ?_
        refine r_iadd (pc' := 60) g dX12_priceOf_59 rfl ?_
        refine r_iload_n (pc' := 61) g dX12_priceOf_60 rfl rfl ?_
        refine r_iadd (pc' := 62) g dX12_priceOf_61 rfl ?_
        refine r_iald (pc' := 63) g dX12_priceOf_62 rfl lM_2 (eM_2 w _ _) ?_
        refine r_isub (pc' := 64) g dX12_priceOf_63 rfl ?_
        refine r_ltI (fun x5 => ?_)
        refine r_istore (pc' := 66) (L' := [rf w 0, .int a1, .null, .int x1, .int x5]) g dX12_priceOf_64 rfl n4 rfl rfl ?_
        refine r_iload (pc' := 68) g dX12_priceOf_66 rfl rfl ?_
        refine r_ifle (pc' := 71) (tgt := 76) g dX12_priceOf_68 rfl rfl ?_ ?_
        · skip
          refine r_iconst (pc' := 77) (v := 0) g dX12_priceOf_76 rfl rfl ?_
          exact r_iret g e3 dX12_priceOf_77
        · skip
          refine r_iload (pc' := 73) g dX12_priceOf_71 rfl rfl ?_
          refine r_goto (tgt := 77) g dX12_priceOf_73 rfl ?_
          exact r_iret g e3 dX12_priceOf_77
      refine r_ifne (pc' := 29) (tgt := 39) g dX12_priceOf_26 rfl rfl ?_ ?_
      · skip
        refine r_aload_n (pc' := 40) g dX12_priceOf_39 rfl rfl ?_
        refine r_get (pc' := 43) g dX12_priceOf_40 rfl fl_X12_13 lM_0 (eM_0 w _ _) rfl ?_
        refine r_bipush (pc' := 45) (v := 6) g dX12_priceOf_43 rfl rfl ?_
        refine r_iload_n (pc' := 46) g dX12_priceOf_45 rfl rfl ?_
        refine r_imul (pc' := 47) g dX12_priceOf_46 rfl ?_
        refine r_iconst (pc' := 48) (v := 3) g dX12_priceOf_47 rfl rfl ?_
        refine r_iadd (pc' := 49) g dX12_priceOf_48 rfl ?_
        refine r_iald (pc' := 50) g dX12_priceOf_49 rfl lM_2 (eM_2 w _ _) ?_
        exact r_weak (Ls2 (Ls2 (Ls1 (Ls2 (Ls1 Ls0))))) (hjn4 (M.1 2 (ix ((6 * x1) + 3))) M)
      · skip
        refine r_aload_n (pc' := 30) g dX12_priceOf_29 rfl rfl ?_
        refine r_get (pc' := 33) g dX12_priceOf_30 rfl fl_X12_13 lM_0 (eM_0 w _ _) rfl ?_
        refine r_bipush (pc' := 35) (v := 41) g dX12_priceOf_33 rfl rfl ?_
        refine r_ialdc (pc' := 36) g dX12_priceOf_35 rfl lM_2 (eM_2 w _ _) rfl ?_
        refine r_goto (tgt := 50) g dX12_priceOf_36 rfl ?_
        exact r_weak (Ls2 (Ls2 (Ls1 (Ls2 (Ls1 Ls0))))) (hjn4 (M.1 2 (ix 41)) M)
    · skip
      refine r_iconst (pc' := 22) (v := 0) g dX12_priceOf_21 rfl rfl ?_
      exact r_iret g e3 dX12_priceOf_22
  · skip
    refine r_iconst (pc' := 7) (v := 0) g dX12_priceOf_6 rfl rfl ?_
    exact r_iret g e3 dX12_priceOf_7
def B_X12_triesTwo_23 (N : Nat) (p1 : Int32) (p2 : Int32) (p3 : Int32) (G : Unit → Mm → Rs) (rec : Int32 → Mm → Rs) (s : Int32) (M : Mm) : Rs :=
  if s < 9 then
      (bd (f_X12_priceOf N p2 s M) fun r4 M5 =>
      (if inb p2 4 then
      (lt' (wI M5 17 (ix p2) r4) fun M6 =>
      (bd (f_X12_tries N  M6) fun r7 M8 =>
      (rec (s + 1) M8))) else none))
    else
      (G () M)

def B_X12_triesTwo_56 (N : Nat) (p1 : Int32) (p2 : Int32) (p3 : Int32) (G : Unit → Mm → Rs) (rec : Int32 → Mm → Rs) (s : Int32) (M : Mm) : Rs :=
  if s < 4 then
      (if inb p1 4 then
      (if inb ((24 + (4 * p1)) + s) 47 then
      (if inb ((24 + (4 * p2)) + s) 47 then
      (lt' (((M.1 17 (ix p1)) + (M.1 2 (ix ((24 + (4 * p1)) + s)))) - (M.1 2 (ix ((24 + (4 * p2)) + s)))) fun x11 =>
      (lt' (fun (s12 : Int32) (M13 : Mm) =>
        ((if inb p2 4 then
        (lt' (wI M13 17 (ix p2) s12) fun M15 =>
        (if inb s 4 then
        (if 0 < (M15.1 16 (ix s)) then
          (bd (f_X12_tries N  M15) fun r16 M17 =>
          (rec (s + 1) M17))
        else
          (rec (s + 1) M15)) else none)) else none) : Rs)) fun jn14 =>
      (if 0 < x11 then
        (jn14 x11 M)
      else
        (jn14 0 M)))) else none) else none) else none)
    else
      (G () M)

def B_X12_triesTwo_2 (N : Nat) (p1 : Int32) (p2 : Int32) (G : Unit → Mm → Rs) (rec : Int32 → Mm → Rs) (s : Int32) (M : Mm) : Rs :=
  if s < 9 then
      (bd (f_X12_priceOf N p1 s M) fun r1 M2 =>
      (if inb p1 4 then
      (lt' (wI M2 17 (ix p1) r1) fun M3 =>
      (itr (B_X12_triesTwo_23 N p1 p2 s fun z9 M10 =>
      (itr (B_X12_triesTwo_56 N p1 p2 s fun z18 M19 =>
      (rec (s + 1) M19)) N 0 M10)) N 0 M3)) else none))
    else
      (G () M)

def f_X12_triesTwo (N : Nat) (a1 : Int32) (a2 : Int32) (M : Mm) : Rs :=
  itr (B_X12_triesTwo_2 N a1 a2 fun z20 M21 =>
  (some (0, M21))) N 0 M

set_option maxHeartbeats 4000000 in
set_option maxRecDepth 100000 in
theorem s_X12_triesTwo_23 {w : W0} {Z : Zx} (g : Good KM w Z cX12_triesTwo RX12 3) (e2 : Z.2.2.1 = 6) (e3 : Z.2.2.2 = none) (N : Nat) (p1 : Int32) (p2 : Int32) (p3 : Int32) (G : Unit → Mm → Rs) (kG : ∀ (x : Unit) (M : Mm), Sim KM w Z 53 [rf w 0, .int p1, .int p2, .int p3, .null, .null] [] M (G x M)) : ∀ (n : Nat) (s : Int32) (M : Mm), Sim KM w Z 23 [rf w 0, .int p1, .int p2, .int p3, .int s, .null] [] M (itr (B_X12_triesTwo_23 N p1 p2 p3 G) n s M) := by
  have n4 : 4 < Z.2.2.1 := by rw [e2]; decide
  refine r_itr (Lf := fun (s : Int32) => [rf w 0, .int p1, .int p2, .int p3, .int s, .null]) (fun rec hr s M => ?_)
  unfold B_X12_triesTwo_23
  refine r_iload (pc' := 25) g dX12_triesTwo_23 rfl rfl ?_
  refine r_bipush (pc' := 27) (v := 9) g dX12_triesTwo_25 rfl rfl ?_
  refine r_cge (pc' := 30) (tgt := 53) g dX12_triesTwo_27 rfl rfl ?_ ?_
  · skip
    exact r_weak (Ls2 (Ls2 (Ls2 (Ls2 (Ls1 (Ls1 Ls0)))))) (kG () M)
  · skip
    refine r_aload_n (pc' := 31) g dX12_triesTwo_30 rfl rfl ?_
    refine r_get (pc' := 34) g dX12_triesTwo_31 rfl fl_X12_59 lM_0 (eM_0 w _ _) rfl ?_
    refine r_iload_n (pc' := 35) g dX12_triesTwo_34 rfl rfl ?_
    refine r_aload_n (pc' := 36) g dX12_triesTwo_35 rfl rfl ?_
    refine r_iload_n (pc' := 37) g dX12_triesTwo_36 rfl rfl ?_
    refine r_iload (pc' := 39) g dX12_triesTwo_37 rfl rfl ?_
    refine r_callVi (pc' := 42) (As := [.int p2, .int s]) (rest := [.int p2, rf w 17]) g dX12_triesTwo_39 rfl ml_X12_238 mw_X12_priceOf mv_X12_priceOf (Nat.le_of_ble_eq_true rfl) (c_X12_priceOf _ w N p2 s M) rfl lM_0 (eM_0 w _ _) rfl rfl (Nat.le_of_ble_eq_true rfl) (fun r4 M5 => ?_)
    refine r_iast (pc' := 43) g dX12_triesTwo_42 rfl lM_17 (fun m => eM_17 w m _) ?_
    refine r_ltM (fun M6 => ?_)
    refine r_aload_n (pc' := 44) g dX12_triesTwo_43 rfl rfl ?_
    refine r_callVv (pc' := 47) (As := []) (rest := []) g dX12_triesTwo_44 rfl ml_X12_241 mw_X12_tries mv_X12_tries (Nat.le_of_ble_eq_true rfl) (c_X12_tries _ w N  M6) rfl lM_0 (eM_0 w _ _) rfl rfl (Nat.le_of_ble_eq_true rfl) (fun r7 M8 => ?_)
    refine r_iinc (pc' := 50) (b := 1) (L' := [rf w 0, .int p1, .int p2, .int p3, .int (s + 1), .null]) g dX12_triesTwo_47 rfl rfl rfl n4 rfl rfl ?_
    refine r_goto (tgt := 23) g dX12_triesTwo_50 rfl ?_
    exact r_weak (Ls2 (Ls2 (Ls2 (Ls2 (Ls2 (Ls1 Ls0)))))) (hr (s + 1) M8)
set_option maxHeartbeats 4000000 in
set_option maxRecDepth 100000 in
theorem s_X12_triesTwo_56 {w : W0} {Z : Zx} (g : Good KM w Z cX12_triesTwo RX12 3) (e2 : Z.2.2.1 = 6) (e3 : Z.2.2.2 = none) (N : Nat) (p1 : Int32) (p2 : Int32) (p3 : Int32) (G : Unit → Mm → Rs) (kG : ∀ (x : Unit) (M : Mm), Sim KM w Z 137 [rf w 0, .int p1, .int p2, .int p3, .null, .null] [] M (G x M)) : ∀ (n : Nat) (s : Int32) (M : Mm), Sim KM w Z 56 [rf w 0, .int p1, .int p2, .int p3, .int s, .null] [] M (itr (B_X12_triesTwo_56 N p1 p2 p3 G) n s M) := by
  have n4 : 4 < Z.2.2.1 := by rw [e2]; decide
  have n5 : 5 < Z.2.2.1 := by rw [e2]; decide
  refine r_itr (Lf := fun (s : Int32) => [rf w 0, .int p1, .int p2, .int p3, .int s, .null]) (fun rec hr s M => ?_)
  unfold B_X12_triesTwo_56
  refine r_iload (pc' := 58) g dX12_triesTwo_56 rfl rfl ?_
  refine r_iconst (pc' := 59) (v := 4) g dX12_triesTwo_58 rfl rfl ?_
  refine r_cge (pc' := 62) (tgt := 137) g dX12_triesTwo_59 rfl rfl ?_ ?_
  · skip
    exact r_weak (Ls2 (Ls2 (Ls2 (Ls2 (Ls1 (Ls1 Ls0)))))) (kG () M)
  · skip
    refine r_aload_n (pc' := 63) g dX12_triesTwo_62 rfl rfl ?_
    refine r_get (pc' := 66) g dX12_triesTwo_63 rfl fl_X12_59 lM_0 (eM_0 w _ _) rfl ?_
    refine r_iload_n (pc' := 67) g dX12_triesTwo_66 rfl rfl ?_
    refine r_iald (pc' := 68) g dX12_triesTwo_67 rfl lM_17 (eM_17 w _ _) ?_
    refine r_aload_n (pc' := 69) g dX12_triesTwo_68 rfl rfl ?_
    refine r_get (pc' := 72) g dX12_triesTwo_69 rfl fl_X12_13 lM_0 (eM_0 w _ _) rfl ?_
    refine r_bipush (pc' := 74) (v := 24) g dX12_triesTwo_72 rfl rfl ?_
    refine r_iconst (pc' := 75) (v := 4) g dX12_triesTwo_74 rfl rfl ?_
    refine r_iload_n (pc' := 76) g dX12_triesTwo_75 rfl rfl ?_
    refine r_imul (pc' := 77) g dX12_triesTwo_76 rfl ?_
    refine r_iadd (pc' := 78) g dX12_triesTwo_77 rfl ?_
    refine r_iload (pc' := 80) g dX12_triesTwo_78 rfl rfl ?_
    refine r_iadd (pc' := 81) g dX12_triesTwo_80 rfl ?_
    refine r_iald (pc' := 82) g dX12_triesTwo_81 rfl lM_2 (eM_2 w _ _) ?_
    refine r_iadd (pc' := 83) g dX12_triesTwo_82 rfl ?_
    refine r_aload_n (pc' := 84) g dX12_triesTwo_83 rfl rfl ?_
    refine r_get (pc' := 87) g dX12_triesTwo_84 rfl fl_X12_13 lM_0 (eM_0 w _ _) rfl ?_
    refine r_bipush (pc' := 89) (v := 24) g dX12_triesTwo_87 rfl rfl ?_
    refine r_iconst (pc' := 90) (v := 4) g dX12_triesTwo_89 rfl rfl ?_
    refine r_iload_n (pc' := 91) g dX12_triesTwo_90 rfl rfl ?_
    refine r_imul (pc' := 92) g dX12_triesTwo_91 rfl ?_
    refine r_iadd (pc' := 93) g dX12_triesTwo_92 rfl ?_
    refine r_iload (pc' := 95) g dX12_triesTwo_93 rfl rfl ?_
    refine r_iadd (pc' := 96) g dX12_triesTwo_95 rfl ?_
    refine r_iald (pc' := 97) g dX12_triesTwo_96 rfl lM_2 (eM_2 w _ _) ?_
    refine r_isub (pc' := 98) g dX12_triesTwo_97 rfl ?_
    refine r_ltI (fun x11 => ?_)
    refine r_istore (pc' := 100) (L' := [rf w 0, .int p1, .int p2, .int p3, .int s, .int x11]) g dX12_triesTwo_98 rfl n5 rfl rfl ?_
    refine r_aload_n (pc' := 101) g dX12_triesTwo_100 rfl rfl ?_
    refine r_get (pc' := 104) g dX12_triesTwo_101 rfl fl_X12_59 lM_0 (eM_0 w _ _) rfl ?_
    refine r_iload_n (pc' := 105) g dX12_triesTwo_104 rfl rfl ?_
    refine r_iload (pc' := 107) g dX12_triesTwo_105 rfl rfl ?_
    refine r_jn (pj := 116) (Lj := fun (s12 : Int32) => [rf w 0, .int p1, .int p2, .int p3, .int s, .null]) (stj := fun (s12 : Int32) => [.int s12, .int p2, rf w 17]) (fun s12 M13 => ?_) (fun jn14 hjn14 => ?_)
    · skip
      refine r_iast (pc' := 117) g dX12_triesTwo_116 rfl lM_17 (fun m => eM_17 w m _) ?_
      refine r_ltM (fun M15 => ?_)
      refine r_aload_n (pc' := 118) g dX12_triesTwo_117 rfl rfl ?_
      refine r_get (pc' := 121) g dX12_triesTwo_118 rfl fl_X12_56 lM_0 (eM_0 w _ _) rfl ?_
      refine r_iload (pc' := 123) g dX12_triesTwo_121 rfl rfl ?_
      refine r_iald (pc' := 124) g dX12_triesTwo_123 rfl lM_16 (eM_16 w _ _) ?_
      refine r_ifle (pc' := 127) (tgt := 131) g dX12_triesTwo_124 rfl rfl ?_ ?_
      · skip
        refine r_iinc (pc' := 134) (b := 1) (L' := [rf w 0, .int p1, .int p2, .int p3, .int (s + 1), .null]) g dX12_triesTwo_131 rfl rfl rfl n4 rfl rfl ?_
        refine r_goto (tgt := 56) g dX12_triesTwo_134 rfl ?_
        exact r_weak (Ls2 (Ls2 (Ls2 (Ls2 (Ls2 (Ls1 Ls0)))))) (hr (s + 1) M15)
      · skip
        refine r_aload_n (pc' := 128) g dX12_triesTwo_127 rfl rfl ?_
        refine r_callVv (pc' := 131) (As := []) (rest := []) g dX12_triesTwo_128 rfl ml_X12_241 mw_X12_tries mv_X12_tries (Nat.le_of_ble_eq_true rfl) (c_X12_tries _ w N  M15) rfl lM_0 (eM_0 w _ _) rfl rfl (Nat.le_of_ble_eq_true rfl) (fun r16 M17 => ?_)
        refine r_iinc (pc' := 134) (b := 1) (L' := [rf w 0, .int p1, .int p2, .int p3, .int (s + 1), .null]) g dX12_triesTwo_131 rfl rfl rfl n4 rfl rfl ?_
        refine r_goto (tgt := 56) g dX12_triesTwo_134 rfl ?_
        exact r_weak (Ls2 (Ls2 (Ls2 (Ls2 (Ls2 (Ls1 Ls0)))))) (hr (s + 1) M17)
    refine r_ifle (pc' := 110) (tgt := 115) g dX12_triesTwo_107 rfl rfl ?_ ?_
    · skip
      refine r_iconst (pc' := 116) (v := 0) g dX12_triesTwo_115 rfl rfl ?_
      exact r_weak (Ls2 (Ls2 (Ls2 (Ls2 (Ls2 (Ls1 Ls0)))))) (hjn14 0 M)
    · skip
      refine r_iload (pc' := 112) g dX12_triesTwo_110 rfl rfl ?_
      refine r_goto (tgt := 116) g dX12_triesTwo_112 rfl ?_
      exact r_weak (Ls2 (Ls2 (Ls2 (Ls2 (Ls2 (Ls1 Ls0)))))) (hjn14 x11 M)
set_option maxHeartbeats 4000000 in
set_option maxRecDepth 100000 in
theorem s_X12_triesTwo_2 {w : W0} {Z : Zx} (g : Good KM w Z cX12_triesTwo RX12 3) (e2 : Z.2.2.1 = 6) (e3 : Z.2.2.2 = none) (N : Nat) (p1 : Int32) (p2 : Int32) (G : Unit → Mm → Rs) (kG : ∀ (x : Unit) (M : Mm), Sim KM w Z 143 [.null, .null, .null, .null, .null, .null] [] M (G x M)) : ∀ (n : Nat) (s : Int32) (M : Mm), Sim KM w Z 2 [rf w 0, .int p1, .int p2, .int s, .null, .null] [] M (itr (B_X12_triesTwo_2 N p1 p2 G) n s M) := by
  have n3 : 3 < Z.2.2.1 := by rw [e2]; decide
  have n4 : 4 < Z.2.2.1 := by rw [e2]; decide
  refine r_itr (Lf := fun (s : Int32) => [rf w 0, .int p1, .int p2, .int s, .null, .null]) (fun rec hr s M => ?_)
  unfold B_X12_triesTwo_2
  refine r_iload_n (pc' := 3) g dX12_triesTwo_2 rfl rfl ?_
  refine r_bipush (pc' := 5) (v := 9) g dX12_triesTwo_3 rfl rfl ?_
  refine r_cge (pc' := 8) (tgt := 143) g dX12_triesTwo_5 rfl rfl ?_ ?_
  · skip
    exact r_weak (Ls1 (Ls1 (Ls1 (Ls1 (Ls1 (Ls1 Ls0)))))) (kG () M)
  · skip
    refine r_aload_n (pc' := 9) g dX12_triesTwo_8 rfl rfl ?_
    refine r_get (pc' := 12) g dX12_triesTwo_9 rfl fl_X12_59 lM_0 (eM_0 w _ _) rfl ?_
    refine r_iload_n (pc' := 13) g dX12_triesTwo_12 rfl rfl ?_
    refine r_aload_n (pc' := 14) g dX12_triesTwo_13 rfl rfl ?_
    refine r_iload_n (pc' := 15) g dX12_triesTwo_14 rfl rfl ?_
    refine r_iload_n (pc' := 16) g dX12_triesTwo_15 rfl rfl ?_
    refine r_callVi (pc' := 19) (As := [.int p1, .int s]) (rest := [.int p1, rf w 17]) g dX12_triesTwo_16 rfl ml_X12_238 mw_X12_priceOf mv_X12_priceOf (Nat.le_of_ble_eq_true rfl) (c_X12_priceOf _ w N p1 s M) rfl lM_0 (eM_0 w _ _) rfl rfl (Nat.le_of_ble_eq_true rfl) (fun r1 M2 => ?_)
    refine r_iast (pc' := 20) g dX12_triesTwo_19 rfl lM_17 (fun m => eM_17 w m _) ?_
    refine r_ltM (fun M3 => ?_)
    refine r_iconst (pc' := 21) (v := 0) g dX12_triesTwo_20 rfl rfl ?_
    refine r_istore (pc' := 23) (L' := [rf w 0, .int p1, .int p2, .int s, .int 0, .null]) g dX12_triesTwo_21 rfl n4 rfl rfl ?_
    refine r_weak (Ls2 (Ls2 (Ls2 (Ls2 (Ls2 (Ls1 Ls0)))))) (s_X12_triesTwo_23 g e2 e3 N p1 p2 s _ (fun z9 M10 => ?_) N 0 M3)
    refine r_iconst (pc' := 54) (v := 0) g dX12_triesTwo_53 rfl rfl ?_
    refine r_istore (pc' := 56) (L' := [rf w 0, .int p1, .int p2, .int s, .int 0, .null]) g dX12_triesTwo_54 rfl n4 rfl rfl ?_
    refine r_weak (Ls2 (Ls2 (Ls2 (Ls2 (Ls2 (Ls1 Ls0)))))) (s_X12_triesTwo_56 g e2 e3 N p1 p2 s _ (fun z18 M19 => ?_) N 0 M10)
    refine r_iinc (pc' := 140) (b := 1) (L' := [rf w 0, .int p1, .int p2, .int (s + 1), .null, .null]) g dX12_triesTwo_137 rfl rfl rfl n3 rfl rfl ?_
    refine r_goto (tgt := 2) g dX12_triesTwo_140 rfl ?_
    exact r_weak (Ls2 (Ls2 (Ls2 (Ls2 (Ls1 (Ls1 Ls0)))))) (hr (s + 1) M19)
set_option maxHeartbeats 4000000 in
set_option maxRecDepth 100000 in
theorem c_X12_triesTwo (l : Launch) (w : W0) (N : Nat) (a1 : Int32) (a2 : Int32) (M : Mm) : Ct l KM w 3 yX12_triesTwo cX12_triesTwo 6 none [rf w 0, .int a1, .int a2] M (f_X12_triesTwo N a1 a2 M) := by
  refine ct_of [rf w 0, .int a1, .int a2, .null, .null, .null] (by decide) (Nat.le_of_ble_eq_true rfl) rfl (fun Z e1 e2 e3 g => ?_)
  have g : Good KM w Z cX12_triesTwo RX12 3 := g
  unfold f_X12_triesTwo
  have n3 : 3 < Z.2.2.1 := by rw [e2]; decide
  refine r_iconst (pc' := 1) (v := 0) g dX12_triesTwo_0 rfl rfl ?_
  refine r_istore_n (pc' := 2) (L' := [rf w 0, .int a1, .int a2, .int 0, .null, .null]) g dX12_triesTwo_1 rfl n3 rfl rfl ?_
  refine r_weak (Ls2 (Ls2 (Ls2 (Ls2 (Ls1 (Ls1 Ls0)))))) (s_X12_triesTwo_2 g e2 e3 N a1 a2 _ (fun z20 M21 => ?_) N 0 M)
  exact r_vret g e3 dX12_triesTwo_143
def B_X12_laterOf_14 (N : Nat) (G : (Int32 × Int32) → Mm → Rs) (rec : (Int32 × Int32 × Int32) → Mm → Rs) (s : Int32 × Int32 × Int32) (M : Mm) : Rs :=
  if s.2.2 < 4 then
      (if inb s.2.2 4 then
      (lt' (wI M 17 (ix s.2.2) 0) fun M3 =>
      (if inb s.2.2 4 then
      (lt' (fun (s4 : Int32) (M5 : Mm) =>
        ((if inb s.2.2 4 then
        (if 0 < (M5.1 16 (ix s.2.2)) then
          (lt' (s.2.1 + 1) fun x8 =>
          (rec (s4, x8, s.2.2 + 1) M5))
        else
          (lt' (s.2.1 + 0) fun x7 =>
          (rec (s4, x7, s.2.2 + 1) M5))) else none) : Rs)) fun jn6 =>
      (if 0 < (M3.1 15 (ix s.2.2)) then
        (lt' (wI M3 0 28 (M3.1 0 27)) fun M9 =>
        (lt' (wI M9 0 27 s.2.2) fun M10 =>
        (jn6 (s.1 + 1) M10)))
      else
        (jn6 s.1 M3))) else none)) else none)
    else
      (G (s.1, s.2.1) M)

def B_X12_laterOf_159 (N : Nat) (p3 : Int32) (p4 : Int32) (p5 : Int32) (G : Unit → Mm → Rs) (rec : Int32 → Mm → Rs) (s : Int32) (M : Mm) : Rs :=
  if s < 4 then
      (if inb ((24 + (4 * s)) + p5) 47 then
      (bd (f_X12_triesLevel N p5 (M.1 2 (ix ((24 + (4 * s)) + p5))) M) fun r20 M21 =>
      (rec (s + 1) M21)) else none)
    else
      (G () M)

def B_X12_laterOf_100 (N : Nat) (p3 : Int32) (p4 : Int32) (G : Unit → Mm → Rs) (rec : Int32 → Mm → Rs) (s : Int32) (M : Mm) : Rs :=
  if s < 4 then
      (if p4 = 1 then
        (if inb s 4 then
        (if (M.1 16 (ix s)) = 0 then
          (rec (s + 1) M)
        else
          (bd (f_X12_triesLevel N s (M.1 2 (ix 41)) M) fun r16 M17 =>
          (if inb ((6 * s) + 3) 47 then
          (bd (f_X12_triesLevel N s (M17.1 2 (ix ((6 * s) + 3))) M17) fun r18 M19 =>
          (itr (B_X12_laterOf_159 N p3 p4 s fun z22 M23 =>
          (rec (s + 1) M23)) N 0 M19)) else none))) else none)
      else
        (G () M))
    else
      (G () M)

def B_X12_laterOf_201 (N : Nat) (p3 : Int32) (p4 : Int32) (G : Unit → Mm → Rs) (rec : Int32 → Mm → Rs) (s : Int32) (M : Mm) : Rs :=
  if s < 8 then
      (if 1 < p4 then
        (if p3 = 1 then
          (bd (f_X12_priceOf N (M.1 0 27) s M) fun r26 M27 =>
          (if inb (M.1 0 27) 4 then
          (lt' (wI M27 17 (ix (M.1 0 27)) r26) fun M28 =>
          (bd (f_X12_tries N  M28) fun r29 M30 =>
          (rec (s + 1) M30))) else none))
        else
          (G () M))
      else
        (G () M))
    else
      (G () M)

def f_X12_laterOf (N : Nat) (a1 : Int32) (a2 : Int32) (M : Mm) : Rs :=
  bd (f_X12_findLacks N a1 a2 M) fun r1 M2 =>
  (itr (B_X12_laterOf_14 N fun z11 M12 =>
  (lt' (wI M12 0 26 0) fun M13 =>
  (if z11.2 = 0 then
    (some (0, M13))
  else
    (bd (f_X12_tries N  M13) fun r14 M15 =>
    (itr (B_X12_laterOf_100 N z11.1 z11.2 fun z24 M25 =>
    (itr (B_X12_laterOf_201 N z11.1 z11.2 fun z31 M32 =>
    (if z11.2 = 2 then
      (if z11.1 = 2 then
        (bd (f_X12_triesTwo N (M32.1 0 27) (M32.1 0 28) M32) fun r33 M34 =>
        (bd (f_X12_triesTwo N (M34.1 0 28) (M34.1 0 27) M34) fun r35 M36 =>
        (some (M36.1 0 26, M36))))
      else
        (some (M32.1 0 26, M32)))
    else
      (some (M32.1 0 26, M32)))) N 0 M25)) N 0 M15))))) N (0, 0, 0) M2)

set_option maxHeartbeats 4000000 in
set_option maxRecDepth 100000 in
theorem s_X12_laterOf_14 {w : W0} {Z : Zx} (g : Good KM w Z cX12_laterOf RX12 4) (e2 : Z.2.2.1 = 7) (e3 : Z.2.2.2 = (some .int)) (N : Nat) (G : (Int32 × Int32) → Mm → Rs) (kG : ∀ (x : Int32 × Int32) (M : Mm), Sim KM w Z 81 [rf w 0, .null, .null, .int x.1, .int x.2, .null, .null] [] M (G x M)) : ∀ (n : Nat) (s : Int32 × Int32 × Int32) (M : Mm), Sim KM w Z 14 [rf w 0, .null, .null, .int s.1, .int s.2.1, .int s.2.2, .null] [] M (itr (B_X12_laterOf_14 N G) n s M) := by
  have n3 : 3 < Z.2.2.1 := by rw [e2]; decide
  have n4 : 4 < Z.2.2.1 := by rw [e2]; decide
  have n5 : 5 < Z.2.2.1 := by rw [e2]; decide
  refine r_itr (Lf := fun (s : Int32 × Int32 × Int32) => [rf w 0, .null, .null, .int s.1, .int s.2.1, .int s.2.2, .null]) (fun rec hr s M => ?_)
  unfold B_X12_laterOf_14
  refine r_iload (pc' := 16) g dX12_laterOf_14 rfl rfl ?_
  refine r_iconst (pc' := 17) (v := 4) g dX12_laterOf_16 rfl rfl ?_
  refine r_cge (pc' := 20) (tgt := 81) g dX12_laterOf_17 rfl rfl ?_ ?_
  · skip
    exact r_weak (Ls2 (Ls1 (Ls1 (Ls2 (Ls2 (Ls1 (Ls1 Ls0))))))) (kG (s.1, s.2.1) M)
  · skip
    refine r_aload_n (pc' := 21) g dX12_laterOf_20 rfl rfl ?_
    refine r_get (pc' := 24) g dX12_laterOf_21 rfl fl_X12_59 lM_0 (eM_0 w _ _) rfl ?_
    refine r_iload (pc' := 26) g dX12_laterOf_24 rfl rfl ?_
    refine r_iconst (pc' := 27) (v := 0) g dX12_laterOf_26 rfl rfl ?_
    refine r_iast (pc' := 28) g dX12_laterOf_27 rfl lM_17 (fun m => eM_17 w m _) ?_
    refine r_ltM (fun M3 => ?_)
    refine r_aload_n (pc' := 29) g dX12_laterOf_28 rfl rfl ?_
    refine r_get (pc' := 32) g dX12_laterOf_29 rfl fl_X12_53 lM_0 (eM_0 w _ _) rfl ?_
    refine r_iload (pc' := 34) g dX12_laterOf_32 rfl rfl ?_
    refine r_iald (pc' := 35) g dX12_laterOf_34 rfl lM_15 (eM_15 w _ _) ?_
    refine r_jn (pj := 55) (Lj := fun (s4 : Int32) => [rf w 0, .null, .null, .int s4, .int s.2.1, .int s.2.2, .null]) (stj := fun (s4 : Int32) => []) (fun s4 M5 => ?_) (fun jn6 hjn6 => ?_)
    · skip
      refine r_iload (pc' := 57) g dX12_laterOf_55 rfl rfl ?_
      refine r_aload_n (pc' := 58) g dX12_laterOf_57 rfl rfl ?_
      refine r_get (pc' := 61) g dX12_laterOf_58 rfl fl_X12_56 lM_0 (eM_0 w _ _) rfl ?_
      refine r_iload (pc' := 63) g dX12_laterOf_61 rfl rfl ?_
      refine r_iald (pc' := 64) g dX12_laterOf_63 rfl lM_16 (eM_16 w _ _) ?_
      refine r_ifle (pc' := 67) (tgt := 71) g dX12_laterOf_64 rfl rfl ?_ ?_
      · skip
        refine r_iconst (pc' := 72) (v := 0) g dX12_laterOf_71 rfl rfl ?_
        refine r_iadd (pc' := 73) g dX12_laterOf_72 rfl ?_
        refine r_ltI (fun x7 => ?_)
        refine r_istore (pc' := 75) (L' := [rf w 0, .null, .null, .int s4, .int x7, .int s.2.2, .null]) g dX12_laterOf_73 rfl n4 rfl rfl ?_
        refine r_iinc (pc' := 78) (b := 1) (L' := [rf w 0, .null, .null, .int s4, .int x7, .int (s.2.2 + 1), .null]) g dX12_laterOf_75 rfl rfl rfl n5 rfl rfl ?_
        refine r_goto (tgt := 14) g dX12_laterOf_78 rfl ?_
        exact r_weak (Ls2 (Ls1 (Ls1 (Ls2 (Ls2 (Ls2 (Ls1 Ls0))))))) (hr (s4, x7, s.2.2 + 1) M5)
      · skip
        refine r_iconst (pc' := 68) (v := 1) g dX12_laterOf_67 rfl rfl ?_
        refine r_goto (tgt := 72) g dX12_laterOf_68 rfl ?_
        refine r_iadd (pc' := 73) g dX12_laterOf_72 rfl ?_
        refine r_ltI (fun x8 => ?_)
        refine r_istore (pc' := 75) (L' := [rf w 0, .null, .null, .int s4, .int x8, .int s.2.2, .null]) g dX12_laterOf_73 rfl n4 rfl rfl ?_
        refine r_iinc (pc' := 78) (b := 1) (L' := [rf w 0, .null, .null, .int s4, .int x8, .int (s.2.2 + 1), .null]) g dX12_laterOf_75 rfl rfl rfl n5 rfl rfl ?_
        refine r_goto (tgt := 14) g dX12_laterOf_78 rfl ?_
        exact r_weak (Ls2 (Ls1 (Ls1 (Ls2 (Ls2 (Ls2 (Ls1 Ls0))))))) (hr (s4, x8, s.2.2 + 1) M5)
    refine r_ifle (pc' := 38) (tgt := 55) g dX12_laterOf_35 rfl rfl ?_ ?_
    · skip
      exact r_weak (Ls2 (Ls1 (Ls1 (Ls2 (Ls2 (Ls2 (Ls1 Ls0))))))) (hjn6 s.1 M3)
    · skip
      refine r_aload_n (pc' := 39) g dX12_laterOf_38 rfl rfl ?_
      refine r_aload_n (pc' := 40) g dX12_laterOf_39 rfl rfl ?_
      refine r_get (pc' := 43) g dX12_laterOf_40 rfl fl_X12_248 lM_0 (eM_0 w _ _) rfl ?_
      refine r_put (pc' := 46) g dX12_laterOf_43 rfl fl_X12_251 rfl lM_0 (eM_0 w _ _) (Nat.le_of_ble_eq_true rfl) (sM_0_28 w _ _ _) ?_
      refine r_ltM (fun M9 => ?_)
      refine r_aload_n (pc' := 47) g dX12_laterOf_46 rfl rfl ?_
      refine r_iload (pc' := 49) g dX12_laterOf_47 rfl rfl ?_
      refine r_put (pc' := 52) g dX12_laterOf_49 rfl fl_X12_248 rfl lM_0 (eM_0 w _ _) (Nat.le_of_ble_eq_true rfl) (sM_0_27 w _ _ _) ?_
      refine r_ltM (fun M10 => ?_)
      refine r_iinc (pc' := 55) (b := 1) (L' := [rf w 0, .null, .null, .int (s.1 + 1), .int s.2.1, .int s.2.2, .null]) g dX12_laterOf_52 rfl rfl rfl n3 rfl rfl ?_
      exact r_weak (Ls2 (Ls1 (Ls1 (Ls2 (Ls2 (Ls2 (Ls1 Ls0))))))) (hjn6 (s.1 + 1) M10)
set_option maxHeartbeats 4000000 in
set_option maxRecDepth 100000 in
theorem s_X12_laterOf_159 {w : W0} {Z : Zx} (g : Good KM w Z cX12_laterOf RX12 4) (e2 : Z.2.2.1 = 7) (e3 : Z.2.2.2 = (some .int)) (N : Nat) (p3 : Int32) (p4 : Int32) (p5 : Int32) (G : Unit → Mm → Rs) (kG : ∀ (x : Unit) (M : Mm), Sim KM w Z 192 [rf w 0, .null, .null, .int p3, .int p4, .int p5, .null] [] M (G x M)) : ∀ (n : Nat) (s : Int32) (M : Mm), Sim KM w Z 159 [rf w 0, .null, .null, .int p3, .int p4, .int p5, .int s] [] M (itr (B_X12_laterOf_159 N p3 p4 p5 G) n s M) := by
  have n6 : 6 < Z.2.2.1 := by rw [e2]; decide
  refine r_itr (Lf := fun (s : Int32) => [rf w 0, .null, .null, .int p3, .int p4, .int p5, .int s]) (fun rec hr s M => ?_)
  unfold B_X12_laterOf_159
  refine r_iload (pc' := 161) g dX12_laterOf_159 rfl rfl ?_
  refine r_iconst (pc' := 162) (v := 4) g dX12_laterOf_161 rfl rfl ?_
  refine r_cge (pc' := 165) (tgt := 192) g dX12_laterOf_162 rfl rfl ?_ ?_
  · skip
    exact r_weak (Ls2 (Ls1 (Ls1 (Ls2 (Ls2 (Ls2 (Ls1 Ls0))))))) (kG () M)
  · skip
    refine r_aload_n (pc' := 166) g dX12_laterOf_165 rfl rfl ?_
    refine r_iload (pc' := 168) g dX12_laterOf_166 rfl rfl ?_
    refine r_aload_n (pc' := 169) g dX12_laterOf_168 rfl rfl ?_
    refine r_get (pc' := 172) g dX12_laterOf_169 rfl fl_X12_13 lM_0 (eM_0 w _ _) rfl ?_
    refine r_bipush (pc' := 174) (v := 24) g dX12_laterOf_172 rfl rfl ?_
    refine r_iconst (pc' := 175) (v := 4) g dX12_laterOf_174 rfl rfl ?_
    refine r_iload (pc' := 177) g dX12_laterOf_175 rfl rfl ?_
    refine r_imul (pc' := 178) g dX12_laterOf_177 rfl ?_
    refine r_iadd (pc' := 179) g dX12_laterOf_178 rfl ?_
    refine r_iload (pc' := 181) g dX12_laterOf_179 rfl rfl ?_
    refine r_iadd (pc' := 182) g dX12_laterOf_181 rfl ?_
    refine r_iald (pc' := 183) g dX12_laterOf_182 rfl lM_2 (eM_2 w _ _) ?_
    refine r_callVv (pc' := 186) (As := [.int p5, .int (M.1 2 (ix ((24 + (4 * s)) + p5)))]) (rest := []) g dX12_laterOf_183 rfl ml_X12_254 mw_X12_triesLevel mv_X12_triesLevel (Nat.le_of_ble_eq_true rfl) (c_X12_triesLevel _ w N p5 (M.1 2 (ix ((24 + (4 * s)) + p5))) M) rfl lM_0 (eM_0 w _ _) rfl rfl (Nat.le_of_ble_eq_true rfl) (fun r20 M21 => ?_)
    refine r_iinc (pc' := 189) (b := 1) (L' := [rf w 0, .null, .null, .int p3, .int p4, .int p5, .int (s + 1)]) g dX12_laterOf_186 rfl rfl rfl n6 rfl rfl ?_
    refine r_goto (tgt := 159) g dX12_laterOf_189 rfl ?_
    exact r_weak (Ls2 (Ls1 (Ls1 (Ls2 (Ls2 (Ls2 (Ls2 Ls0))))))) (hr (s + 1) M21)
set_option maxHeartbeats 4000000 in
set_option maxRecDepth 100000 in
theorem s_X12_laterOf_100 {w : W0} {Z : Zx} (g : Good KM w Z cX12_laterOf RX12 4) (e2 : Z.2.2.1 = 7) (e3 : Z.2.2.2 = (some .int)) (N : Nat) (p3 : Int32) (p4 : Int32) (G : Unit → Mm → Rs) (kG : ∀ (x : Unit) (M : Mm), Sim KM w Z 198 [rf w 0, .null, .null, .int p3, .int p4, .null, .null] [] M (G x M)) : ∀ (n : Nat) (s : Int32) (M : Mm), Sim KM w Z 100 [rf w 0, .null, .null, .int p3, .int p4, .int s, .null] [] M (itr (B_X12_laterOf_100 N p3 p4 G) n s M) := by
  have n5 : 5 < Z.2.2.1 := by rw [e2]; decide
  have n6 : 6 < Z.2.2.1 := by rw [e2]; decide
  refine r_itr (Lf := fun (s : Int32) => [rf w 0, .null, .null, .int p3, .int p4, .int s, .null]) (fun rec hr s M => ?_)
  unfold B_X12_laterOf_100
  refine r_iload (pc' := 102) g dX12_laterOf_100 rfl rfl ?_
  refine r_iconst (pc' := 103) (v := 4) g dX12_laterOf_102 rfl rfl ?_
  refine r_cge (pc' := 106) (tgt := 198) g dX12_laterOf_103 rfl rfl ?_ ?_
  · skip
    exact r_weak (Ls2 (Ls1 (Ls1 (Ls2 (Ls2 (Ls1 (Ls1 Ls0))))))) (kG () M)
  · skip
    refine r_iload (pc' := 108) g dX12_laterOf_106 rfl rfl ?_
    refine r_iconst (pc' := 109) (v := 1) g dX12_laterOf_108 rfl rfl ?_
    refine r_cne (pc' := 112) (tgt := 198) g dX12_laterOf_109 rfl rfl ?_ ?_
    · skip
      exact r_weak (Ls2 (Ls1 (Ls1 (Ls2 (Ls2 (Ls1 (Ls1 Ls0))))))) (kG () M)
    · skip
      refine r_aload_n (pc' := 113) g dX12_laterOf_112 rfl rfl ?_
      refine r_get (pc' := 116) g dX12_laterOf_113 rfl fl_X12_56 lM_0 (eM_0 w _ _) rfl ?_
      refine r_iload (pc' := 118) g dX12_laterOf_116 rfl rfl ?_
      refine r_iald (pc' := 119) g dX12_laterOf_118 rfl lM_16 (eM_16 w _ _) ?_
      refine r_ifne (pc' := 122) (tgt := 125) g dX12_laterOf_119 rfl rfl ?_ ?_
      · skip
        refine r_aload_n (pc' := 126) g dX12_laterOf_125 rfl rfl ?_
        refine r_iload (pc' := 128) g dX12_laterOf_126 rfl rfl ?_
        refine r_aload_n (pc' := 129) g dX12_laterOf_128 rfl rfl ?_
        refine r_get (pc' := 132) g dX12_laterOf_129 rfl fl_X12_13 lM_0 (eM_0 w _ _) rfl ?_
        refine r_bipush (pc' := 134) (v := 41) g dX12_laterOf_132 rfl rfl ?_
        refine r_ialdc (pc' := 135) g dX12_laterOf_134 rfl lM_2 (eM_2 w _ _) rfl ?_
        refine r_callVv (pc' := 138) (As := [.int s, .int (M.1 2 (ix 41))]) (rest := []) g dX12_laterOf_135 rfl ml_X12_254 mw_X12_triesLevel mv_X12_triesLevel (Nat.le_of_ble_eq_true rfl) (c_X12_triesLevel _ w N s (M.1 2 (ix 41)) M) rfl lM_0 (eM_0 w _ _) rfl rfl (Nat.le_of_ble_eq_true rfl) (fun r16 M17 => ?_)
        refine r_aload_n (pc' := 139) g dX12_laterOf_138 rfl rfl ?_
        refine r_iload (pc' := 141) g dX12_laterOf_139 rfl rfl ?_
        refine r_aload_n (pc' := 142) g dX12_laterOf_141 rfl rfl ?_
        refine r_get (pc' := 145) g dX12_laterOf_142 rfl fl_X12_13 lM_0 (eM_0 w _ _) rfl ?_
        refine r_bipush (pc' := 147) (v := 6) g dX12_laterOf_145 rfl rfl ?_
        refine r_iload (pc' := 149) g dX12_laterOf_147 rfl rfl ?_
        refine r_imul (pc' := 150) g dX12_laterOf_149 rfl ?_
        refine r_iconst (pc' := 151) (v := 3) g dX12_laterOf_150 rfl rfl ?_
        refine r_iadd (pc' := 152) g dX12_laterOf_151 rfl ?_
        refine r_iald (pc' := 153) g dX12_laterOf_152 rfl lM_2 (eM_2 w _ _) ?_
        refine r_callVv (pc' := 156) (As := [.int s, .int (M17.1 2 (ix ((6 * s) + 3)))]) (rest := []) g dX12_laterOf_153 rfl ml_X12_254 mw_X12_triesLevel mv_X12_triesLevel (Nat.le_of_ble_eq_true rfl) (c_X12_triesLevel _ w N s (M17.1 2 (ix ((6 * s) + 3))) M17) rfl lM_0 (eM_0 w _ _) rfl rfl (Nat.le_of_ble_eq_true rfl) (fun r18 M19 => ?_)
        refine r_iconst (pc' := 157) (v := 0) g dX12_laterOf_156 rfl rfl ?_
        refine r_istore (pc' := 159) (L' := [rf w 0, .null, .null, .int p3, .int p4, .int s, .int 0]) g dX12_laterOf_157 rfl n6 rfl rfl ?_
        refine r_weak (Ls2 (Ls1 (Ls1 (Ls2 (Ls2 (Ls2 (Ls2 Ls0))))))) (s_X12_laterOf_159 g e2 e3 N p3 p4 s _ (fun z22 M23 => ?_) N 0 M19)
        refine r_iinc (pc' := 195) (b := 1) (L' := [rf w 0, .null, .null, .int p3, .int p4, .int (s + 1), .null]) g dX12_laterOf_192 rfl rfl rfl n5 rfl rfl ?_
        refine r_goto (tgt := 100) g dX12_laterOf_195 rfl ?_
        exact r_weak (Ls2 (Ls1 (Ls1 (Ls2 (Ls2 (Ls2 (Ls1 Ls0))))))) (hr (s + 1) M23)
      · skip
        refine r_goto (tgt := 192) g dX12_laterOf_122 rfl ?_
        refine r_iinc (pc' := 195) (b := 1) (L' := [rf w 0, .null, .null, .int p3, .int p4, .int (s + 1), .null]) g dX12_laterOf_192 rfl rfl rfl n5 rfl rfl ?_
        refine r_goto (tgt := 100) g dX12_laterOf_195 rfl ?_
        exact r_weak (Ls2 (Ls1 (Ls1 (Ls2 (Ls2 (Ls2 (Ls1 Ls0))))))) (hr (s + 1) M)
set_option maxHeartbeats 4000000 in
set_option maxRecDepth 100000 in
theorem s_X12_laterOf_201 {w : W0} {Z : Zx} (g : Good KM w Z cX12_laterOf RX12 4) (e2 : Z.2.2.1 = 7) (e3 : Z.2.2.2 = (some .int)) (N : Nat) (p3 : Int32) (p4 : Int32) (G : Unit → Mm → Rs) (kG : ∀ (x : Unit) (M : Mm), Sim KM w Z 248 [rf w 0, .null, .null, .int p3, .int p4, .null, .null] [] M (G x M)) : ∀ (n : Nat) (s : Int32) (M : Mm), Sim KM w Z 201 [rf w 0, .null, .null, .int p3, .int p4, .int s, .null] [] M (itr (B_X12_laterOf_201 N p3 p4 G) n s M) := by
  have n5 : 5 < Z.2.2.1 := by rw [e2]; decide
  refine r_itr (Lf := fun (s : Int32) => [rf w 0, .null, .null, .int p3, .int p4, .int s, .null]) (fun rec hr s M => ?_)
  unfold B_X12_laterOf_201
  refine r_iload (pc' := 203) g dX12_laterOf_201 rfl rfl ?_
  refine r_bipush (pc' := 205) (v := 8) g dX12_laterOf_203 rfl rfl ?_
  refine r_cge (pc' := 208) (tgt := 248) g dX12_laterOf_205 rfl rfl ?_ ?_
  · skip
    exact r_weak (Ls2 (Ls1 (Ls1 (Ls2 (Ls2 (Ls1 (Ls1 Ls0))))))) (kG () M)
  · skip
    refine r_iload (pc' := 210) g dX12_laterOf_208 rfl rfl ?_
    refine r_iconst (pc' := 211) (v := 1) g dX12_laterOf_210 rfl rfl ?_
    refine r_cle (pc' := 214) (tgt := 248) g dX12_laterOf_211 rfl rfl ?_ ?_
    · skip
      exact r_weak (Ls2 (Ls1 (Ls1 (Ls2 (Ls2 (Ls1 (Ls1 Ls0))))))) (kG () M)
    · skip
      refine r_iload_n (pc' := 215) g dX12_laterOf_214 rfl rfl ?_
      refine r_iconst (pc' := 216) (v := 1) g dX12_laterOf_215 rfl rfl ?_
      refine r_cne (pc' := 219) (tgt := 248) g dX12_laterOf_216 rfl rfl ?_ ?_
      · skip
        exact r_weak (Ls2 (Ls1 (Ls1 (Ls2 (Ls2 (Ls1 (Ls1 Ls0))))))) (kG () M)
      · skip
        refine r_aload_n (pc' := 220) g dX12_laterOf_219 rfl rfl ?_
        refine r_get (pc' := 223) g dX12_laterOf_220 rfl fl_X12_59 lM_0 (eM_0 w _ _) rfl ?_
        refine r_aload_n (pc' := 224) g dX12_laterOf_223 rfl rfl ?_
        refine r_get (pc' := 227) g dX12_laterOf_224 rfl fl_X12_248 lM_0 (eM_0 w _ _) rfl ?_
        refine r_aload_n (pc' := 228) g dX12_laterOf_227 rfl rfl ?_
        refine r_aload_n (pc' := 229) g dX12_laterOf_228 rfl rfl ?_
        refine r_get (pc' := 232) g dX12_laterOf_229 rfl fl_X12_248 lM_0 (eM_0 w _ _) rfl ?_
        refine r_iload (pc' := 234) g dX12_laterOf_232 rfl rfl ?_
        refine r_callVi (pc' := 237) (As := [.int (M.1 0 27), .int s]) (rest := [.int (M.1 0 27), rf w 17]) g dX12_laterOf_234 rfl ml_X12_238 mw_X12_priceOf mv_X12_priceOf (Nat.le_of_ble_eq_true rfl) (c_X12_priceOf _ w N (M.1 0 27) s M) rfl lM_0 (eM_0 w _ _) rfl rfl (Nat.le_of_ble_eq_true rfl) (fun r26 M27 => ?_)
        refine r_iast (pc' := 238) g dX12_laterOf_237 rfl lM_17 (fun m => eM_17 w m _) ?_
        refine r_ltM (fun M28 => ?_)
        refine r_aload_n (pc' := 239) g dX12_laterOf_238 rfl rfl ?_
        refine r_callVv (pc' := 242) (As := []) (rest := []) g dX12_laterOf_239 rfl ml_X12_241 mw_X12_tries mv_X12_tries (Nat.le_of_ble_eq_true rfl) (c_X12_tries _ w N  M28) rfl lM_0 (eM_0 w _ _) rfl rfl (Nat.le_of_ble_eq_true rfl) (fun r29 M30 => ?_)
        refine r_iinc (pc' := 245) (b := 1) (L' := [rf w 0, .null, .null, .int p3, .int p4, .int (s + 1), .null]) g dX12_laterOf_242 rfl rfl rfl n5 rfl rfl ?_
        refine r_goto (tgt := 201) g dX12_laterOf_245 rfl ?_
        exact r_weak (Ls2 (Ls1 (Ls1 (Ls2 (Ls2 (Ls2 (Ls1 Ls0))))))) (hr (s + 1) M30)
set_option maxHeartbeats 4000000 in
set_option maxRecDepth 100000 in
theorem c_X12_laterOf (l : Launch) (w : W0) (N : Nat) (a1 : Int32) (a2 : Int32) (M : Mm) : Ct l KM w 4 yX12_laterOf cX12_laterOf 7 (some .int) [rf w 0, .int a1, .int a2] M (f_X12_laterOf N a1 a2 M) := by
  refine ct_of [rf w 0, .int a1, .int a2, .null, .null, .null, .null] (by decide) (Nat.le_of_ble_eq_true rfl) rfl (fun Z e1 e2 e3 g => ?_)
  have g : Good KM w Z cX12_laterOf RX12 4 := g
  unfold f_X12_laterOf
  have n3 : 3 < Z.2.2.1 := by rw [e2]; decide
  have n4 : 4 < Z.2.2.1 := by rw [e2]; decide
  have n5 : 5 < Z.2.2.1 := by rw [e2]; decide
  refine r_aload_n (pc' := 1) g dX12_laterOf_0 rfl rfl ?_
  refine r_iload_n (pc' := 2) g dX12_laterOf_1 rfl rfl ?_
  refine r_iload_n (pc' := 3) g dX12_laterOf_2 rfl rfl ?_
  refine r_callVv (pc' := 6) (As := [.int a1, .int a2]) (rest := []) g dX12_laterOf_3 rfl ml_X12_244 mw_X12_findLacks mv_X12_findLacks (Nat.le_of_ble_eq_true rfl) (c_X12_findLacks _ w N a1 a2 M) rfl lM_0 (eM_0 w _ _) rfl rfl (Nat.le_of_ble_eq_true rfl) (fun r1 M2 => ?_)
  refine r_iconst (pc' := 7) (v := 0) g dX12_laterOf_6 rfl rfl ?_
  refine r_istore_n (pc' := 8) (L' := [rf w 0, .int a1, .int a2, .int 0, .null, .null, .null]) g dX12_laterOf_7 rfl n3 rfl rfl ?_
  refine r_iconst (pc' := 9) (v := 0) g dX12_laterOf_8 rfl rfl ?_
  refine r_istore (pc' := 11) (L' := [rf w 0, .int a1, .int a2, .int 0, .int 0, .null, .null]) g dX12_laterOf_9 rfl n4 rfl rfl ?_
  refine r_iconst (pc' := 12) (v := 0) g dX12_laterOf_11 rfl rfl ?_
  refine r_istore (pc' := 14) (L' := [rf w 0, .int a1, .int a2, .int 0, .int 0, .int 0, .null]) g dX12_laterOf_12 rfl n5 rfl rfl ?_
  refine r_weak (Ls2 (Ls1 (Ls1 (Ls2 (Ls2 (Ls2 (Ls1 Ls0))))))) (s_X12_laterOf_14 g e2 e3 N _ (fun z11 M12 => ?_) N (0, 0, 0) M2)
  refine r_aload_n (pc' := 82) g dX12_laterOf_81 rfl rfl ?_
  refine r_iconst (pc' := 83) (v := 0) g dX12_laterOf_82 rfl rfl ?_
  refine r_put (pc' := 86) g dX12_laterOf_83 rfl fl_X12_235 rfl lM_0 (eM_0 w _ _) (Nat.le_of_ble_eq_true rfl) (sM_0_26 w _ _ _) ?_
  refine r_ltM (fun M13 => ?_)
  refine r_iload (pc' := 88) g dX12_laterOf_86 rfl rfl ?_
  refine r_ifne (pc' := 91) (tgt := 93) g dX12_laterOf_88 rfl rfl ?_ ?_
  · skip
    refine r_aload_n (pc' := 94) g dX12_laterOf_93 rfl rfl ?_
    refine r_callVv (pc' := 97) (As := []) (rest := []) g dX12_laterOf_94 rfl ml_X12_241 mw_X12_tries mv_X12_tries (Nat.le_of_ble_eq_true rfl) (c_X12_tries _ w N  M13) rfl lM_0 (eM_0 w _ _) rfl rfl (Nat.le_of_ble_eq_true rfl) (fun r14 M15 => ?_)
    refine r_iconst (pc' := 98) (v := 0) g dX12_laterOf_97 rfl rfl ?_
    refine r_istore (pc' := 100) (L' := [rf w 0, .null, .null, .int z11.1, .int z11.2, .int 0, .null]) g dX12_laterOf_98 rfl n5 rfl rfl ?_
    refine r_weak (Ls2 (Ls1 (Ls1 (Ls2 (Ls2 (Ls2 (Ls1 Ls0))))))) (s_X12_laterOf_100 g e2 e3 N z11.1 z11.2 _ (fun z24 M25 => ?_) N 0 M15)
    refine r_iconst (pc' := 199) (v := 0) g dX12_laterOf_198 rfl rfl ?_
    refine r_istore (pc' := 201) (L' := [rf w 0, .null, .null, .int z11.1, .int z11.2, .int 0, .null]) g dX12_laterOf_199 rfl n5 rfl rfl ?_
    refine r_weak (Ls2 (Ls1 (Ls1 (Ls2 (Ls2 (Ls2 (Ls1 Ls0))))))) (s_X12_laterOf_201 g e2 e3 N z11.1 z11.2 _ (fun z31 M32 => ?_) N 0 M25)
    refine r_iload (pc' := 250) g dX12_laterOf_248 rfl rfl ?_
    refine r_iconst (pc' := 251) (v := 2) g dX12_laterOf_250 rfl rfl ?_
    refine r_cne (pc' := 254) (tgt := 283) g dX12_laterOf_251 rfl rfl ?_ ?_
    · skip
      refine r_aload_n (pc' := 284) g dX12_laterOf_283 rfl rfl ?_
      refine r_get (pc' := 287) g dX12_laterOf_284 rfl fl_X12_235 lM_0 (eM_0 w _ _) rfl ?_
      exact r_iret g e3 dX12_laterOf_287
    · skip
      refine r_iload_n (pc' := 255) g dX12_laterOf_254 rfl rfl ?_
      refine r_iconst (pc' := 256) (v := 2) g dX12_laterOf_255 rfl rfl ?_
      refine r_cne (pc' := 259) (tgt := 283) g dX12_laterOf_256 rfl rfl ?_ ?_
      · skip
        refine r_aload_n (pc' := 284) g dX12_laterOf_283 rfl rfl ?_
        refine r_get (pc' := 287) g dX12_laterOf_284 rfl fl_X12_235 lM_0 (eM_0 w _ _) rfl ?_
        exact r_iret g e3 dX12_laterOf_287
      · skip
        refine r_aload_n (pc' := 260) g dX12_laterOf_259 rfl rfl ?_
        refine r_aload_n (pc' := 261) g dX12_laterOf_260 rfl rfl ?_
        refine r_get (pc' := 264) g dX12_laterOf_261 rfl fl_X12_248 lM_0 (eM_0 w _ _) rfl ?_
        refine r_aload_n (pc' := 265) g dX12_laterOf_264 rfl rfl ?_
        refine r_get (pc' := 268) g dX12_laterOf_265 rfl fl_X12_251 lM_0 (eM_0 w _ _) rfl ?_
        refine r_callVv (pc' := 271) (As := [.int (M32.1 0 27), .int (M32.1 0 28)]) (rest := []) g dX12_laterOf_268 rfl ml_X12_257 mw_X12_triesTwo mv_X12_triesTwo (Nat.le_of_ble_eq_true rfl) (c_X12_triesTwo _ w N (M32.1 0 27) (M32.1 0 28) M32) rfl lM_0 (eM_0 w _ _) rfl rfl (Nat.le_of_ble_eq_true rfl) (fun r33 M34 => ?_)
        refine r_aload_n (pc' := 272) g dX12_laterOf_271 rfl rfl ?_
        refine r_aload_n (pc' := 273) g dX12_laterOf_272 rfl rfl ?_
        refine r_get (pc' := 276) g dX12_laterOf_273 rfl fl_X12_251 lM_0 (eM_0 w _ _) rfl ?_
        refine r_aload_n (pc' := 277) g dX12_laterOf_276 rfl rfl ?_
        refine r_get (pc' := 280) g dX12_laterOf_277 rfl fl_X12_248 lM_0 (eM_0 w _ _) rfl ?_
        refine r_callVv (pc' := 283) (As := [.int (M34.1 0 28), .int (M34.1 0 27)]) (rest := []) g dX12_laterOf_280 rfl ml_X12_257 mw_X12_triesTwo mv_X12_triesTwo (Nat.le_of_ble_eq_true rfl) (c_X12_triesTwo _ w N (M34.1 0 28) (M34.1 0 27) M34) rfl lM_0 (eM_0 w _ _) rfl rfl (Nat.le_of_ble_eq_true rfl) (fun r35 M36 => ?_)
        refine r_aload_n (pc' := 284) g dX12_laterOf_283 rfl rfl ?_
        refine r_get (pc' := 287) g dX12_laterOf_284 rfl fl_X12_235 lM_0 (eM_0 w _ _) rfl ?_
        exact r_iret g e3 dX12_laterOf_287
  · skip
    refine r_iconst (pc' := 92) (v := 0) g dX12_laterOf_91 rfl rfl ?_
    exact r_iret g e3 dX12_laterOf_92
def B_X12_draws_2 (N : Nat) (p1 : Int32) (G : Unit → Mm → Rs) (rec : Int32 → Mm → Rs) (s : Int32) (M : Mm) : Rs :=
  if s < 16 then
      (if inb s 16 then
      (if (M.1 21 (ix s)) = 0 then
        (if inb s 16 then
        (lt' (wI M 19 (ix s) (zn 0)) fun M1 =>
        (rec (s + 1) M1)) else none)
      else
        (bd (f_X12_bits N s M) fun r2 M3 =>
        (if p1 < r2 then
          (if inb s 16 then
          (lt' (wI M3 19 (ix s) (zn 0)) fun M4 =>
          (rec (s + 1) M4)) else none)
        else
          (if inb s 16 then
          (lt' (wI M3 19 (ix s) (zn 1)) fun M5 =>
          (rec (s + 1) M5)) else none)))) else none)
    else
      (G () M)

def f_X12_draws (N : Nat) (a1 : Int32) (M : Mm) : Rs :=
  itr (B_X12_draws_2 N a1 fun z6 M7 =>
  (some (0, M7))) N 0 M

set_option maxHeartbeats 4000000 in
set_option maxRecDepth 100000 in
theorem s_X12_draws_2 {w : W0} {Z : Zx} (g : Good KM w Z cX12_draws RX12 1) (e2 : Z.2.2.1 = 3) (e3 : Z.2.2.2 = none) (N : Nat) (p1 : Int32) (G : Unit → Mm → Rs) (kG : ∀ (x : Unit) (M : Mm), Sim KM w Z 42 [.null, .null, .null] [] M (G x M)) : ∀ (n : Nat) (s : Int32) (M : Mm), Sim KM w Z 2 [rf w 0, .int p1, .int s] [] M (itr (B_X12_draws_2 N p1 G) n s M) := by
  have n2 : 2 < Z.2.2.1 := by rw [e2]; decide
  refine r_itr (Lf := fun (s : Int32) => [rf w 0, .int p1, .int s]) (fun rec hr s M => ?_)
  unfold B_X12_draws_2
  refine r_iload_n (pc' := 3) g dX12_draws_2 rfl rfl ?_
  refine r_bipush (pc' := 5) (v := 16) g dX12_draws_3 rfl rfl ?_
  refine r_cge (pc' := 8) (tgt := 42) g dX12_draws_5 rfl rfl ?_ ?_
  · skip
    exact r_weak (Ls1 (Ls1 (Ls1 Ls0))) (kG () M)
  · skip
    refine r_aload_n (pc' := 9) g dX12_draws_8 rfl rfl ?_
    refine r_get (pc' := 12) g dX12_draws_9 rfl fl_X12_65 lM_0 (eM_0 w _ _) rfl ?_
    refine r_iload_n (pc' := 13) g dX12_draws_12 rfl rfl ?_
    refine r_aload_n (pc' := 14) g dX12_draws_13 rfl rfl ?_
    refine r_get (pc' := 17) g dX12_draws_14 rfl fl_X12_71 lM_0 (eM_0 w _ _) rfl ?_
    refine r_iload_n (pc' := 18) g dX12_draws_17 rfl rfl ?_
    refine r_zald (pc' := 19) g dX12_draws_18 rfl lM_21 (eM_21 w _ _) ?_
    refine r_ifeq (pc' := 22) (tgt := 34) g dX12_draws_19 rfl rfl ?_ ?_
    · skip
      refine r_iconst (pc' := 35) (v := 0) g dX12_draws_34 rfl rfl ?_
      refine r_zast (pc' := 36) g dX12_draws_35 rfl lM_19 (fun m => eM_19 w m _) ?_
      refine r_ltM (fun M1 => ?_)
      refine r_iinc (pc' := 39) (b := 1) (L' := [rf w 0, .int p1, .int (s + 1)]) g dX12_draws_36 rfl rfl rfl n2 rfl rfl ?_
      refine r_goto (tgt := 2) g dX12_draws_39 rfl ?_
      exact r_weak (Ls2 (Ls2 (Ls2 Ls0))) (hr (s + 1) M1)
    · skip
      refine r_iload_n (pc' := 23) g dX12_draws_22 rfl rfl ?_
      refine r_callSi (pc' := 26) (As := [.int s]) (rest := [.int s, rf w 19]) g dX12_draws_23 rfl ml_X12_213 mw_X12_bits ms_X12_bits (Nat.le_of_ble_eq_true rfl) (c_X12_bits _ w N s M) rfl rfl (Nat.le_of_ble_eq_true rfl) (fun r2 M3 => ?_)
      refine r_iload_n (pc' := 27) g dX12_draws_26 rfl rfl ?_
      refine r_cgt (pc' := 30) (tgt := 34) g dX12_draws_27 rfl rfl ?_ ?_
      · skip
        refine r_iconst (pc' := 35) (v := 0) g dX12_draws_34 rfl rfl ?_
        refine r_zast (pc' := 36) g dX12_draws_35 rfl lM_19 (fun m => eM_19 w m _) ?_
        refine r_ltM (fun M4 => ?_)
        refine r_iinc (pc' := 39) (b := 1) (L' := [rf w 0, .int p1, .int (s + 1)]) g dX12_draws_36 rfl rfl rfl n2 rfl rfl ?_
        refine r_goto (tgt := 2) g dX12_draws_39 rfl ?_
        exact r_weak (Ls2 (Ls2 (Ls2 Ls0))) (hr (s + 1) M4)
      · skip
        refine r_iconst (pc' := 31) (v := 1) g dX12_draws_30 rfl rfl ?_
        refine r_goto (tgt := 35) g dX12_draws_31 rfl ?_
        refine r_zast (pc' := 36) g dX12_draws_35 rfl lM_19 (fun m => eM_19 w m _) ?_
        refine r_ltM (fun M5 => ?_)
        refine r_iinc (pc' := 39) (b := 1) (L' := [rf w 0, .int p1, .int (s + 1)]) g dX12_draws_36 rfl rfl rfl n2 rfl rfl ?_
        refine r_goto (tgt := 2) g dX12_draws_39 rfl ?_
        exact r_weak (Ls2 (Ls2 (Ls2 Ls0))) (hr (s + 1) M5)
set_option maxHeartbeats 4000000 in
set_option maxRecDepth 100000 in
theorem c_X12_draws (l : Launch) (w : W0) (N : Nat) (a1 : Int32) (M : Mm) : Ct l KM w 1 yX12_draws cX12_draws 3 none [rf w 0, .int a1] M (f_X12_draws N a1 M) := by
  refine ct_of [rf w 0, .int a1, .null] (by decide) (Nat.le_of_ble_eq_true rfl) rfl (fun Z e1 e2 e3 g => ?_)
  have g : Good KM w Z cX12_draws RX12 1 := g
  unfold f_X12_draws
  have n2 : 2 < Z.2.2.1 := by rw [e2]; decide
  refine r_iconst (pc' := 1) (v := 0) g dX12_draws_0 rfl rfl ?_
  refine r_istore_n (pc' := 2) (L' := [rf w 0, .int a1, .int 0]) g dX12_draws_1 rfl n2 rfl rfl ?_
  refine r_weak (Ls2 (Ls2 (Ls2 Ls0))) (s_X12_draws_2 g e2 e3 N a1 _ (fun z6 M7 => ?_) N 0 M)
  exact r_vret g e3 dX12_draws_42
def B_X12_finds_15 (N : Nat) (G : Unit → Mm → Rs) (rec : Int32 → Mm → Rs) (s : Int32) (M : Mm) : Rs :=
  if s < 16 then
      (bd (f_X12_lets N s M) fun r2 M3 =>
      (if inb s 16 then
      (lt' (wI M3 21 (ix s) (zn r2)) fun M4 =>
      (rec (s + 1) M4)) else none))
    else
      (G () M)

def B_X12_finds_60 (N : Nat) (p1 : Int32) (G : Unit → Mm → Rs) (rec : Int32 → Mm → Rs) (s : Int32) (M : Mm) : Rs :=
  if s < 16 then
      (if inb p1 256 then
      (if (M.1 20 (ix p1)) = 0 then
        (G () M)
      else
        (bd (f_X12_isWorld N s M) fun r10 M11 =>
        (if r10 = 0 then
          (if inb ((16 * p1) + s) 4096 then
          (lt' (wI M11 18 (ix ((16 * p1) + s)) 0) fun M12 =>
          (rec (s + 1) M12)) else none)
        else
          (bd (f_X12_hired N p1 M11) fun r13 M14 =>
          (bd (f_X12_laterOf N p1 s M14) fun r15 M16 =>
          (if inb ((16 * p1) + s) 4096 then
          (lt' (wI M16 18 (ix ((16 * p1) + s)) (r13 + r15)) fun M17 =>
          (rec (s + 1) M17)) else none)))))) else none)
    else
      (G () M)

def B_X12_finds_40 (N : Nat) (G : Unit → Mm → Rs) (rec : Int32 → Mm → Rs) (s : Int32) (M : Mm) : Rs :=
  if s < 256 then
      (bd (f_X12_isPlan N s M) fun r7 M8 =>
      (if inb s 256 then
      (lt' (wI M8 20 (ix s) (zn r7)) fun M9 =>
      (itr (B_X12_finds_60 N s fun z18 M19 =>
      (rec (s + 1) M19)) N 0 M9)) else none))
    else
      (G () M)

def f_X12_finds (N : Nat) (M : Mm) : Rs :=
  if (M.1 0 2) = 0 then
    (lt' (wI M 0 2 1) fun M1 =>
    (itr (B_X12_finds_15 N fun z5 M6 =>
    (itr (B_X12_finds_40 N fun z20 M21 =>
    (bd (f_X12_draws N (M21.1 2 (ix 42)) M21) fun r22 M23 =>
    (some (0, M23)))) N 0 M6)) N 0 M1))
  else
    (some (0, M))

set_option maxHeartbeats 4000000 in
set_option maxRecDepth 100000 in
theorem s_X12_finds_15 {w : W0} {Z : Zx} (g : Good KM w Z cX12_finds RX12 5) (e2 : Z.2.2.1 = 3) (e3 : Z.2.2.2 = none) (N : Nat) (G : Unit → Mm → Rs) (kG : ∀ (x : Unit) (M : Mm), Sim KM w Z 38 [rf w 0, .null, .null] [] M (G x M)) : ∀ (n : Nat) (s : Int32) (M : Mm), Sim KM w Z 15 [rf w 0, .int s, .null] [] M (itr (B_X12_finds_15 N G) n s M) := by
  have n1 : 1 < Z.2.2.1 := by rw [e2]; decide
  refine r_itr (Lf := fun (s : Int32) => [rf w 0, .int s, .null]) (fun rec hr s M => ?_)
  unfold B_X12_finds_15
  refine r_iload_n (pc' := 16) g dX12_finds_15 rfl rfl ?_
  refine r_bipush (pc' := 18) (v := 16) g dX12_finds_16 rfl rfl ?_
  refine r_cge (pc' := 21) (tgt := 38) g dX12_finds_18 rfl rfl ?_ ?_
  · skip
    exact r_weak (Ls2 (Ls1 (Ls1 Ls0))) (kG () M)
  · skip
    refine r_aload_n (pc' := 22) g dX12_finds_21 rfl rfl ?_
    refine r_get (pc' := 25) g dX12_finds_22 rfl fl_X12_71 lM_0 (eM_0 w _ _) rfl ?_
    refine r_iload_n (pc' := 26) g dX12_finds_25 rfl rfl ?_
    refine r_aload_n (pc' := 27) g dX12_finds_26 rfl rfl ?_
    refine r_iload_n (pc' := 28) g dX12_finds_27 rfl rfl ?_
    refine r_callVi (pc' := 31) (As := [.int s]) (rest := [.int s, rf w 21]) g dX12_finds_28 rfl ml_X12_267 mw_X12_lets mv_X12_lets (Nat.le_of_ble_eq_true rfl) (c_X12_lets _ w N s M) rfl lM_0 (eM_0 w _ _) rfl rfl (Nat.le_of_ble_eq_true rfl) (fun r2 M3 => ?_)
    refine r_zast (pc' := 32) g dX12_finds_31 rfl lM_21 (fun m => eM_21 w m _) ?_
    refine r_ltM (fun M4 => ?_)
    refine r_iinc (pc' := 35) (b := 1) (L' := [rf w 0, .int (s + 1), .null]) g dX12_finds_32 rfl rfl rfl n1 rfl rfl ?_
    refine r_goto (tgt := 15) g dX12_finds_35 rfl ?_
    exact r_weak (Ls2 (Ls2 (Ls1 Ls0))) (hr (s + 1) M4)
set_option maxHeartbeats 4000000 in
set_option maxRecDepth 100000 in
theorem s_X12_finds_60 {w : W0} {Z : Zx} (g : Good KM w Z cX12_finds RX12 5) (e2 : Z.2.2.1 = 3) (e3 : Z.2.2.2 = none) (N : Nat) (p1 : Int32) (G : Unit → Mm → Rs) (kG : ∀ (x : Unit) (M : Mm), Sim KM w Z 116 [rf w 0, .int p1, .null] [] M (G x M)) : ∀ (n : Nat) (s : Int32) (M : Mm), Sim KM w Z 60 [rf w 0, .int p1, .int s] [] M (itr (B_X12_finds_60 N p1 G) n s M) := by
  have n2 : 2 < Z.2.2.1 := by rw [e2]; decide
  refine r_itr (Lf := fun (s : Int32) => [rf w 0, .int p1, .int s]) (fun rec hr s M => ?_)
  unfold B_X12_finds_60
  refine r_iload_n (pc' := 61) g dX12_finds_60 rfl rfl ?_
  refine r_bipush (pc' := 63) (v := 16) g dX12_finds_61 rfl rfl ?_
  refine r_cge (pc' := 66) (tgt := 116) g dX12_finds_63 rfl rfl ?_ ?_
  · skip
    exact r_weak (Ls2 (Ls2 (Ls1 Ls0))) (kG () M)
  · skip
    refine r_aload_n (pc' := 67) g dX12_finds_66 rfl rfl ?_
    refine r_get (pc' := 70) g dX12_finds_67 rfl fl_X12_68 lM_0 (eM_0 w _ _) rfl ?_
    refine r_iload_n (pc' := 71) g dX12_finds_70 rfl rfl ?_
    refine r_zald (pc' := 72) g dX12_finds_71 rfl lM_20 (eM_20 w _ _) ?_
    refine r_ifeq (pc' := 75) (tgt := 116) g dX12_finds_72 rfl rfl ?_ ?_
    · skip
      exact r_weak (Ls2 (Ls2 (Ls1 Ls0))) (kG () M)
    · skip
      refine r_aload_n (pc' := 76) g dX12_finds_75 rfl rfl ?_
      refine r_get (pc' := 79) g dX12_finds_76 rfl fl_X12_62 lM_0 (eM_0 w _ _) rfl ?_
      refine r_bipush (pc' := 81) (v := 16) g dX12_finds_79 rfl rfl ?_
      refine r_iload_n (pc' := 82) g dX12_finds_81 rfl rfl ?_
      refine r_imul (pc' := 83) g dX12_finds_82 rfl ?_
      refine r_iload_n (pc' := 84) g dX12_finds_83 rfl rfl ?_
      refine r_iadd (pc' := 85) g dX12_finds_84 rfl ?_
      refine r_aload_n (pc' := 86) g dX12_finds_85 rfl rfl ?_
      refine r_iload_n (pc' := 87) g dX12_finds_86 rfl rfl ?_
      refine r_callVi (pc' := 90) (As := [.int s]) (rest := [.int ((16 * p1) + s), rf w 18]) g dX12_finds_87 rfl ml_X12_264 mw_X12_isWorld mv_X12_isWorld (Nat.le_of_ble_eq_true rfl) (c_X12_isWorld _ w N s M) rfl lM_0 (eM_0 w _ _) rfl rfl (Nat.le_of_ble_eq_true rfl) (fun r10 M11 => ?_)
      refine r_ifeq (pc' := 93) (tgt := 108) g dX12_finds_90 rfl rfl ?_ ?_
      · skip
        refine r_iconst (pc' := 109) (v := 0) g dX12_finds_108 rfl rfl ?_
        refine r_iast (pc' := 110) g dX12_finds_109 rfl lM_18 (fun m => eM_18 w m _) ?_
        refine r_ltM (fun M12 => ?_)
        refine r_iinc (pc' := 113) (b := 1) (L' := [rf w 0, .int p1, .int (s + 1)]) g dX12_finds_110 rfl rfl rfl n2 rfl rfl ?_
        refine r_goto (tgt := 60) g dX12_finds_113 rfl ?_
        exact r_weak (Ls2 (Ls2 (Ls2 Ls0))) (hr (s + 1) M12)
      · skip
        refine r_aload_n (pc' := 94) g dX12_finds_93 rfl rfl ?_
        refine r_iload_n (pc' := 95) g dX12_finds_94 rfl rfl ?_
        refine r_callVi (pc' := 98) (As := [.int p1]) (rest := [.int ((16 * p1) + s), rf w 18]) g dX12_finds_95 rfl ml_X12_273 mw_X12_hired mv_X12_hired (Nat.le_of_ble_eq_true rfl) (c_X12_hired _ w N p1 M11) rfl lM_0 (eM_0 w _ _) rfl rfl (Nat.le_of_ble_eq_true rfl) (fun r13 M14 => ?_)
        refine r_aload_n (pc' := 99) g dX12_finds_98 rfl rfl ?_
        refine r_iload_n (pc' := 100) g dX12_finds_99 rfl rfl ?_
        refine r_iload_n (pc' := 101) g dX12_finds_100 rfl rfl ?_
        refine r_callVi (pc' := 104) (As := [.int p1, .int s]) (rest := [.int r13, .int ((16 * p1) + s), rf w 18]) g dX12_finds_101 rfl ml_X12_276 mw_X12_laterOf mv_X12_laterOf (Nat.le_of_ble_eq_true rfl) (c_X12_laterOf _ w N p1 s M14) rfl lM_0 (eM_0 w _ _) rfl rfl (Nat.le_of_ble_eq_true rfl) (fun r15 M16 => ?_)
        refine r_iadd (pc' := 105) g dX12_finds_104 rfl ?_
        refine r_goto (tgt := 109) g dX12_finds_105 rfl ?_
        refine r_iast (pc' := 110) g dX12_finds_109 rfl lM_18 (fun m => eM_18 w m _) ?_
        refine r_ltM (fun M17 => ?_)
        refine r_iinc (pc' := 113) (b := 1) (L' := [rf w 0, .int p1, .int (s + 1)]) g dX12_finds_110 rfl rfl rfl n2 rfl rfl ?_
        refine r_goto (tgt := 60) g dX12_finds_113 rfl ?_
        exact r_weak (Ls2 (Ls2 (Ls2 Ls0))) (hr (s + 1) M17)
set_option maxHeartbeats 4000000 in
set_option maxRecDepth 100000 in
theorem s_X12_finds_40 {w : W0} {Z : Zx} (g : Good KM w Z cX12_finds RX12 5) (e2 : Z.2.2.1 = 3) (e3 : Z.2.2.2 = none) (N : Nat) (G : Unit → Mm → Rs) (kG : ∀ (x : Unit) (M : Mm), Sim KM w Z 122 [rf w 0, .null, .null] [] M (G x M)) : ∀ (n : Nat) (s : Int32) (M : Mm), Sim KM w Z 40 [rf w 0, .int s, .null] [] M (itr (B_X12_finds_40 N G) n s M) := by
  have n1 : 1 < Z.2.2.1 := by rw [e2]; decide
  have n2 : 2 < Z.2.2.1 := by rw [e2]; decide
  refine r_itr (Lf := fun (s : Int32) => [rf w 0, .int s, .null]) (fun rec hr s M => ?_)
  unfold B_X12_finds_40
  refine r_iload_n (pc' := 41) g dX12_finds_40 rfl rfl ?_
  refine r_sipush (pc' := 44) (v := 256) g dX12_finds_41 rfl rfl ?_
  refine r_cge (pc' := 47) (tgt := 122) g dX12_finds_44 rfl rfl ?_ ?_
  · skip
    exact r_weak (Ls2 (Ls1 (Ls1 Ls0))) (kG () M)
  · skip
    refine r_aload_n (pc' := 48) g dX12_finds_47 rfl rfl ?_
    refine r_get (pc' := 51) g dX12_finds_48 rfl fl_X12_68 lM_0 (eM_0 w _ _) rfl ?_
    refine r_iload_n (pc' := 52) g dX12_finds_51 rfl rfl ?_
    refine r_aload_n (pc' := 53) g dX12_finds_52 rfl rfl ?_
    refine r_iload_n (pc' := 54) g dX12_finds_53 rfl rfl ?_
    refine r_callVi (pc' := 57) (As := [.int s]) (rest := [.int s, rf w 20]) g dX12_finds_54 rfl ml_X12_270 mw_X12_isPlan mv_X12_isPlan (Nat.le_of_ble_eq_true rfl) (c_X12_isPlan _ w N s M) rfl lM_0 (eM_0 w _ _) rfl rfl (Nat.le_of_ble_eq_true rfl) (fun r7 M8 => ?_)
    refine r_zast (pc' := 58) g dX12_finds_57 rfl lM_20 (fun m => eM_20 w m _) ?_
    refine r_ltM (fun M9 => ?_)
    refine r_iconst (pc' := 59) (v := 0) g dX12_finds_58 rfl rfl ?_
    refine r_istore_n (pc' := 60) (L' := [rf w 0, .int s, .int 0]) g dX12_finds_59 rfl n2 rfl rfl ?_
    refine r_weak (Ls2 (Ls2 (Ls2 Ls0))) (s_X12_finds_60 g e2 e3 N s _ (fun z18 M19 => ?_) N 0 M9)
    refine r_iinc (pc' := 119) (b := 1) (L' := [rf w 0, .int (s + 1), .null]) g dX12_finds_116 rfl rfl rfl n1 rfl rfl ?_
    refine r_goto (tgt := 40) g dX12_finds_119 rfl ?_
    exact r_weak (Ls2 (Ls2 (Ls1 Ls0))) (hr (s + 1) M19)
set_option maxHeartbeats 4000000 in
set_option maxRecDepth 100000 in
theorem c_X12_finds (l : Launch) (w : W0) (N : Nat) (M : Mm) : Ct l KM w 5 yX12_finds cX12_finds 3 none [rf w 0] M (f_X12_finds N M) := by
  refine ct_of [rf w 0, .null, .null] (by decide) (Nat.le_of_ble_eq_true rfl) rfl (fun Z e1 e2 e3 g => ?_)
  have g : Good KM w Z cX12_finds RX12 5 := g
  unfold f_X12_finds
  have n1 : 1 < Z.2.2.1 := by rw [e2]; decide
  refine r_aload_n (pc' := 1) g dX12_finds_0 rfl rfl ?_
  refine r_get (pc' := 4) g dX12_finds_1 rfl fl_X12_121 lM_0 (eM_0 w _ _) rfl ?_
  refine r_ifeq (pc' := 7) (tgt := 8) g dX12_finds_4 rfl rfl ?_ ?_
  · skip
    refine r_aload_n (pc' := 9) g dX12_finds_8 rfl rfl ?_
    refine r_iconst (pc' := 10) (v := 1) g dX12_finds_9 rfl rfl ?_
    refine r_putz (pc' := 13) g dX12_finds_10 rfl fl_X12_121 rfl rfl lM_0 (eM_0 w _ _) (Nat.le_of_ble_eq_true rfl) (sM_0_2 w _ _ _) ?_
    refine r_ltM (fun M1 => ?_)
    refine r_iconst (pc' := 14) (v := 0) g dX12_finds_13 rfl rfl ?_
    refine r_istore_n (pc' := 15) (L' := [rf w 0, .int 0, .null]) g dX12_finds_14 rfl n1 rfl rfl ?_
    refine r_weak (Ls2 (Ls2 (Ls1 Ls0))) (s_X12_finds_15 g e2 e3 N _ (fun z5 M6 => ?_) N 0 M1)
    refine r_iconst (pc' := 39) (v := 0) g dX12_finds_38 rfl rfl ?_
    refine r_istore_n (pc' := 40) (L' := [rf w 0, .int 0, .null]) g dX12_finds_39 rfl n1 rfl rfl ?_
    refine r_weak (Ls2 (Ls2 (Ls1 Ls0))) (s_X12_finds_40 g e2 e3 N _ (fun z20 M21 => ?_) N 0 M6)
    refine r_aload_n (pc' := 123) g dX12_finds_122 rfl rfl ?_
    refine r_aload_n (pc' := 124) g dX12_finds_123 rfl rfl ?_
    refine r_get (pc' := 127) g dX12_finds_124 rfl fl_X12_13 lM_0 (eM_0 w _ _) rfl ?_
    refine r_bipush (pc' := 129) (v := 42) g dX12_finds_127 rfl rfl ?_
    refine r_ialdc (pc' := 130) g dX12_finds_129 rfl lM_2 (eM_2 w _ _) rfl ?_
    refine r_callVv (pc' := 133) (As := [.int (M21.1 2 (ix 42))]) (rest := []) g dX12_finds_130 rfl ml_X12_279 mw_X12_draws mv_X12_draws (Nat.le_of_ble_eq_true rfl) (c_X12_draws _ w N (M21.1 2 (ix 42)) M21) rfl lM_0 (eM_0 w _ _) rfl rfl (Nat.le_of_ble_eq_true rfl) (fun r22 M23 => ?_)
    exact r_vret g e3 dX12_finds_133
  · skip
    exact r_vret g e3 dX12_finds_7
def f_X12_inSet (N : Nat) (a1 : Int32) (M : Mm) : Rs :=
  if a1 < 0 then
    (bd (f_X12_no N (-1) M) fun r1 M2 =>
    (some (r1, M2)))
  else
    (if 15 < a1 then
      (bd (f_X12_no N (-1) M) fun r7 M8 =>
      (some (r7, M8)))
    else
      (bd (f_X12_finds N  M) fun r3 M4 =>
      (bd (f_X12_isWorld N a1 M4) fun r5 M6 =>
      (if r5 = 0 then
        (some (0, M6))
      else
        (if inb a1 16 then
        (if (M6.1 19 (ix a1)) = 0 then
          (some (0, M6))
        else
          (some (1, M6))) else none)))))

set_option maxHeartbeats 4000000 in
set_option maxRecDepth 100000 in
theorem c_X12_inSet (l : Launch) (w : W0) (N : Nat) (a1 : Int32) (M : Mm) : Ct l KM w 6 yX12_inSet cX12_inSet 2 (some .int) [rf w 0, .int a1] M (f_X12_inSet N a1 M) := by
  refine ct_of [rf w 0, .int a1] (by decide) (Nat.le_of_ble_eq_true rfl) rfl (fun Z e1 e2 e3 g => ?_)
  have g : Good KM w Z cX12_inSet RX12 6 := g
  unfold f_X12_inSet
  refine r_iload_n (pc' := 1) g dX12_inSet_0 rfl rfl ?_
  refine r_iflt (pc' := 4) (tgt := 10) g dX12_inSet_1 rfl rfl ?_ ?_
  · skip
    refine r_aload_n (pc' := 11) g dX12_inSet_10 rfl rfl ?_
    refine r_iconst (pc' := 12) (v := -1) g dX12_inSet_11 rfl rfl ?_
    refine r_callVi (pc' := 15) (As := [.int (-1)]) (rest := []) g dX12_inSet_12 rfl ml_X12_113 mw_X12_no mv_X12_no (Nat.le_of_ble_eq_true rfl) (c_X12_no _ w N (-1) M) rfl lM_0 (eM_0 w _ _) rfl rfl (Nat.le_of_ble_eq_true rfl) (fun r1 M2 => ?_)
    exact r_iret g e3 dX12_inSet_15
  · skip
    refine r_iload_n (pc' := 5) g dX12_inSet_4 rfl rfl ?_
    refine r_bipush (pc' := 7) (v := 15) g dX12_inSet_5 rfl rfl ?_
    refine r_cle (pc' := 10) (tgt := 16) g dX12_inSet_7 rfl rfl ?_ ?_
    · skip
      refine r_aload_n (pc' := 17) g dX12_inSet_16 rfl rfl ?_
      refine r_callVv (pc' := 20) (As := []) (rest := []) g dX12_inSet_17 rfl ml_X12_282 mw_X12_finds mv_X12_finds (Nat.le_of_ble_eq_true rfl) (c_X12_finds _ w N  M) rfl lM_0 (eM_0 w _ _) rfl rfl (Nat.le_of_ble_eq_true rfl) (fun r3 M4 => ?_)
      refine r_aload_n (pc' := 21) g dX12_inSet_20 rfl rfl ?_
      refine r_iload_n (pc' := 22) g dX12_inSet_21 rfl rfl ?_
      refine r_callVi (pc' := 25) (As := [.int a1]) (rest := []) g dX12_inSet_22 rfl ml_X12_264 mw_X12_isWorld mv_X12_isWorld (Nat.le_of_ble_eq_true rfl) (c_X12_isWorld _ w N a1 M4) rfl lM_0 (eM_0 w _ _) rfl rfl (Nat.le_of_ble_eq_true rfl) (fun r5 M6 => ?_)
      refine r_ifeq (pc' := 28) (tgt := 41) g dX12_inSet_25 rfl rfl ?_ ?_
      · skip
        refine r_iconst (pc' := 42) (v := 0) g dX12_inSet_41 rfl rfl ?_
        exact r_iret g e3 dX12_inSet_42
      · skip
        refine r_aload_n (pc' := 29) g dX12_inSet_28 rfl rfl ?_
        refine r_get (pc' := 32) g dX12_inSet_29 rfl fl_X12_65 lM_0 (eM_0 w _ _) rfl ?_
        refine r_iload_n (pc' := 33) g dX12_inSet_32 rfl rfl ?_
        refine r_zald (pc' := 34) g dX12_inSet_33 rfl lM_19 (eM_19 w _ _) ?_
        refine r_ifeq (pc' := 37) (tgt := 41) g dX12_inSet_34 rfl rfl ?_ ?_
        · skip
          refine r_iconst (pc' := 42) (v := 0) g dX12_inSet_41 rfl rfl ?_
          exact r_iret g e3 dX12_inSet_42
        · skip
          refine r_iconst (pc' := 38) (v := 1) g dX12_inSet_37 rfl rfl ?_
          refine r_goto (tgt := 42) g dX12_inSet_38 rfl ?_
          exact r_iret g e3 dX12_inSet_42
    · skip
      refine r_aload_n (pc' := 11) g dX12_inSet_10 rfl rfl ?_
      refine r_iconst (pc' := 12) (v := -1) g dX12_inSet_11 rfl rfl ?_
      refine r_callVi (pc' := 15) (As := [.int (-1)]) (rest := []) g dX12_inSet_12 rfl ml_X12_113 mw_X12_no mv_X12_no (Nat.le_of_ble_eq_true rfl) (c_X12_no _ w N (-1) M) rfl lM_0 (eM_0 w _ _) rfl rfl (Nat.le_of_ble_eq_true rfl) (fun r7 M8 => ?_)
      exact r_iret g e3 dX12_inSet_15
def f_X12_later (N : Nat) (a1 : Int32) (a2 : Int32) (M : Mm) : Rs :=
  bd (f_X12_isPlan N a1 M) fun r1 M2 =>
  (if r1 = 0 then
    (bd (f_X12_no N (-1) M2) fun r3 M4 =>
    (some (r3, M4)))
  else
    (bd (f_X12_isWorld N a2 M2) fun r5 M6 =>
    (if r5 = 0 then
      (bd (f_X12_no N (-1) M6) fun r7 M8 =>
      (some (r7, M8)))
    else
      (bd (f_X12_laterOf N a1 a2 M6) fun r9 M10 =>
      (some (r9, M10))))))

set_option maxHeartbeats 4000000 in
set_option maxRecDepth 100000 in
theorem c_X12_later (l : Launch) (w : W0) (N : Nat) (a1 : Int32) (a2 : Int32) (M : Mm) : Ct l KM w 5 yX12_later cX12_later 3 (some .int) [rf w 0, .int a1, .int a2] M (f_X12_later N a1 a2 M) := by
  refine ct_of [rf w 0, .int a1, .int a2] (by decide) (Nat.le_of_ble_eq_true rfl) rfl (fun Z e1 e2 e3 g => ?_)
  have g : Good KM w Z cX12_later RX12 5 := g
  unfold f_X12_later
  refine r_aload_n (pc' := 1) g dX12_later_0 rfl rfl ?_
  refine r_iload_n (pc' := 2) g dX12_later_1 rfl rfl ?_
  refine r_callVi (pc' := 5) (As := [.int a1]) (rest := []) g dX12_later_2 rfl ml_X12_270 mw_X12_isPlan mv_X12_isPlan (Nat.le_of_ble_eq_true rfl) (c_X12_isPlan _ w N a1 M) rfl lM_0 (eM_0 w _ _) rfl rfl (Nat.le_of_ble_eq_true rfl) (fun r1 M2 => ?_)
  refine r_ifeq (pc' := 8) (tgt := 25) g dX12_later_5 rfl rfl ?_ ?_
  · skip
    refine r_aload_n (pc' := 26) g dX12_later_25 rfl rfl ?_
    refine r_iconst (pc' := 27) (v := -1) g dX12_later_26 rfl rfl ?_
    refine r_callVi (pc' := 30) (As := [.int (-1)]) (rest := []) g dX12_later_27 rfl ml_X12_113 mw_X12_no mv_X12_no (Nat.le_of_ble_eq_true rfl) (c_X12_no _ w N (-1) M2) rfl lM_0 (eM_0 w _ _) rfl rfl (Nat.le_of_ble_eq_true rfl) (fun r3 M4 => ?_)
    exact r_iret g e3 dX12_later_30
  · skip
    refine r_aload_n (pc' := 9) g dX12_later_8 rfl rfl ?_
    refine r_iload_n (pc' := 10) g dX12_later_9 rfl rfl ?_
    refine r_callVi (pc' := 13) (As := [.int a2]) (rest := []) g dX12_later_10 rfl ml_X12_264 mw_X12_isWorld mv_X12_isWorld (Nat.le_of_ble_eq_true rfl) (c_X12_isWorld _ w N a2 M2) rfl lM_0 (eM_0 w _ _) rfl rfl (Nat.le_of_ble_eq_true rfl) (fun r5 M6 => ?_)
    refine r_ifeq (pc' := 16) (tgt := 25) g dX12_later_13 rfl rfl ?_ ?_
    · skip
      refine r_aload_n (pc' := 26) g dX12_later_25 rfl rfl ?_
      refine r_iconst (pc' := 27) (v := -1) g dX12_later_26 rfl rfl ?_
      refine r_callVi (pc' := 30) (As := [.int (-1)]) (rest := []) g dX12_later_27 rfl ml_X12_113 mw_X12_no mv_X12_no (Nat.le_of_ble_eq_true rfl) (c_X12_no _ w N (-1) M6) rfl lM_0 (eM_0 w _ _) rfl rfl (Nat.le_of_ble_eq_true rfl) (fun r7 M8 => ?_)
      exact r_iret g e3 dX12_later_30
    · skip
      refine r_aload_n (pc' := 17) g dX12_later_16 rfl rfl ?_
      refine r_iload_n (pc' := 18) g dX12_later_17 rfl rfl ?_
      refine r_iload_n (pc' := 19) g dX12_later_18 rfl rfl ?_
      refine r_callVi (pc' := 22) (As := [.int a1, .int a2]) (rest := []) g dX12_later_19 rfl ml_X12_276 mw_X12_laterOf mv_X12_laterOf (Nat.le_of_ble_eq_true rfl) (c_X12_laterOf _ w N a1 a2 M6) rfl lM_0 (eM_0 w _ _) rfl rfl (Nat.le_of_ble_eq_true rfl) (fun r9 M10 => ?_)
      refine r_goto (tgt := 30) g dX12_later_22 rfl ?_
      exact r_iret g e3 dX12_later_30
def f_X12_cost (N : Nat) (a1 : Int32) (a2 : Int32) (M : Mm) : Rs :=
  bd (f_X12_isPlan N a1 M) fun r1 M2 =>
  (if r1 = 0 then
    (bd (f_X12_no N (-1) M2) fun r3 M4 =>
    (some (r3, M4)))
  else
    (bd (f_X12_isWorld N a2 M2) fun r5 M6 =>
    (if r5 = 0 then
      (bd (f_X12_no N (-1) M6) fun r9 M10 =>
      (some (r9, M10)))
    else
      (bd (f_X12_finds N  M6) fun r7 M8 =>
      (if inb ((16 * a1) + a2) 4096 then
      (some (M8.1 18 (ix ((16 * a1) + a2)), M8)) else none)))))

set_option maxHeartbeats 4000000 in
set_option maxRecDepth 100000 in
theorem c_X12_cost (l : Launch) (w : W0) (N : Nat) (a1 : Int32) (a2 : Int32) (M : Mm) : Ct l KM w 6 yX12_cost cX12_cost 3 (some .int) [rf w 0, .int a1, .int a2] M (f_X12_cost N a1 a2 M) := by
  refine ct_of [rf w 0, .int a1, .int a2] (by decide) (Nat.le_of_ble_eq_true rfl) rfl (fun Z e1 e2 e3 g => ?_)
  have g : Good KM w Z cX12_cost RX12 6 := g
  unfold f_X12_cost
  refine r_aload_n (pc' := 1) g dX12_cost_0 rfl rfl ?_
  refine r_iload_n (pc' := 2) g dX12_cost_1 rfl rfl ?_
  refine r_callVi (pc' := 5) (As := [.int a1]) (rest := []) g dX12_cost_2 rfl ml_X12_270 mw_X12_isPlan mv_X12_isPlan (Nat.le_of_ble_eq_true rfl) (c_X12_isPlan _ w N a1 M) rfl lM_0 (eM_0 w _ _) rfl rfl (Nat.le_of_ble_eq_true rfl) (fun r1 M2 => ?_)
  refine r_ifeq (pc' := 8) (tgt := 16) g dX12_cost_5 rfl rfl ?_ ?_
  · skip
    refine r_aload_n (pc' := 17) g dX12_cost_16 rfl rfl ?_
    refine r_iconst (pc' := 18) (v := -1) g dX12_cost_17 rfl rfl ?_
    refine r_callVi (pc' := 21) (As := [.int (-1)]) (rest := []) g dX12_cost_18 rfl ml_X12_113 mw_X12_no mv_X12_no (Nat.le_of_ble_eq_true rfl) (c_X12_no _ w N (-1) M2) rfl lM_0 (eM_0 w _ _) rfl rfl (Nat.le_of_ble_eq_true rfl) (fun r3 M4 => ?_)
    exact r_iret g e3 dX12_cost_21
  · skip
    refine r_aload_n (pc' := 9) g dX12_cost_8 rfl rfl ?_
    refine r_iload_n (pc' := 10) g dX12_cost_9 rfl rfl ?_
    refine r_callVi (pc' := 13) (As := [.int a2]) (rest := []) g dX12_cost_10 rfl ml_X12_264 mw_X12_isWorld mv_X12_isWorld (Nat.le_of_ble_eq_true rfl) (c_X12_isWorld _ w N a2 M2) rfl lM_0 (eM_0 w _ _) rfl rfl (Nat.le_of_ble_eq_true rfl) (fun r5 M6 => ?_)
    refine r_ifne (pc' := 16) (tgt := 22) g dX12_cost_13 rfl rfl ?_ ?_
    · skip
      refine r_aload_n (pc' := 23) g dX12_cost_22 rfl rfl ?_
      refine r_callVv (pc' := 26) (As := []) (rest := []) g dX12_cost_23 rfl ml_X12_282 mw_X12_finds mv_X12_finds (Nat.le_of_ble_eq_true rfl) (c_X12_finds _ w N  M6) rfl lM_0 (eM_0 w _ _) rfl rfl (Nat.le_of_ble_eq_true rfl) (fun r7 M8 => ?_)
      refine r_aload_n (pc' := 27) g dX12_cost_26 rfl rfl ?_
      refine r_get (pc' := 30) g dX12_cost_27 rfl fl_X12_62 lM_0 (eM_0 w _ _) rfl ?_
      refine r_bipush (pc' := 32) (v := 16) g dX12_cost_30 rfl rfl ?_
      refine r_iload_n (pc' := 33) g dX12_cost_32 rfl rfl ?_
      refine r_imul (pc' := 34) g dX12_cost_33 rfl ?_
      refine r_iload_n (pc' := 35) g dX12_cost_34 rfl rfl ?_
      refine r_iadd (pc' := 36) g dX12_cost_35 rfl ?_
      refine r_iald (pc' := 37) g dX12_cost_36 rfl lM_18 (eM_18 w _ _) ?_
      exact r_iret g e3 dX12_cost_37
    · skip
      refine r_aload_n (pc' := 17) g dX12_cost_16 rfl rfl ?_
      refine r_iconst (pc' := 18) (v := -1) g dX12_cost_17 rfl rfl ?_
      refine r_callVi (pc' := 21) (As := [.int (-1)]) (rest := []) g dX12_cost_18 rfl ml_X12_113 mw_X12_no mv_X12_no (Nat.le_of_ble_eq_true rfl) (c_X12_no _ w N (-1) M6) rfl lM_0 (eM_0 w _ _) rfl rfl (Nat.le_of_ble_eq_true rfl) (fun r9 M10 => ?_)
      exact r_iret g e3 dX12_cost_21
def B_X12_worstOf_9 (N : Nat) (p1 : Int32) (p2 : Int32) (p3 : Int32) (G : Unit → Mm → Rs) (rec : Int32 → Mm → Rs) (s : Int32) (M : Mm) : Rs :=
  if s < 16 then
      (if inb s 16 then
      (if (M.1 19 (ix s)) = 0 then
        (rec (s + 1) M)
      else
        (if ((s ^^^ p3) &&& p2) = 0 then
          (if (M.1 0 33) < 0 then
            (lt' (wI M 0 33 s) fun M2 =>
            (rec (s + 1) M2))
          else
            (if inb ((16 * p1) + s) 4096 then
            (if inb ((16 * p1) + (M.1 0 33)) 4096 then
            (if (M.1 18 (ix ((16 * p1) + (M.1 0 33)))) < (M.1 18 (ix ((16 * p1) + s))) then
              (lt' (wI M 0 33 s) fun M3 =>
              (rec (s + 1) M3))
            else
              (rec (s + 1) M)) else none) else none))
        else
          (rec (s + 1) M))) else none)
    else
      (G () M)

def f_X12_worstOf (N : Nat) (a1 : Int32) (a2 : Int32) (a3 : Int32) (M : Mm) : Rs :=
  lt' (wI M 0 33 (-9)) fun M1 =>
  (itr (B_X12_worstOf_9 N a1 a2 a3 fun z4 M5 =>
  (if (M5.1 0 33) < 0 then
    (some ((-9), M5))
  else
    (if inb ((16 * a1) + (M5.1 0 33)) 4096 then
    (some (M5.1 18 (ix ((16 * a1) + (M5.1 0 33))), M5)) else none))) N 0 M1)

set_option maxHeartbeats 4000000 in
set_option maxRecDepth 100000 in
theorem s_X12_worstOf_9 {w : W0} {Z : Zx} (g : Good KM w Z cX12_worstOf RX12 0) (e2 : Z.2.2.1 = 5) (e3 : Z.2.2.2 = (some .int)) (N : Nat) (p1 : Int32) (p2 : Int32) (p3 : Int32) (G : Unit → Mm → Rs) (kG : ∀ (x : Unit) (M : Mm), Sim KM w Z 83 [rf w 0, .int p1, .null, .null, .null] [] M (G x M)) : ∀ (n : Nat) (s : Int32) (M : Mm), Sim KM w Z 9 [rf w 0, .int p1, .int p2, .int p3, .int s] [] M (itr (B_X12_worstOf_9 N p1 p2 p3 G) n s M) := by
  have n4 : 4 < Z.2.2.1 := by rw [e2]; decide
  refine r_itr (Lf := fun (s : Int32) => [rf w 0, .int p1, .int p2, .int p3, .int s]) (fun rec hr s M => ?_)
  unfold B_X12_worstOf_9
  refine r_iload (pc' := 11) g dX12_worstOf_9 rfl rfl ?_
  refine r_bipush (pc' := 13) (v := 16) g dX12_worstOf_11 rfl rfl ?_
  refine r_cge (pc' := 16) (tgt := 83) g dX12_worstOf_13 rfl rfl ?_ ?_
  · skip
    exact r_weak (Ls2 (Ls2 (Ls1 (Ls1 (Ls1 Ls0))))) (kG () M)
  · skip
    refine r_aload_n (pc' := 17) g dX12_worstOf_16 rfl rfl ?_
    refine r_get (pc' := 20) g dX12_worstOf_17 rfl fl_X12_65 lM_0 (eM_0 w _ _) rfl ?_
    refine r_iload (pc' := 22) g dX12_worstOf_20 rfl rfl ?_
    refine r_zald (pc' := 23) g dX12_worstOf_22 rfl lM_19 (eM_19 w _ _) ?_
    refine r_ifeq (pc' := 26) (tgt := 77) g dX12_worstOf_23 rfl rfl ?_ ?_
    · skip
      refine r_iinc (pc' := 80) (b := 1) (L' := [rf w 0, .int p1, .int p2, .int p3, .int (s + 1)]) g dX12_worstOf_77 rfl rfl rfl n4 rfl rfl ?_
      refine r_goto (tgt := 9) g dX12_worstOf_80 rfl ?_
      exact r_weak (Ls2 (Ls2 (Ls2 (Ls2 (Ls2 Ls0))))) (hr (s + 1) M)
    · skip
      refine r_iload (pc' := 28) g dX12_worstOf_26 rfl rfl ?_
      refine r_iload_n (pc' := 29) g dX12_worstOf_28 rfl rfl ?_
      refine r_ixor (pc' := 30) g dX12_worstOf_29 rfl ?_
      refine r_iload_n (pc' := 31) g dX12_worstOf_30 rfl rfl ?_
      refine r_iand (pc' := 32) g dX12_worstOf_31 rfl ?_
      refine r_ifne (pc' := 35) (tgt := 77) g dX12_worstOf_32 rfl rfl ?_ ?_
      · skip
        refine r_iinc (pc' := 80) (b := 1) (L' := [rf w 0, .int p1, .int p2, .int p3, .int (s + 1)]) g dX12_worstOf_77 rfl rfl rfl n4 rfl rfl ?_
        refine r_goto (tgt := 9) g dX12_worstOf_80 rfl ?_
        exact r_weak (Ls2 (Ls2 (Ls2 (Ls2 (Ls2 Ls0))))) (hr (s + 1) M)
      · skip
        refine r_aload_n (pc' := 36) g dX12_worstOf_35 rfl rfl ?_
        refine r_get (pc' := 39) g dX12_worstOf_36 rfl fl_X12_285 lM_0 (eM_0 w _ _) rfl ?_
        refine r_iflt (pc' := 42) (tgt := 71) g dX12_worstOf_39 rfl rfl ?_ ?_
        · skip
          refine r_aload_n (pc' := 72) g dX12_worstOf_71 rfl rfl ?_
          refine r_iload (pc' := 74) g dX12_worstOf_72 rfl rfl ?_
          refine r_put (pc' := 77) g dX12_worstOf_74 rfl fl_X12_285 rfl lM_0 (eM_0 w _ _) (Nat.le_of_ble_eq_true rfl) (sM_0_33 w _ _ _) ?_
          refine r_ltM (fun M2 => ?_)
          refine r_iinc (pc' := 80) (b := 1) (L' := [rf w 0, .int p1, .int p2, .int p3, .int (s + 1)]) g dX12_worstOf_77 rfl rfl rfl n4 rfl rfl ?_
          refine r_goto (tgt := 9) g dX12_worstOf_80 rfl ?_
          exact r_weak (Ls2 (Ls2 (Ls2 (Ls2 (Ls2 Ls0))))) (hr (s + 1) M2)
        · skip
          refine r_aload_n (pc' := 43) g dX12_worstOf_42 rfl rfl ?_
          refine r_get (pc' := 46) g dX12_worstOf_43 rfl fl_X12_62 lM_0 (eM_0 w _ _) rfl ?_
          refine r_bipush (pc' := 48) (v := 16) g dX12_worstOf_46 rfl rfl ?_
          refine r_iload_n (pc' := 49) g dX12_worstOf_48 rfl rfl ?_
          refine r_imul (pc' := 50) g dX12_worstOf_49 rfl ?_
          refine r_iload (pc' := 52) g dX12_worstOf_50 rfl rfl ?_
          refine r_iadd (pc' := 53) g dX12_worstOf_52 rfl ?_
          refine r_iald (pc' := 54) g dX12_worstOf_53 rfl lM_18 (eM_18 w _ _) ?_
          refine r_aload_n (pc' := 55) g dX12_worstOf_54 rfl rfl ?_
          refine r_get (pc' := 58) g dX12_worstOf_55 rfl fl_X12_62 lM_0 (eM_0 w _ _) rfl ?_
          refine r_bipush (pc' := 60) (v := 16) g dX12_worstOf_58 rfl rfl ?_
          refine r_iload_n (pc' := 61) g dX12_worstOf_60 rfl rfl ?_
          refine r_imul (pc' := 62) g dX12_worstOf_61 rfl ?_
          refine r_aload_n (pc' := 63) g dX12_worstOf_62 rfl rfl ?_
          refine r_get (pc' := 66) g dX12_worstOf_63 rfl fl_X12_285 lM_0 (eM_0 w _ _) rfl ?_
          refine r_iadd (pc' := 67) g dX12_worstOf_66 rfl ?_
          refine r_iald (pc' := 68) g dX12_worstOf_67 rfl lM_18 (eM_18 w _ _) ?_
          refine r_cle (pc' := 71) (tgt := 77) g dX12_worstOf_68 rfl rfl ?_ ?_
          · skip
            refine r_iinc (pc' := 80) (b := 1) (L' := [rf w 0, .int p1, .int p2, .int p3, .int (s + 1)]) g dX12_worstOf_77 rfl rfl rfl n4 rfl rfl ?_
            refine r_goto (tgt := 9) g dX12_worstOf_80 rfl ?_
            exact r_weak (Ls2 (Ls2 (Ls2 (Ls2 (Ls2 Ls0))))) (hr (s + 1) M)
          · skip
            refine r_aload_n (pc' := 72) g dX12_worstOf_71 rfl rfl ?_
            refine r_iload (pc' := 74) g dX12_worstOf_72 rfl rfl ?_
            refine r_put (pc' := 77) g dX12_worstOf_74 rfl fl_X12_285 rfl lM_0 (eM_0 w _ _) (Nat.le_of_ble_eq_true rfl) (sM_0_33 w _ _ _) ?_
            refine r_ltM (fun M3 => ?_)
            refine r_iinc (pc' := 80) (b := 1) (L' := [rf w 0, .int p1, .int p2, .int p3, .int (s + 1)]) g dX12_worstOf_77 rfl rfl rfl n4 rfl rfl ?_
            refine r_goto (tgt := 9) g dX12_worstOf_80 rfl ?_
            exact r_weak (Ls2 (Ls2 (Ls2 (Ls2 (Ls2 Ls0))))) (hr (s + 1) M3)
set_option maxHeartbeats 4000000 in
set_option maxRecDepth 100000 in
theorem c_X12_worstOf (l : Launch) (w : W0) (N : Nat) (a1 : Int32) (a2 : Int32) (a3 : Int32) (M : Mm) : Ct l KM w 0 yX12_worstOf cX12_worstOf 5 (some .int) [rf w 0, .int a1, .int a2, .int a3] M (f_X12_worstOf N a1 a2 a3 M) := by
  refine ct_of [rf w 0, .int a1, .int a2, .int a3, .null] (by decide) (Nat.le_of_ble_eq_true rfl) rfl (fun Z e1 e2 e3 g => ?_)
  have g : Good KM w Z cX12_worstOf RX12 0 := g
  unfold f_X12_worstOf
  have n4 : 4 < Z.2.2.1 := by rw [e2]; decide
  refine r_aload_n (pc' := 1) g dX12_worstOf_0 rfl rfl ?_
  refine r_bipush (pc' := 3) (v := -9) g dX12_worstOf_1 rfl rfl ?_
  refine r_put (pc' := 6) g dX12_worstOf_3 rfl fl_X12_285 rfl lM_0 (eM_0 w _ _) (Nat.le_of_ble_eq_true rfl) (sM_0_33 w _ _ _) ?_
  refine r_ltM (fun M1 => ?_)
  refine r_iconst (pc' := 7) (v := 0) g dX12_worstOf_6 rfl rfl ?_
  refine r_istore (pc' := 9) (L' := [rf w 0, .int a1, .int a2, .int a3, .int 0]) g dX12_worstOf_7 rfl n4 rfl rfl ?_
  refine r_weak (Ls2 (Ls2 (Ls2 (Ls2 (Ls2 Ls0))))) (s_X12_worstOf_9 g e2 e3 N a1 a2 a3 _ (fun z4 M5 => ?_) N 0 M1)
  refine r_aload_n (pc' := 84) g dX12_worstOf_83 rfl rfl ?_
  refine r_get (pc' := 87) g dX12_worstOf_84 rfl fl_X12_285 lM_0 (eM_0 w _ _) rfl ?_
  refine r_ifge (pc' := 90) (tgt := 95) g dX12_worstOf_87 rfl rfl ?_ ?_
  · skip
    refine r_aload_n (pc' := 96) g dX12_worstOf_95 rfl rfl ?_
    refine r_get (pc' := 99) g dX12_worstOf_96 rfl fl_X12_62 lM_0 (eM_0 w _ _) rfl ?_
    refine r_bipush (pc' := 101) (v := 16) g dX12_worstOf_99 rfl rfl ?_
    refine r_iload_n (pc' := 102) g dX12_worstOf_101 rfl rfl ?_
    refine r_imul (pc' := 103) g dX12_worstOf_102 rfl ?_
    refine r_aload_n (pc' := 104) g dX12_worstOf_103 rfl rfl ?_
    refine r_get (pc' := 107) g dX12_worstOf_104 rfl fl_X12_285 lM_0 (eM_0 w _ _) rfl ?_
    refine r_iadd (pc' := 108) g dX12_worstOf_107 rfl ?_
    refine r_iald (pc' := 109) g dX12_worstOf_108 rfl lM_18 (eM_18 w _ _) ?_
    exact r_iret g e3 dX12_worstOf_109
  · skip
    refine r_bipush (pc' := 92) (v := -9) g dX12_worstOf_90 rfl rfl ?_
    refine r_goto (tgt := 109) g dX12_worstOf_92 rfl ?_
    exact r_iret g e3 dX12_worstOf_109
def f_X12_worst (N : Nat) (a1 : Int32) (a2 : Int32) (M : Mm) : Rs :=
  bd (f_X12_isPlan N a1 M) fun r1 M2 =>
  (if r1 = 0 then
    (bd (f_X12_no N (-1) M2) fun r11 M12 =>
    (some (r11, M12)))
  else
    (bd (f_X12_isIn N a2.toInt64 0 1 M2) fun r3 M4 =>
    (if r3 = 0 then
      (bd (f_X12_no N (-2) M4) fun r9 M10 =>
      (some (r9, M10)))
    else
      (bd (f_X12_finds N  M4) fun r5 M6 =>
      (bd (f_X12_worstOf N a1 0 0 M6) fun r7 M8 =>
      (if a2 = 0 then
        (some (r7, M8))
      else
        (some (M8.1 0 33, M8))))))))

set_option maxHeartbeats 4000000 in
set_option maxRecDepth 100000 in
theorem c_X12_worst (l : Launch) (w : W0) (N : Nat) (a1 : Int32) (a2 : Int32) (M : Mm) : Ct l KM w 6 yX12_worst cX12_worst 4 (some .int) [rf w 0, .int a1, .int a2] M (f_X12_worst N a1 a2 M) := by
  refine ct_of [rf w 0, .int a1, .int a2, .null] (by decide) (Nat.le_of_ble_eq_true rfl) rfl (fun Z e1 e2 e3 g => ?_)
  have g : Good KM w Z cX12_worst RX12 6 := g
  unfold f_X12_worst
  have n3 : 3 < Z.2.2.1 := by rw [e2]; decide
  refine r_aload_n (pc' := 1) g dX12_worst_0 rfl rfl ?_
  refine r_iload_n (pc' := 2) g dX12_worst_1 rfl rfl ?_
  refine r_callVi (pc' := 5) (As := [.int a1]) (rest := []) g dX12_worst_2 rfl ml_X12_270 mw_X12_isPlan mv_X12_isPlan (Nat.le_of_ble_eq_true rfl) (c_X12_isPlan _ w N a1 M) rfl lM_0 (eM_0 w _ _) rfl rfl (Nat.le_of_ble_eq_true rfl) (fun r1 M2 => ?_)
  refine r_ifne (pc' := 8) (tgt := 14) g dX12_worst_5 rfl rfl ?_ ?_
  · skip
    refine r_iload_n (pc' := 15) g dX12_worst_14 rfl rfl ?_
    refine r_i2l (pc' := 16) g dX12_worst_15 rfl ?_
    refine r_lconst (pc' := 17) (v := 0) g dX12_worst_16 rfl rfl ?_
    refine r_lconst (pc' := 18) (v := 1) g dX12_worst_17 rfl rfl ?_
    refine r_callSi (pc' := 21) (As := [.long a2.toInt64, .long 0, .long 1]) (rest := []) g dX12_worst_18 rfl ml_X12_109 mw_X12_isIn ms_X12_isIn (Nat.le_of_ble_eq_true rfl) (c_X12_isIn _ w N a2.toInt64 0 1 M2) rfl rfl (Nat.le_of_ble_eq_true rfl) (fun r3 M4 => ?_)
    refine r_ifne (pc' := 24) (tgt := 31) g dX12_worst_21 rfl rfl ?_ ?_
    · skip
      refine r_aload_n (pc' := 32) g dX12_worst_31 rfl rfl ?_
      refine r_callVv (pc' := 35) (As := []) (rest := []) g dX12_worst_32 rfl ml_X12_282 mw_X12_finds mv_X12_finds (Nat.le_of_ble_eq_true rfl) (c_X12_finds _ w N  M4) rfl lM_0 (eM_0 w _ _) rfl rfl (Nat.le_of_ble_eq_true rfl) (fun r5 M6 => ?_)
      refine r_aload_n (pc' := 36) g dX12_worst_35 rfl rfl ?_
      refine r_iload_n (pc' := 37) g dX12_worst_36 rfl rfl ?_
      refine r_iconst (pc' := 38) (v := 0) g dX12_worst_37 rfl rfl ?_
      refine r_iconst (pc' := 39) (v := 0) g dX12_worst_38 rfl rfl ?_
      refine r_callVi (pc' := 42) (As := [.int a1, .int 0, .int 0]) (rest := []) g dX12_worst_39 rfl ml_X12_288 mw_X12_worstOf mv_X12_worstOf (Nat.le_of_ble_eq_true rfl) (c_X12_worstOf _ w N a1 0 0 M6) rfl lM_0 (eM_0 w _ _) rfl rfl (Nat.le_of_ble_eq_true rfl) (fun r7 M8 => ?_)
      refine r_istore_n (pc' := 43) (L' := [rf w 0, .int a1, .int a2, .int r7]) g dX12_worst_42 rfl n3 rfl rfl ?_
      refine r_iload_n (pc' := 44) g dX12_worst_43 rfl rfl ?_
      refine r_ifne (pc' := 47) (tgt := 51) g dX12_worst_44 rfl rfl ?_ ?_
      · skip
        refine r_aload_n (pc' := 52) g dX12_worst_51 rfl rfl ?_
        refine r_get (pc' := 55) g dX12_worst_52 rfl fl_X12_285 lM_0 (eM_0 w _ _) rfl ?_
        exact r_iret g e3 dX12_worst_55
      · skip
        refine r_iload_n (pc' := 48) g dX12_worst_47 rfl rfl ?_
        refine r_goto (tgt := 55) g dX12_worst_48 rfl ?_
        exact r_iret g e3 dX12_worst_55
    · skip
      refine r_aload_n (pc' := 25) g dX12_worst_24 rfl rfl ?_
      refine r_bipush (pc' := 27) (v := -2) g dX12_worst_25 rfl rfl ?_
      refine r_callVi (pc' := 30) (As := [.int (-2)]) (rest := []) g dX12_worst_27 rfl ml_X12_113 mw_X12_no mv_X12_no (Nat.le_of_ble_eq_true rfl) (c_X12_no _ w N (-2) M4) rfl lM_0 (eM_0 w _ _) rfl rfl (Nat.le_of_ble_eq_true rfl) (fun r9 M10 => ?_)
      exact r_iret g e3 dX12_worst_30
  · skip
    refine r_aload_n (pc' := 9) g dX12_worst_8 rfl rfl ?_
    refine r_iconst (pc' := 10) (v := -1) g dX12_worst_9 rfl rfl ?_
    refine r_callVi (pc' := 13) (As := [.int (-1)]) (rest := []) g dX12_worst_10 rfl ml_X12_113 mw_X12_no mv_X12_no (Nat.le_of_ble_eq_true rfl) (c_X12_no _ w N (-1) M2) rfl lM_0 (eM_0 w _ _) rfl rfl (Nat.le_of_ble_eq_true rfl) (fun r11 M12 => ?_)
    exact r_iret g e3 dX12_worst_13
