def B_X12_prove_70 (N : Nat) (G : Int32 → Mm → Rs) (rec : (Int32 × Int32) → Mm → Rs) (s : Int32 × Int32) (M : Mm) : Rs :=
  if s.2 < 4 then
      (if inb s.2 12 then
      (if inb s.2 4 then
      (if inb (4 + s.2) 12 then
      (if inb s.2 4 then
      (if inb s.2 4 then
      (if 0 < (M.1 16 (ix s.2)) then
        (if inb (8 + s.2) 12 then
        (if inb ((6 * s.2) + 4) 47 then
        (lt' (s.1 + ((((M.1 23 (ix s.2)) * (M.1 16 (ix s.2))) - ((M.1 23 (ix (4 + s.2))) * (M.1 15 (ix s.2)))) - ((M.1 23 (ix (8 + s.2))) * (M.1 2 (ix ((6 * s.2) + 4)))))) fun x13 =>
        (rec (x13, s.2 + 1) M)) else none) else none)
      else
        (lt' (s.1 + ((((M.1 23 (ix s.2)) * (M.1 16 (ix s.2))) - ((M.1 23 (ix (4 + s.2))) * (M.1 15 (ix s.2)))) - 0)) fun x12 =>
        (rec (x12, s.2 + 1) M))) else none) else none) else none) else none) else none)
    else
      (G s.1 M)

def f_X12_prove (N : Nat) (a1 : Int32) (a2 : Int32) (M : Mm) : Rs :=
  bd (f_X12_isPlan N a1 M) fun r1 M2 =>
  (if r1 = 0 then
    (bd (f_X12_no N (-1) M2) fun r3 M4 =>
    (some (r3, M4)))
  else
    (bd (f_X12_isWorld N a2 M2) fun r5 M6 =>
    (if r5 = 0 then
      (bd (f_X12_no N (-1) M6) fun r18 M19 =>
      (some (r18, M19)))
    else
      (if (M6.1 0 37) < 12 then
        (bd (f_X12_no N (-3) M6) fun r16 M17 =>
        (some (r16, M17)))
      else
        (lt' (wI M6 0 37 0) fun M7 =>
        (bd (f_X12_findLacks N a1 a2 M7) fun r8 M9 =>
        (bd (f_X12_fails N  M9) fun r10 M11 =>
        (if r10 < 0 then
          (itr (B_X12_prove_70 N fun z14 M15 =>
          (if z14 < 0 then
            (some (0, M15))
          else
            (some (z14, M15)))) N (0, 0) M11)
        else
          (some ((-1000) - r10, M11))))))))))

set_option maxHeartbeats 4000000 in
set_option maxRecDepth 100000 in
theorem s_X12_prove_70 {w : W0} {Z : Zx} (g : Good KM w Z cX12_prove RX12 2) (e2 : Z.2.2.1 = 6) (e3 : Z.2.2.2 = (some .int)) (N : Nat) (G : Int32 → Mm → Rs) (kG : ∀ (x : Int32) (M : Mm), Sim KM w Z 158 [.null, .null, .null, .null, .int x, .null] [] M (G x M)) : ∀ (n : Nat) (s : Int32 × Int32) (M : Mm), Sim KM w Z 70 [rf w 0, .null, .null, .null, .int s.1, .int s.2] [] M (itr (B_X12_prove_70 N G) n s M) := by
  have n4 : 4 < Z.2.2.1 := by rw [e2]; decide
  have n5 : 5 < Z.2.2.1 := by rw [e2]; decide
  refine r_itr (Lf := fun (s : Int32 × Int32) => [rf w 0, .null, .null, .null, .int s.1, .int s.2]) (fun rec hr s M => ?_)
  unfold B_X12_prove_70
  refine r_iload (pc' := 72) g dX12_prove_70 rfl rfl ?_
  refine r_iconst (pc' := 73) (v := 4) g dX12_prove_72 rfl rfl ?_
  refine r_cge (pc' := 76) (tgt := 158) g dX12_prove_73 rfl rfl ?_ ?_
  · skip
    exact r_weak (Ls1 (Ls1 (Ls1 (Ls1 (Ls2 (Ls1 Ls0)))))) (kG s.1 M)
  · skip
    refine r_iload (pc' := 78) g dX12_prove_76 rfl rfl ?_
    refine r_aload_n (pc' := 79) g dX12_prove_78 rfl rfl ?_
    refine r_get (pc' := 82) g dX12_prove_79 rfl fl_X12_77 lM_0 (eM_0 w _ _) rfl ?_
    refine r_iload (pc' := 84) g dX12_prove_82 rfl rfl ?_
    refine r_iald (pc' := 85) g dX12_prove_84 rfl lM_23 (eM_23 w _ _) ?_
    refine r_aload_n (pc' := 86) g dX12_prove_85 rfl rfl ?_
    refine r_get (pc' := 89) g dX12_prove_86 rfl fl_X12_56 lM_0 (eM_0 w _ _) rfl ?_
    refine r_iload (pc' := 91) g dX12_prove_89 rfl rfl ?_
    refine r_iald (pc' := 92) g dX12_prove_91 rfl lM_16 (eM_16 w _ _) ?_
    refine r_imul (pc' := 93) g dX12_prove_92 rfl ?_
    refine r_aload_n (pc' := 94) g dX12_prove_93 rfl rfl ?_
    refine r_get (pc' := 97) g dX12_prove_94 rfl fl_X12_77 lM_0 (eM_0 w _ _) rfl ?_
    refine r_iconst (pc' := 98) (v := 4) g dX12_prove_97 rfl rfl ?_
    refine r_iload (pc' := 100) g dX12_prove_98 rfl rfl ?_
    refine r_iadd (pc' := 101) g dX12_prove_100 rfl ?_
    refine r_iald (pc' := 102) g dX12_prove_101 rfl lM_23 (eM_23 w _ _) ?_
    refine r_aload_n (pc' := 103) g dX12_prove_102 rfl rfl ?_
    refine r_get (pc' := 106) g dX12_prove_103 rfl fl_X12_53 lM_0 (eM_0 w _ _) rfl ?_
    refine r_iload (pc' := 108) g dX12_prove_106 rfl rfl ?_
    refine r_iald (pc' := 109) g dX12_prove_108 rfl lM_15 (eM_15 w _ _) ?_
    refine r_imul (pc' := 110) g dX12_prove_109 rfl ?_
    refine r_isub (pc' := 111) g dX12_prove_110 rfl ?_
    refine r_aload_n (pc' := 112) g dX12_prove_111 rfl rfl ?_
    refine r_get (pc' := 115) g dX12_prove_112 rfl fl_X12_56 lM_0 (eM_0 w _ _) rfl ?_
    refine r_iload (pc' := 117) g dX12_prove_115 rfl rfl ?_
    refine r_iald (pc' := 118) g dX12_prove_117 rfl lM_16 (eM_16 w _ _) ?_
    refine r_ifle (pc' := 121) (tgt := 147) g dX12_prove_118 rfl rfl ?_ ?_
    · skip
      refine r_iconst (pc' := 148) (v := 0) g dX12_prove_147 rfl rfl ?_
      refine r_isub (pc' := 149) g dX12_prove_148 rfl ?_
      refine r_iadd (pc' := 150) g dX12_prove_149 rfl ?_
      refine r_ltI (fun x12 => ?_)
      refine r_istore (pc' := 152) (L' := [rf w 0, .null, .null, .null, .int x12, .int s.2]) g dX12_prove_150 rfl n4 rfl rfl ?_
      refine r_iinc (pc' := 155) (b := 1) (L' := [rf w 0, .null, .null, .null, .int x12, .int (s.2 + 1)]) g dX12_prove_152 rfl rfl rfl n5 rfl rfl ?_
      refine r_goto (tgt := 70) g dX12_prove_155 rfl ?_
      exact r_weak (Ls2 (Ls1 (Ls1 (Ls1 (Ls2 (Ls2 Ls0)))))) (hr (x12, s.2 + 1) M)
    · skip
      refine r_aload_n (pc' := 122) g dX12_prove_121 rfl rfl ?_
      refine r_get (pc' := 125) g dX12_prove_122 rfl fl_X12_77 lM_0 (eM_0 w _ _) rfl ?_
      refine r_bipush (pc' := 127) (v := 8) g dX12_prove_125 rfl rfl ?_
      refine r_iload (pc' := 129) g dX12_prove_127 rfl rfl ?_
      refine r_iadd (pc' := 130) g dX12_prove_129 rfl ?_
      refine r_iald (pc' := 131) g dX12_prove_130 rfl lM_23 (eM_23 w _ _) ?_
      refine r_aload_n (pc' := 132) g dX12_prove_131 rfl rfl ?_
      refine r_get (pc' := 135) g dX12_prove_132 rfl fl_X12_13 lM_0 (eM_0 w _ _) rfl ?_
      refine r_bipush (pc' := 137) (v := 6) g dX12_prove_135 rfl rfl ?_
      refine r_iload (pc' := 139) g dX12_prove_137 rfl rfl ?_
      refine r_imul (pc' := 140) g dX12_prove_139 rfl ?_
      refine r_iconst (pc' := 141) (v := 4) g dX12_prove_140 rfl rfl ?_
      refine r_iadd (pc' := 142) g dX12_prove_141 rfl ?_
      refine r_iald (pc' := 143) g dX12_prove_142 rfl lM_2 (eM_2 w _ _) ?_
      refine r_imul (pc' := 144) g dX12_prove_143 rfl ?_
      refine r_goto (tgt := 148) g dX12_prove_144 rfl ?_
      refine r_isub (pc' := 149) g dX12_prove_148 rfl ?_
      refine r_iadd (pc' := 150) g dX12_prove_149 rfl ?_
      refine r_ltI (fun x13 => ?_)
      refine r_istore (pc' := 152) (L' := [rf w 0, .null, .null, .null, .int x13, .int s.2]) g dX12_prove_150 rfl n4 rfl rfl ?_
      refine r_iinc (pc' := 155) (b := 1) (L' := [rf w 0, .null, .null, .null, .int x13, .int (s.2 + 1)]) g dX12_prove_152 rfl rfl rfl n5 rfl rfl ?_
      refine r_goto (tgt := 70) g dX12_prove_155 rfl ?_
      exact r_weak (Ls2 (Ls1 (Ls1 (Ls1 (Ls2 (Ls2 Ls0)))))) (hr (x13, s.2 + 1) M)
set_option maxHeartbeats 4000000 in
set_option maxRecDepth 100000 in
theorem c_X12_prove (l : Launch) (w : W0) (N : Nat) (a1 : Int32) (a2 : Int32) (M : Mm) : Ct l KM w 2 yX12_prove cX12_prove 6 (some .int) [rf w 0, .int a1, .int a2] M (f_X12_prove N a1 a2 M) := by
  refine ct_of [rf w 0, .int a1, .int a2, .null, .null, .null] (by decide) (Nat.le_of_ble_eq_true rfl) rfl (fun Z e1 e2 e3 g => ?_)
  have g : Good KM w Z cX12_prove RX12 2 := g
  unfold f_X12_prove
  have n3 : 3 < Z.2.2.1 := by rw [e2]; decide
  have n4 : 4 < Z.2.2.1 := by rw [e2]; decide
  have n5 : 5 < Z.2.2.1 := by rw [e2]; decide
  refine r_aload_n (pc' := 1) g dX12_prove_0 rfl rfl ?_
  refine r_iload_n (pc' := 2) g dX12_prove_1 rfl rfl ?_
  refine r_callVi (pc' := 5) (As := [.int a1]) (rest := []) g dX12_prove_2 rfl ml_X12_270 mw_X12_isPlan mv_X12_isPlan (Nat.le_of_ble_eq_true rfl) (c_X12_isPlan _ w N a1 M) rfl lM_0 (eM_0 w _ _) rfl rfl (Nat.le_of_ble_eq_true rfl) (fun r1 M2 => ?_)
  refine r_ifeq (pc' := 8) (tgt := 16) g dX12_prove_5 rfl rfl ?_ ?_
  · skip
    refine r_aload_n (pc' := 17) g dX12_prove_16 rfl rfl ?_
    refine r_iconst (pc' := 18) (v := -1) g dX12_prove_17 rfl rfl ?_
    refine r_callVi (pc' := 21) (As := [.int (-1)]) (rest := []) g dX12_prove_18 rfl ml_X12_113 mw_X12_no mv_X12_no (Nat.le_of_ble_eq_true rfl) (c_X12_no _ w N (-1) M2) rfl lM_0 (eM_0 w _ _) rfl rfl (Nat.le_of_ble_eq_true rfl) (fun r3 M4 => ?_)
    exact r_iret g e3 dX12_prove_21
  · skip
    refine r_aload_n (pc' := 9) g dX12_prove_8 rfl rfl ?_
    refine r_iload_n (pc' := 10) g dX12_prove_9 rfl rfl ?_
    refine r_callVi (pc' := 13) (As := [.int a2]) (rest := []) g dX12_prove_10 rfl ml_X12_264 mw_X12_isWorld mv_X12_isWorld (Nat.le_of_ble_eq_true rfl) (c_X12_isWorld _ w N a2 M2) rfl lM_0 (eM_0 w _ _) rfl rfl (Nat.le_of_ble_eq_true rfl) (fun r5 M6 => ?_)
    refine r_ifne (pc' := 16) (tgt := 22) g dX12_prove_13 rfl rfl ?_ ?_
    · skip
      refine r_aload_n (pc' := 23) g dX12_prove_22 rfl rfl ?_
      refine r_get (pc' := 26) g dX12_prove_23 rfl fl_X12_313 lM_0 (eM_0 w _ _) rfl ?_
      refine r_bipush (pc' := 28) (v := 12) g dX12_prove_26 rfl rfl ?_
      refine r_cge (pc' := 31) (tgt := 38) g dX12_prove_28 rfl rfl ?_ ?_
      · skip
        refine r_aload_n (pc' := 39) g dX12_prove_38 rfl rfl ?_
        refine r_iconst (pc' := 40) (v := 0) g dX12_prove_39 rfl rfl ?_
        refine r_put (pc' := 43) g dX12_prove_40 rfl fl_X12_313 rfl lM_0 (eM_0 w _ _) (Nat.le_of_ble_eq_true rfl) (sM_0_37 w _ _ _) ?_
        refine r_ltM (fun M7 => ?_)
        refine r_aload_n (pc' := 44) g dX12_prove_43 rfl rfl ?_
        refine r_iload_n (pc' := 45) g dX12_prove_44 rfl rfl ?_
        refine r_iload_n (pc' := 46) g dX12_prove_45 rfl rfl ?_
        refine r_callVv (pc' := 49) (As := [.int a1, .int a2]) (rest := []) g dX12_prove_46 rfl ml_X12_244 mw_X12_findLacks mv_X12_findLacks (Nat.le_of_ble_eq_true rfl) (c_X12_findLacks _ w N a1 a2 M7) rfl lM_0 (eM_0 w _ _) rfl rfl (Nat.le_of_ble_eq_true rfl) (fun r8 M9 => ?_)
        refine r_aload_n (pc' := 50) g dX12_prove_49 rfl rfl ?_
        refine r_callVi (pc' := 53) (As := []) (rest := []) g dX12_prove_50 rfl ml_X12_318 mw_X12_fails mv_X12_fails (Nat.le_of_ble_eq_true rfl) (c_X12_fails _ w N  M9) rfl lM_0 (eM_0 w _ _) rfl rfl (Nat.le_of_ble_eq_true rfl) (fun r10 M11 => ?_)
        refine r_istore_n (pc' := 54) (L' := [rf w 0, .int a1, .int a2, .int r10, .null, .null]) g dX12_prove_53 rfl n3 rfl rfl ?_
        refine r_iload_n (pc' := 55) g dX12_prove_54 rfl rfl ?_
        refine r_iflt (pc' := 58) (tgt := 64) g dX12_prove_55 rfl rfl ?_ ?_
        · skip
          refine r_iconst (pc' := 65) (v := 0) g dX12_prove_64 rfl rfl ?_
          refine r_istore (pc' := 67) (L' := [rf w 0, .int a1, .int a2, .int r10, .int 0, .null]) g dX12_prove_65 rfl n4 rfl rfl ?_
          refine r_iconst (pc' := 68) (v := 0) g dX12_prove_67 rfl rfl ?_
          refine r_istore (pc' := 70) (L' := [rf w 0, .int a1, .int a2, .int r10, .int 0, .int 0]) g dX12_prove_68 rfl n5 rfl rfl ?_
          refine r_weak (Ls2 (Ls1 (Ls1 (Ls1 (Ls2 (Ls2 Ls0)))))) (s_X12_prove_70 g e2 e3 N _ (fun z14 M15 => ?_) N (0, 0) M11)
          refine r_iload (pc' := 160) g dX12_prove_158 rfl rfl ?_
          refine r_ifge (pc' := 163) (tgt := 167) g dX12_prove_160 rfl rfl ?_ ?_
          · skip
            refine r_iload (pc' := 169) g dX12_prove_167 rfl rfl ?_
            exact r_iret g e3 dX12_prove_169
          · skip
            refine r_iconst (pc' := 164) (v := 0) g dX12_prove_163 rfl rfl ?_
            refine r_goto (tgt := 169) g dX12_prove_164 rfl ?_
            exact r_iret g e3 dX12_prove_169
        · skip
          refine r_sipush (pc' := 61) (v := -1000) g dX12_prove_58 rfl rfl ?_
          refine r_iload_n (pc' := 62) g dX12_prove_61 rfl rfl ?_
          refine r_isub (pc' := 63) g dX12_prove_62 rfl ?_
          exact r_iret g e3 dX12_prove_63
      · skip
        refine r_aload_n (pc' := 32) g dX12_prove_31 rfl rfl ?_
        refine r_bipush (pc' := 34) (v := -3) g dX12_prove_32 rfl rfl ?_
        refine r_callVi (pc' := 37) (As := [.int (-3)]) (rest := []) g dX12_prove_34 rfl ml_X12_113 mw_X12_no mv_X12_no (Nat.le_of_ble_eq_true rfl) (c_X12_no _ w N (-3) M6) rfl lM_0 (eM_0 w _ _) rfl rfl (Nat.le_of_ble_eq_true rfl) (fun r16 M17 => ?_)
        exact r_iret g e3 dX12_prove_37
    · skip
      refine r_aload_n (pc' := 17) g dX12_prove_16 rfl rfl ?_
      refine r_iconst (pc' := 18) (v := -1) g dX12_prove_17 rfl rfl ?_
      refine r_callVi (pc' := 21) (As := [.int (-1)]) (rest := []) g dX12_prove_18 rfl ml_X12_113 mw_X12_no mv_X12_no (Nat.le_of_ble_eq_true rfl) (c_X12_no _ w N (-1) M6) rfl lM_0 (eM_0 w _ _) rfl rfl (Nat.le_of_ble_eq_true rfl) (fun r18 M19 => ?_)
      exact r_iret g e3 dX12_prove_21
def B_X12_promise_55 (N : Nat) (p1 : Int32) (p2 : Int32) (p3 : Int32) (G : Int32 → Mm → Rs) (rec : (Int32 × Int32) → Mm → Rs) (s : Int32 × Int32) (M : Mm) : Rs :=
  if s.2 < 4 then
      (bd (f_X12_isThere N s.2 M) fun r11 M12 =>
      (if r11 = 0 then
        (lt' (s.1 ||| 0) fun x13 =>
        (rec (x13, s.2 + 1) M12))
      else
        (if inb ((6 * s.2) + 5) 47 then
        (if p2 < (M12.1 2 (ix ((6 * s.2) + 5))) then
          (lt' (s.1 ||| 0) fun x14 =>
          (rec (x14, s.2 + 1) M12))
        else
          (lt' (s.1 ||| (1 <<< (s.2 &&& 31))) fun x15 =>
          (rec (x15, s.2 + 1) M12))) else none)))
    else
      (G s.1 M)

def f_X12_promise (N : Nat) (a1 : Int32) (a2 : Int32) (a3 : Int32) (M : Mm) : Rs :=
  bd (f_X12_isPlan N a1 M) fun r1 M2 =>
  (if r1 = 0 then
    (bd (f_X12_no N (-1) M2) fun r3 M4 =>
    (some (r3, M4)))
  else
    (bd (f_X12_isWorld N a3 M2) fun r5 M6 =>
    (if r5 = 0 then
      (bd (f_X12_no N (-1) M6) fun r22 M23 =>
      (some (r22, M23)))
    else
      (bd (f_X12_outOf N a2.toInt64 0 9 M6) fun r7 M8 =>
      (if r7 = 0 then
        (bd (f_X12_finds N  M8) fun r9 M10 =>
        (itr (B_X12_promise_55 N a1 a2 a3 fun z16 M17 =>
        (bd (f_X12_worstOf N a1 z16 a3 M17) fun r18 M19 =>
        (some (r18, M19)))) N (0, 0) M10))
      else
        (bd (f_X12_no N r7 M8) fun r20 M21 =>
        (some (r20, M21))))))))

set_option maxHeartbeats 4000000 in
set_option maxRecDepth 100000 in
theorem s_X12_promise_55 {w : W0} {Z : Zx} (g : Good KM w Z cX12_promise RX12 6) (e2 : Z.2.2.1 = 7) (e3 : Z.2.2.2 = (some .int)) (N : Nat) (p1 : Int32) (p2 : Int32) (p3 : Int32) (G : Int32 → Mm → Rs) (kG : ∀ (x : Int32) (M : Mm), Sim KM w Z 105 [rf w 0, .int p1, .null, .int p3, .null, .int x, .null] [] M (G x M)) : ∀ (n : Nat) (s : Int32 × Int32) (M : Mm), Sim KM w Z 55 [rf w 0, .int p1, .int p2, .int p3, .null, .int s.1, .int s.2] [] M (itr (B_X12_promise_55 N p1 p2 p3 G) n s M) := by
  have n5 : 5 < Z.2.2.1 := by rw [e2]; decide
  have n6 : 6 < Z.2.2.1 := by rw [e2]; decide
  refine r_itr (Lf := fun (s : Int32 × Int32) => [rf w 0, .int p1, .int p2, .int p3, .null, .int s.1, .int s.2]) (fun rec hr s M => ?_)
  unfold B_X12_promise_55
  refine r_iload (pc' := 57) g dX12_promise_55 rfl rfl ?_
  refine r_iconst (pc' := 58) (v := 4) g dX12_promise_57 rfl rfl ?_
  refine r_cge (pc' := 61) (tgt := 105) g dX12_promise_58 rfl rfl ?_ ?_
  · skip
    exact r_weak (Ls2 (Ls2 (Ls1 (Ls2 (Ls1 (Ls2 (Ls1 Ls0))))))) (kG s.1 M)
  · skip
    refine r_iload (pc' := 63) g dX12_promise_61 rfl rfl ?_
    refine r_aload_n (pc' := 64) g dX12_promise_63 rfl rfl ?_
    refine r_iload (pc' := 66) g dX12_promise_64 rfl rfl ?_
    refine r_callVi (pc' := 69) (As := [.int s.2]) (rest := [.int s.1]) g dX12_promise_66 rfl ml_X12_117 mw_X12_isThere mv_X12_isThere (Nat.le_of_ble_eq_true rfl) (c_X12_isThere _ w N s.2 M) rfl lM_0 (eM_0 w _ _) rfl rfl (Nat.le_of_ble_eq_true rfl) (fun r11 M12 => ?_)
    refine r_ifeq (pc' := 72) (tgt := 95) g dX12_promise_69 rfl rfl ?_ ?_
    · skip
      refine r_iconst (pc' := 96) (v := 0) g dX12_promise_95 rfl rfl ?_
      refine r_ior (pc' := 97) g dX12_promise_96 rfl ?_
      refine r_ltI (fun x13 => ?_)
      refine r_istore (pc' := 99) (L' := [rf w 0, .int p1, .int p2, .int p3, .null, .int x13, .int s.2]) g dX12_promise_97 rfl n5 rfl rfl ?_
      refine r_iinc (pc' := 102) (b := 1) (L' := [rf w 0, .int p1, .int p2, .int p3, .null, .int x13, .int (s.2 + 1)]) g dX12_promise_99 rfl rfl rfl n6 rfl rfl ?_
      refine r_goto (tgt := 55) g dX12_promise_102 rfl ?_
      exact r_weak (Ls2 (Ls2 (Ls2 (Ls2 (Ls1 (Ls2 (Ls2 Ls0))))))) (hr (x13, s.2 + 1) M12)
    · skip
      refine r_aload_n (pc' := 73) g dX12_promise_72 rfl rfl ?_
      refine r_get (pc' := 76) g dX12_promise_73 rfl fl_X12_13 lM_0 (eM_0 w _ _) rfl ?_
      refine r_bipush (pc' := 78) (v := 6) g dX12_promise_76 rfl rfl ?_
      refine r_iload (pc' := 80) g dX12_promise_78 rfl rfl ?_
      refine r_imul (pc' := 81) g dX12_promise_80 rfl ?_
      refine r_iconst (pc' := 82) (v := 5) g dX12_promise_81 rfl rfl ?_
      refine r_iadd (pc' := 83) g dX12_promise_82 rfl ?_
      refine r_iald (pc' := 84) g dX12_promise_83 rfl lM_2 (eM_2 w _ _) ?_
      refine r_iload_n (pc' := 85) g dX12_promise_84 rfl rfl ?_
      refine r_cgt (pc' := 88) (tgt := 95) g dX12_promise_85 rfl rfl ?_ ?_
      · skip
        refine r_iconst (pc' := 96) (v := 0) g dX12_promise_95 rfl rfl ?_
        refine r_ior (pc' := 97) g dX12_promise_96 rfl ?_
        refine r_ltI (fun x14 => ?_)
        refine r_istore (pc' := 99) (L' := [rf w 0, .int p1, .int p2, .int p3, .null, .int x14, .int s.2]) g dX12_promise_97 rfl n5 rfl rfl ?_
        refine r_iinc (pc' := 102) (b := 1) (L' := [rf w 0, .int p1, .int p2, .int p3, .null, .int x14, .int (s.2 + 1)]) g dX12_promise_99 rfl rfl rfl n6 rfl rfl ?_
        refine r_goto (tgt := 55) g dX12_promise_102 rfl ?_
        exact r_weak (Ls2 (Ls2 (Ls2 (Ls2 (Ls1 (Ls2 (Ls2 Ls0))))))) (hr (x14, s.2 + 1) M12)
      · skip
        refine r_iconst (pc' := 89) (v := 1) g dX12_promise_88 rfl rfl ?_
        refine r_iload (pc' := 91) g dX12_promise_89 rfl rfl ?_
        refine r_ishl (pc' := 92) g dX12_promise_91 rfl ?_
        refine r_goto (tgt := 96) g dX12_promise_92 rfl ?_
        refine r_ior (pc' := 97) g dX12_promise_96 rfl ?_
        refine r_ltI (fun x15 => ?_)
        refine r_istore (pc' := 99) (L' := [rf w 0, .int p1, .int p2, .int p3, .null, .int x15, .int s.2]) g dX12_promise_97 rfl n5 rfl rfl ?_
        refine r_iinc (pc' := 102) (b := 1) (L' := [rf w 0, .int p1, .int p2, .int p3, .null, .int x15, .int (s.2 + 1)]) g dX12_promise_99 rfl rfl rfl n6 rfl rfl ?_
        refine r_goto (tgt := 55) g dX12_promise_102 rfl ?_
        exact r_weak (Ls2 (Ls2 (Ls2 (Ls2 (Ls1 (Ls2 (Ls2 Ls0))))))) (hr (x15, s.2 + 1) M12)
set_option maxHeartbeats 4000000 in
set_option maxRecDepth 100000 in
theorem c_X12_promise (l : Launch) (w : W0) (N : Nat) (a1 : Int32) (a2 : Int32) (a3 : Int32) (M : Mm) : Ct l KM w 6 yX12_promise cX12_promise 7 (some .int) [rf w 0, .int a1, .int a2, .int a3] M (f_X12_promise N a1 a2 a3 M) := by
  refine ct_of [rf w 0, .int a1, .int a2, .int a3, .null, .null, .null] (by decide) (Nat.le_of_ble_eq_true rfl) rfl (fun Z e1 e2 e3 g => ?_)
  have g : Good KM w Z cX12_promise RX12 6 := g
  unfold f_X12_promise
  have n4 : 4 < Z.2.2.1 := by rw [e2]; decide
  have n5 : 5 < Z.2.2.1 := by rw [e2]; decide
  have n6 : 6 < Z.2.2.1 := by rw [e2]; decide
  refine r_aload_n (pc' := 1) g dX12_promise_0 rfl rfl ?_
  refine r_iload_n (pc' := 2) g dX12_promise_1 rfl rfl ?_
  refine r_callVi (pc' := 5) (As := [.int a1]) (rest := []) g dX12_promise_2 rfl ml_X12_270 mw_X12_isPlan mv_X12_isPlan (Nat.le_of_ble_eq_true rfl) (c_X12_isPlan _ w N a1 M) rfl lM_0 (eM_0 w _ _) rfl rfl (Nat.le_of_ble_eq_true rfl) (fun r1 M2 => ?_)
  refine r_ifeq (pc' := 8) (tgt := 16) g dX12_promise_5 rfl rfl ?_ ?_
  · skip
    refine r_aload_n (pc' := 17) g dX12_promise_16 rfl rfl ?_
    refine r_iconst (pc' := 18) (v := -1) g dX12_promise_17 rfl rfl ?_
    refine r_callVi (pc' := 21) (As := [.int (-1)]) (rest := []) g dX12_promise_18 rfl ml_X12_113 mw_X12_no mv_X12_no (Nat.le_of_ble_eq_true rfl) (c_X12_no _ w N (-1) M2) rfl lM_0 (eM_0 w _ _) rfl rfl (Nat.le_of_ble_eq_true rfl) (fun r3 M4 => ?_)
    exact r_iret g e3 dX12_promise_21
  · skip
    refine r_aload_n (pc' := 9) g dX12_promise_8 rfl rfl ?_
    refine r_iload_n (pc' := 10) g dX12_promise_9 rfl rfl ?_
    refine r_callVi (pc' := 13) (As := [.int a3]) (rest := []) g dX12_promise_10 rfl ml_X12_264 mw_X12_isWorld mv_X12_isWorld (Nat.le_of_ble_eq_true rfl) (c_X12_isWorld _ w N a3 M2) rfl lM_0 (eM_0 w _ _) rfl rfl (Nat.le_of_ble_eq_true rfl) (fun r5 M6 => ?_)
    refine r_ifne (pc' := 16) (tgt := 22) g dX12_promise_13 rfl rfl ?_ ?_
    · skip
      refine r_iload_n (pc' := 23) g dX12_promise_22 rfl rfl ?_
      refine r_i2l (pc' := 24) g dX12_promise_23 rfl ?_
      refine r_lconst (pc' := 25) (v := 0) g dX12_promise_24 rfl rfl ?_
      refine r_ldc2 (pc' := 28) g dX12_promise_25 rfl kc_X12_133 ?_
      refine r_callSi (pc' := 31) (As := [.long a2.toInt64, .long 0, .long 9]) (rest := []) g dX12_promise_28 rfl ml_X12_137 mw_X12_outOf ms_X12_outOf (Nat.le_of_ble_eq_true rfl) (c_X12_outOf _ w N a2.toInt64 0 9 M6) rfl rfl (Nat.le_of_ble_eq_true rfl) (fun r7 M8 => ?_)
      refine r_istore (pc' := 33) (L' := [rf w 0, .int a1, .int a2, .int a3, .int r7, .null, .null]) g dX12_promise_31 rfl n4 rfl rfl ?_
      refine r_iload (pc' := 35) g dX12_promise_33 rfl rfl ?_
      refine r_ifeq (pc' := 38) (tgt := 45) g dX12_promise_35 rfl rfl ?_ ?_
      · skip
        refine r_aload_n (pc' := 46) g dX12_promise_45 rfl rfl ?_
        refine r_callVv (pc' := 49) (As := []) (rest := []) g dX12_promise_46 rfl ml_X12_282 mw_X12_finds mv_X12_finds (Nat.le_of_ble_eq_true rfl) (c_X12_finds _ w N  M8) rfl lM_0 (eM_0 w _ _) rfl rfl (Nat.le_of_ble_eq_true rfl) (fun r9 M10 => ?_)
        refine r_iconst (pc' := 50) (v := 0) g dX12_promise_49 rfl rfl ?_
        refine r_istore (pc' := 52) (L' := [rf w 0, .int a1, .int a2, .int a3, .int r7, .int 0, .null]) g dX12_promise_50 rfl n5 rfl rfl ?_
        refine r_iconst (pc' := 53) (v := 0) g dX12_promise_52 rfl rfl ?_
        refine r_istore (pc' := 55) (L' := [rf w 0, .int a1, .int a2, .int a3, .int r7, .int 0, .int 0]) g dX12_promise_53 rfl n6 rfl rfl ?_
        refine r_weak (Ls2 (Ls2 (Ls2 (Ls2 (Ls1 (Ls2 (Ls2 Ls0))))))) (s_X12_promise_55 g e2 e3 N a1 a2 a3 _ (fun z16 M17 => ?_) N (0, 0) M10)
        refine r_aload_n (pc' := 106) g dX12_promise_105 rfl rfl ?_
        refine r_iload_n (pc' := 107) g dX12_promise_106 rfl rfl ?_
        refine r_iload (pc' := 109) g dX12_promise_107 rfl rfl ?_
        refine r_iload_n (pc' := 110) g dX12_promise_109 rfl rfl ?_
        refine r_callVi (pc' := 113) (As := [.int a1, .int z16, .int a3]) (rest := []) g dX12_promise_110 rfl ml_X12_288 mw_X12_worstOf mv_X12_worstOf (Nat.le_of_ble_eq_true rfl) (c_X12_worstOf _ w N a1 z16 a3 M17) rfl lM_0 (eM_0 w _ _) rfl rfl (Nat.le_of_ble_eq_true rfl) (fun r18 M19 => ?_)
        exact r_iret g e3 dX12_promise_113
      · skip
        refine r_aload_n (pc' := 39) g dX12_promise_38 rfl rfl ?_
        refine r_iload (pc' := 41) g dX12_promise_39 rfl rfl ?_
        refine r_callVi (pc' := 44) (As := [.int r7]) (rest := []) g dX12_promise_41 rfl ml_X12_113 mw_X12_no mv_X12_no (Nat.le_of_ble_eq_true rfl) (c_X12_no _ w N r7 M8) rfl lM_0 (eM_0 w _ _) rfl rfl (Nat.le_of_ble_eq_true rfl) (fun r20 M21 => ?_)
        exact r_iret g e3 dX12_promise_44
    · skip
      refine r_aload_n (pc' := 17) g dX12_promise_16 rfl rfl ?_
      refine r_iconst (pc' := 18) (v := -1) g dX12_promise_17 rfl rfl ?_
      refine r_callVi (pc' := 21) (As := [.int (-1)]) (rest := []) g dX12_promise_18 rfl ml_X12_113 mw_X12_no mv_X12_no (Nat.le_of_ble_eq_true rfl) (c_X12_no _ w N (-1) M6) rfl lM_0 (eM_0 w _ _) rfl rfl (Nat.le_of_ble_eq_true rfl) (fun r22 M23 => ?_)
      exact r_iret g e3 dX12_promise_21
def f_X12_corner (N : Nat) (a1 : Int32) (M : Mm) : Rs :=
  bd (f_X12_outOf N a1.toInt64 0 4 M) fun r1 M2 =>
  (if r1 = 0 then
    (bd (f_X12_finds N  M2) fun r3 M4 =>
    (bd (f_X12_draws N a1 M4) fun r5 M6 =>
    (bd (f_X12_bestOf N 0 0 M6) fun r7 M8 =>
    (bd (f_X12_draws N (M8.1 2 (ix 42)) M8) fun r9 M10 =>
    (some (r7, M10))))))
  else
    (bd (f_X12_no N r1 M2) fun r11 M12 =>
    (some (r11, M12))))

set_option maxHeartbeats 4000000 in
set_option maxRecDepth 100000 in
theorem c_X12_corner (l : Launch) (w : W0) (N : Nat) (a1 : Int32) (M : Mm) : Ct l KM w 6 yX12_corner cX12_corner 4 (some .int) [rf w 0, .int a1] M (f_X12_corner N a1 M) := by
  refine ct_of [rf w 0, .int a1, .null, .null] (by decide) (Nat.le_of_ble_eq_true rfl) rfl (fun Z e1 e2 e3 g => ?_)
  have g : Good KM w Z cX12_corner RX12 6 := g
  unfold f_X12_corner
  have n2 : 2 < Z.2.2.1 := by rw [e2]; decide
  have n3 : 3 < Z.2.2.1 := by rw [e2]; decide
  refine r_iload_n (pc' := 1) g dX12_corner_0 rfl rfl ?_
  refine r_i2l (pc' := 2) g dX12_corner_1 rfl ?_
  refine r_lconst (pc' := 3) (v := 0) g dX12_corner_2 rfl rfl ?_
  refine r_ldc2 (pc' := 6) g dX12_corner_3 rfl kc_X12_149 ?_
  refine r_callSi (pc' := 9) (As := [.long a1.toInt64, .long 0, .long 4]) (rest := []) g dX12_corner_6 rfl ml_X12_137 mw_X12_outOf ms_X12_outOf (Nat.le_of_ble_eq_true rfl) (c_X12_outOf _ w N a1.toInt64 0 4 M) rfl rfl (Nat.le_of_ble_eq_true rfl) (fun r1 M2 => ?_)
  refine r_istore_n (pc' := 10) (L' := [rf w 0, .int a1, .int r1, .null]) g dX12_corner_9 rfl n2 rfl rfl ?_
  refine r_iload_n (pc' := 11) g dX12_corner_10 rfl rfl ?_
  refine r_ifeq (pc' := 14) (tgt := 20) g dX12_corner_11 rfl rfl ?_ ?_
  · skip
    refine r_aload_n (pc' := 21) g dX12_corner_20 rfl rfl ?_
    refine r_callVv (pc' := 24) (As := []) (rest := []) g dX12_corner_21 rfl ml_X12_282 mw_X12_finds mv_X12_finds (Nat.le_of_ble_eq_true rfl) (c_X12_finds _ w N  M2) rfl lM_0 (eM_0 w _ _) rfl rfl (Nat.le_of_ble_eq_true rfl) (fun r3 M4 => ?_)
    refine r_aload_n (pc' := 25) g dX12_corner_24 rfl rfl ?_
    refine r_iload_n (pc' := 26) g dX12_corner_25 rfl rfl ?_
    refine r_callVv (pc' := 29) (As := [.int a1]) (rest := []) g dX12_corner_26 rfl ml_X12_279 mw_X12_draws mv_X12_draws (Nat.le_of_ble_eq_true rfl) (c_X12_draws _ w N a1 M4) rfl lM_0 (eM_0 w _ _) rfl rfl (Nat.le_of_ble_eq_true rfl) (fun r5 M6 => ?_)
    refine r_aload_n (pc' := 30) g dX12_corner_29 rfl rfl ?_
    refine r_iconst (pc' := 31) (v := 0) g dX12_corner_30 rfl rfl ?_
    refine r_iconst (pc' := 32) (v := 0) g dX12_corner_31 rfl rfl ?_
    refine r_callVi (pc' := 35) (As := [.int 0, .int 0]) (rest := []) g dX12_corner_32 rfl ml_X12_295 mw_X12_bestOf mv_X12_bestOf (Nat.le_of_ble_eq_true rfl) (c_X12_bestOf _ w N 0 0 M6) rfl lM_0 (eM_0 w _ _) rfl rfl (Nat.le_of_ble_eq_true rfl) (fun r7 M8 => ?_)
    refine r_istore_n (pc' := 36) (L' := [rf w 0, .int a1, .int r1, .int r7]) g dX12_corner_35 rfl n3 rfl rfl ?_
    refine r_aload_n (pc' := 37) g dX12_corner_36 rfl rfl ?_
    refine r_aload_n (pc' := 38) g dX12_corner_37 rfl rfl ?_
    refine r_get (pc' := 41) g dX12_corner_38 rfl fl_X12_13 lM_0 (eM_0 w _ _) rfl ?_
    refine r_bipush (pc' := 43) (v := 42) g dX12_corner_41 rfl rfl ?_
    refine r_ialdc (pc' := 44) g dX12_corner_43 rfl lM_2 (eM_2 w _ _) rfl ?_
    refine r_callVv (pc' := 47) (As := [.int (M8.1 2 (ix 42))]) (rest := []) g dX12_corner_44 rfl ml_X12_279 mw_X12_draws mv_X12_draws (Nat.le_of_ble_eq_true rfl) (c_X12_draws _ w N (M8.1 2 (ix 42)) M8) rfl lM_0 (eM_0 w _ _) rfl rfl (Nat.le_of_ble_eq_true rfl) (fun r9 M10 => ?_)
    refine r_iload_n (pc' := 48) g dX12_corner_47 rfl rfl ?_
    exact r_iret g e3 dX12_corner_48
  · skip
    refine r_aload_n (pc' := 15) g dX12_corner_14 rfl rfl ?_
    refine r_iload_n (pc' := 16) g dX12_corner_15 rfl rfl ?_
    refine r_callVi (pc' := 19) (As := [.int r1]) (rest := []) g dX12_corner_16 rfl ml_X12_113 mw_X12_no mv_X12_no (Nat.le_of_ble_eq_true rfl) (c_X12_no _ w N r1 M2) rfl lM_0 (eM_0 w _ _) rfl rfl (Nat.le_of_ble_eq_true rfl) (fun r11 M12 => ?_)
    exact r_iret g e3 dX12_corner_19
def B_X12_flat_42 (N : Nat) (p1 : Int32) (p2 : Int32) (G : Int32 → Mm → Rs) (rec : (Int32 × Int32) → Mm → Rs) (s : Int32 × Int32) (M : Mm) : Rs :=
  if s.2 < 5 then
      (if p2 = (-9) then
        (G s.1 M)
      else
        (bd (f_X12_draws N s.2 M) fun r9 M10 =>
        (bd (f_X12_worstOf N p1 0 0 M10) fun r11 M12 =>
        (if r11 = p2 then
          (rec (s.2, s.2 + 1) M12)
        else
          (rec (s.1, s.2 + 1) M12)))))
    else
      (G s.1 M)

def f_X12_flat (N : Nat) (M : Mm) : Rs :=
  bd (f_X12_finds N  M) fun r1 M2 =>
  (bd (f_X12_bestOf N 0 0 M2) fun r3 M4 =>
  (if r3 = (-9) then
    (some ((-9), M4))
  else
    (bd (f_X12_draws N 0 M4) fun r5 M6 =>
    (bd (f_X12_worstOf N (M4.1 0 34) 0 0 M6) fun r7 M8 =>
    (itr (B_X12_flat_42 N (M4.1 0 34) r7 fun z13 M14 =>
    (bd (f_X12_draws N (M14.1 2 (ix 42)) M14) fun r15 M16 =>
    (some (z13, M16)))) N ((-9), 0) M8)))))

set_option maxHeartbeats 4000000 in
set_option maxRecDepth 100000 in
theorem s_X12_flat_42 {w : W0} {Z : Zx} (g : Good KM w Z cX12_flat RX12 6) (e2 : Z.2.2.1 = 5) (e3 : Z.2.2.2 = (some .int)) (N : Nat) (p1 : Int32) (p2 : Int32) (G : Int32 → Mm → Rs) (kG : ∀ (x : Int32) (M : Mm), Sim KM w Z 80 [rf w 0, .null, .null, .int x, .null] [] M (G x M)) : ∀ (n : Nat) (s : Int32 × Int32) (M : Mm), Sim KM w Z 42 [rf w 0, .int p1, .int p2, .int s.1, .int s.2] [] M (itr (B_X12_flat_42 N p1 p2 G) n s M) := by
  have n3 : 3 < Z.2.2.1 := by rw [e2]; decide
  have n4 : 4 < Z.2.2.1 := by rw [e2]; decide
  refine r_itr (Lf := fun (s : Int32 × Int32) => [rf w 0, .int p1, .int p2, .int s.1, .int s.2]) (fun rec hr s M => ?_)
  unfold B_X12_flat_42
  refine r_iload (pc' := 44) g dX12_flat_42 rfl rfl ?_
  refine r_iconst (pc' := 45) (v := 5) g dX12_flat_44 rfl rfl ?_
  refine r_cge (pc' := 48) (tgt := 80) g dX12_flat_45 rfl rfl ?_ ?_
  · skip
    exact r_weak (Ls2 (Ls1 (Ls1 (Ls2 (Ls1 Ls0))))) (kG s.1 M)
  · skip
    refine r_iload_n (pc' := 49) g dX12_flat_48 rfl rfl ?_
    refine r_bipush (pc' := 51) (v := -9) g dX12_flat_49 rfl rfl ?_
    refine r_ceq (pc' := 54) (tgt := 80) g dX12_flat_51 rfl rfl ?_ ?_
    · skip
      exact r_weak (Ls2 (Ls1 (Ls1 (Ls2 (Ls1 Ls0))))) (kG s.1 M)
    · skip
      refine r_aload_n (pc' := 55) g dX12_flat_54 rfl rfl ?_
      refine r_iload (pc' := 57) g dX12_flat_55 rfl rfl ?_
      refine r_callVv (pc' := 60) (As := [.int s.2]) (rest := []) g dX12_flat_57 rfl ml_X12_279 mw_X12_draws mv_X12_draws (Nat.le_of_ble_eq_true rfl) (c_X12_draws _ w N s.2 M) rfl lM_0 (eM_0 w _ _) rfl rfl (Nat.le_of_ble_eq_true rfl) (fun r9 M10 => ?_)
      refine r_aload_n (pc' := 61) g dX12_flat_60 rfl rfl ?_
      refine r_iload_n (pc' := 62) g dX12_flat_61 rfl rfl ?_
      refine r_iconst (pc' := 63) (v := 0) g dX12_flat_62 rfl rfl ?_
      refine r_iconst (pc' := 64) (v := 0) g dX12_flat_63 rfl rfl ?_
      refine r_callVi (pc' := 67) (As := [.int p1, .int 0, .int 0]) (rest := []) g dX12_flat_64 rfl ml_X12_288 mw_X12_worstOf mv_X12_worstOf (Nat.le_of_ble_eq_true rfl) (c_X12_worstOf _ w N p1 0 0 M10) rfl lM_0 (eM_0 w _ _) rfl rfl (Nat.le_of_ble_eq_true rfl) (fun r11 M12 => ?_)
      refine r_iload_n (pc' := 68) g dX12_flat_67 rfl rfl ?_
      refine r_cne (pc' := 71) (tgt := 74) g dX12_flat_68 rfl rfl ?_ ?_
      · skip
        refine r_iinc (pc' := 77) (b := 1) (L' := [rf w 0, .int p1, .int p2, .int s.1, .int (s.2 + 1)]) g dX12_flat_74 rfl rfl rfl n4 rfl rfl ?_
        refine r_goto (tgt := 42) g dX12_flat_77 rfl ?_
        exact r_weak (Ls2 (Ls2 (Ls2 (Ls2 (Ls2 Ls0))))) (hr (s.1, s.2 + 1) M12)
      · skip
        refine r_iload (pc' := 73) g dX12_flat_71 rfl rfl ?_
        refine r_istore_n (pc' := 74) (L' := [rf w 0, .int p1, .int p2, .int s.2, .int s.2]) g dX12_flat_73 rfl n3 rfl rfl ?_
        refine r_iinc (pc' := 77) (b := 1) (L' := [rf w 0, .int p1, .int p2, .int s.2, .int (s.2 + 1)]) g dX12_flat_74 rfl rfl rfl n4 rfl rfl ?_
        refine r_goto (tgt := 42) g dX12_flat_77 rfl ?_
        exact r_weak (Ls2 (Ls2 (Ls2 (Ls2 (Ls2 Ls0))))) (hr (s.2, s.2 + 1) M12)
set_option maxHeartbeats 4000000 in
set_option maxRecDepth 100000 in
theorem c_X12_flat (l : Launch) (w : W0) (N : Nat) (M : Mm) : Ct l KM w 6 yX12_flat cX12_flat 5 (some .int) [rf w 0] M (f_X12_flat N M) := by
  refine ct_of [rf w 0, .null, .null, .null, .null] (by decide) (Nat.le_of_ble_eq_true rfl) rfl (fun Z e1 e2 e3 g => ?_)
  have g : Good KM w Z cX12_flat RX12 6 := g
  unfold f_X12_flat
  have n1 : 1 < Z.2.2.1 := by rw [e2]; decide
  have n2 : 2 < Z.2.2.1 := by rw [e2]; decide
  have n3 : 3 < Z.2.2.1 := by rw [e2]; decide
  have n4 : 4 < Z.2.2.1 := by rw [e2]; decide
  refine r_aload_n (pc' := 1) g dX12_flat_0 rfl rfl ?_
  refine r_callVv (pc' := 4) (As := []) (rest := []) g dX12_flat_1 rfl ml_X12_282 mw_X12_finds mv_X12_finds (Nat.le_of_ble_eq_true rfl) (c_X12_finds _ w N  M) rfl lM_0 (eM_0 w _ _) rfl rfl (Nat.le_of_ble_eq_true rfl) (fun r1 M2 => ?_)
  refine r_aload_n (pc' := 5) g dX12_flat_4 rfl rfl ?_
  refine r_iconst (pc' := 6) (v := 0) g dX12_flat_5 rfl rfl ?_
  refine r_iconst (pc' := 7) (v := 0) g dX12_flat_6 rfl rfl ?_
  refine r_callVi (pc' := 10) (As := [.int 0, .int 0]) (rest := []) g dX12_flat_7 rfl ml_X12_295 mw_X12_bestOf mv_X12_bestOf (Nat.le_of_ble_eq_true rfl) (c_X12_bestOf _ w N 0 0 M2) rfl lM_0 (eM_0 w _ _) rfl rfl (Nat.le_of_ble_eq_true rfl) (fun r3 M4 => ?_)
  refine r_bipush (pc' := 12) (v := -9) g dX12_flat_10 rfl rfl ?_
  refine r_cne (pc' := 15) (tgt := 18) g dX12_flat_12 rfl rfl ?_ ?_
  · skip
    refine r_aload_n (pc' := 19) g dX12_flat_18 rfl rfl ?_
    refine r_get (pc' := 22) g dX12_flat_19 rfl fl_X12_292 lM_0 (eM_0 w _ _) rfl ?_
    refine r_istore_n (pc' := 23) (L' := [rf w 0, .int (M4.1 0 34), .null, .null, .null]) g dX12_flat_22 rfl n1 rfl rfl ?_
    refine r_aload_n (pc' := 24) g dX12_flat_23 rfl rfl ?_
    refine r_iconst (pc' := 25) (v := 0) g dX12_flat_24 rfl rfl ?_
    refine r_callVv (pc' := 28) (As := [.int 0]) (rest := []) g dX12_flat_25 rfl ml_X12_279 mw_X12_draws mv_X12_draws (Nat.le_of_ble_eq_true rfl) (c_X12_draws _ w N 0 M4) rfl lM_0 (eM_0 w _ _) rfl rfl (Nat.le_of_ble_eq_true rfl) (fun r5 M6 => ?_)
    refine r_aload_n (pc' := 29) g dX12_flat_28 rfl rfl ?_
    refine r_iload_n (pc' := 30) g dX12_flat_29 rfl rfl ?_
    refine r_iconst (pc' := 31) (v := 0) g dX12_flat_30 rfl rfl ?_
    refine r_iconst (pc' := 32) (v := 0) g dX12_flat_31 rfl rfl ?_
    refine r_callVi (pc' := 35) (As := [.int (M4.1 0 34), .int 0, .int 0]) (rest := []) g dX12_flat_32 rfl ml_X12_288 mw_X12_worstOf mv_X12_worstOf (Nat.le_of_ble_eq_true rfl) (c_X12_worstOf _ w N (M4.1 0 34) 0 0 M6) rfl lM_0 (eM_0 w _ _) rfl rfl (Nat.le_of_ble_eq_true rfl) (fun r7 M8 => ?_)
    refine r_istore_n (pc' := 36) (L' := [rf w 0, .int (M4.1 0 34), .int r7, .null, .null]) g dX12_flat_35 rfl n2 rfl rfl ?_
    refine r_bipush (pc' := 38) (v := -9) g dX12_flat_36 rfl rfl ?_
    refine r_istore_n (pc' := 39) (L' := [rf w 0, .int (M4.1 0 34), .int r7, .int (-9), .null]) g dX12_flat_38 rfl n3 rfl rfl ?_
    refine r_iconst (pc' := 40) (v := 0) g dX12_flat_39 rfl rfl ?_
    refine r_istore (pc' := 42) (L' := [rf w 0, .int (M4.1 0 34), .int r7, .int (-9), .int 0]) g dX12_flat_40 rfl n4 rfl rfl ?_
    refine r_weak (Ls2 (Ls2 (Ls2 (Ls2 (Ls2 Ls0))))) (s_X12_flat_42 g e2 e3 N (M4.1 0 34) r7 _ (fun z13 M14 => ?_) N ((-9), 0) M8)
    refine r_aload_n (pc' := 81) g dX12_flat_80 rfl rfl ?_
    refine r_aload_n (pc' := 82) g dX12_flat_81 rfl rfl ?_
    refine r_get (pc' := 85) g dX12_flat_82 rfl fl_X12_13 lM_0 (eM_0 w _ _) rfl ?_
    refine r_bipush (pc' := 87) (v := 42) g dX12_flat_85 rfl rfl ?_
    refine r_ialdc (pc' := 88) g dX12_flat_87 rfl lM_2 (eM_2 w _ _) rfl ?_
    refine r_callVv (pc' := 91) (As := [.int (M14.1 2 (ix 42))]) (rest := []) g dX12_flat_88 rfl ml_X12_279 mw_X12_draws mv_X12_draws (Nat.le_of_ble_eq_true rfl) (c_X12_draws _ w N (M14.1 2 (ix 42)) M14) rfl lM_0 (eM_0 w _ _) rfl rfl (Nat.le_of_ble_eq_true rfl) (fun r15 M16 => ?_)
    refine r_iload_n (pc' := 92) g dX12_flat_91 rfl rfl ?_
    exact r_iret g e3 dX12_flat_92
  · skip
    refine r_bipush (pc' := 17) (v := -9) g dX12_flat_15 rfl rfl ?_
    exact r_iret g e3 dX12_flat_17
def f_X12_known (N : Nat) (a1 : Int32) (M : Mm) : Rs :=
  bd (f_X12_bestOf N (1 <<< (a1 &&& 31)) (1 <<< (a1 &&& 31)) M) fun r1 M2 =>
  (bd (f_X12_bestOf N (1 <<< (a1 &&& 31)) 0 M2) fun r3 M4 =>
  (if r3 < r1 then
    (some (r1, M4))
  else
    (some (r3, M4))))

set_option maxHeartbeats 4000000 in
set_option maxRecDepth 100000 in
theorem c_X12_known (l : Launch) (w : W0) (N : Nat) (a1 : Int32) (M : Mm) : Ct l KM w 2 yX12_known cX12_known 4 (some .int) [rf w 0, .int a1] M (f_X12_known N a1 M) := by
  refine ct_of [rf w 0, .int a1, .null, .null] (by decide) (Nat.le_of_ble_eq_true rfl) rfl (fun Z e1 e2 e3 g => ?_)
  have g : Good KM w Z cX12_known RX12 2 := g
  unfold f_X12_known
  have n2 : 2 < Z.2.2.1 := by rw [e2]; decide
  have n3 : 3 < Z.2.2.1 := by rw [e2]; decide
  refine r_aload_n (pc' := 1) g dX12_known_0 rfl rfl ?_
  refine r_iconst (pc' := 2) (v := 1) g dX12_known_1 rfl rfl ?_
  refine r_iload_n (pc' := 3) g dX12_known_2 rfl rfl ?_
  refine r_ishl (pc' := 4) g dX12_known_3 rfl ?_
  refine r_iconst (pc' := 5) (v := 1) g dX12_known_4 rfl rfl ?_
  refine r_iload_n (pc' := 6) g dX12_known_5 rfl rfl ?_
  refine r_ishl (pc' := 7) g dX12_known_6 rfl ?_
  refine r_callVi (pc' := 10) (As := [.int (1 <<< (a1 &&& 31)), .int (1 <<< (a1 &&& 31))]) (rest := []) g dX12_known_7 rfl ml_X12_295 mw_X12_bestOf mv_X12_bestOf (Nat.le_of_ble_eq_true rfl) (c_X12_bestOf _ w N (1 <<< (a1 &&& 31)) (1 <<< (a1 &&& 31)) M) rfl lM_0 (eM_0 w _ _) rfl rfl (Nat.le_of_ble_eq_true rfl) (fun r1 M2 => ?_)
  refine r_istore_n (pc' := 11) (L' := [rf w 0, .int a1, .int r1, .null]) g dX12_known_10 rfl n2 rfl rfl ?_
  refine r_aload_n (pc' := 12) g dX12_known_11 rfl rfl ?_
  refine r_iconst (pc' := 13) (v := 1) g dX12_known_12 rfl rfl ?_
  refine r_iload_n (pc' := 14) g dX12_known_13 rfl rfl ?_
  refine r_ishl (pc' := 15) g dX12_known_14 rfl ?_
  refine r_iconst (pc' := 16) (v := 0) g dX12_known_15 rfl rfl ?_
  refine r_callVi (pc' := 19) (As := [.int (1 <<< (a1 &&& 31)), .int 0]) (rest := []) g dX12_known_16 rfl ml_X12_295 mw_X12_bestOf mv_X12_bestOf (Nat.le_of_ble_eq_true rfl) (c_X12_bestOf _ w N (1 <<< (a1 &&& 31)) 0 M2) rfl lM_0 (eM_0 w _ _) rfl rfl (Nat.le_of_ble_eq_true rfl) (fun r3 M4 => ?_)
  refine r_istore_n (pc' := 20) (L' := [rf w 0, .int a1, .int r1, .int r3]) g dX12_known_19 rfl n3 rfl rfl ?_
  refine r_iload_n (pc' := 21) g dX12_known_20 rfl rfl ?_
  refine r_iload_n (pc' := 22) g dX12_known_21 rfl rfl ?_
  refine r_cle (pc' := 25) (tgt := 29) g dX12_known_22 rfl rfl ?_ ?_
  · skip
    refine r_iload_n (pc' := 30) g dX12_known_29 rfl rfl ?_
    exact r_iret g e3 dX12_known_30
  · skip
    refine r_iload_n (pc' := 26) g dX12_known_25 rfl rfl ?_
    refine r_goto (tgt := 30) g dX12_known_26 rfl ?_
    exact r_iret g e3 dX12_known_30
def f_X12_foreknown (N : Nat) (a1 : Int32) (a2 : Int32) (M : Mm) : Rs :=
  bd (f_X12_isThere N a1 M) fun r1 M2 =>
  (if r1 = 0 then
    (bd (f_X12_no N (-1) M2) fun r15 M16 =>
    (some (r15, M16)))
  else
    (bd (f_X12_isIn N a2.toInt64 0 1 M2) fun r3 M4 =>
    (if r3 = 0 then
      (bd (f_X12_no N (-2) M4) fun r13 M14 =>
      (some (r13, M14)))
    else
      (bd (f_X12_finds N  M4) fun r5 M6 =>
      (bd (f_X12_bestOf N 0 0 M6) fun r7 M8 =>
      (if r7 = (-9) then
        (some ((-9), M8))
      else
        (if a2 = 0 then
          (bd (f_X12_known N a1 M8) fun r11 M12 =>
          (some (r11, M12)))
        else
          (bd (f_X12_known N a1 M8) fun r9 M10 =>
          (some (r7 - r9, M10))))))))))

set_option maxHeartbeats 4000000 in
set_option maxRecDepth 100000 in
theorem c_X12_foreknown (l : Launch) (w : W0) (N : Nat) (a1 : Int32) (a2 : Int32) (M : Mm) : Ct l KM w 6 yX12_foreknown cX12_foreknown 4 (some .int) [rf w 0, .int a1, .int a2] M (f_X12_foreknown N a1 a2 M) := by
  refine ct_of [rf w 0, .int a1, .int a2, .null] (by decide) (Nat.le_of_ble_eq_true rfl) rfl (fun Z e1 e2 e3 g => ?_)
  have g : Good KM w Z cX12_foreknown RX12 6 := g
  unfold f_X12_foreknown
  have n3 : 3 < Z.2.2.1 := by rw [e2]; decide
  refine r_aload_n (pc' := 1) g dX12_foreknown_0 rfl rfl ?_
  refine r_iload_n (pc' := 2) g dX12_foreknown_1 rfl rfl ?_
  refine r_callVi (pc' := 5) (As := [.int a1]) (rest := []) g dX12_foreknown_2 rfl ml_X12_117 mw_X12_isThere mv_X12_isThere (Nat.le_of_ble_eq_true rfl) (c_X12_isThere _ w N a1 M) rfl lM_0 (eM_0 w _ _) rfl rfl (Nat.le_of_ble_eq_true rfl) (fun r1 M2 => ?_)
  refine r_ifne (pc' := 8) (tgt := 14) g dX12_foreknown_5 rfl rfl ?_ ?_
  · skip
    refine r_iload_n (pc' := 15) g dX12_foreknown_14 rfl rfl ?_
    refine r_i2l (pc' := 16) g dX12_foreknown_15 rfl ?_
    refine r_lconst (pc' := 17) (v := 0) g dX12_foreknown_16 rfl rfl ?_
    refine r_lconst (pc' := 18) (v := 1) g dX12_foreknown_17 rfl rfl ?_
    refine r_callSi (pc' := 21) (As := [.long a2.toInt64, .long 0, .long 1]) (rest := []) g dX12_foreknown_18 rfl ml_X12_109 mw_X12_isIn ms_X12_isIn (Nat.le_of_ble_eq_true rfl) (c_X12_isIn _ w N a2.toInt64 0 1 M2) rfl rfl (Nat.le_of_ble_eq_true rfl) (fun r3 M4 => ?_)
    refine r_ifne (pc' := 24) (tgt := 31) g dX12_foreknown_21 rfl rfl ?_ ?_
    · skip
      refine r_aload_n (pc' := 32) g dX12_foreknown_31 rfl rfl ?_
      refine r_callVv (pc' := 35) (As := []) (rest := []) g dX12_foreknown_32 rfl ml_X12_282 mw_X12_finds mv_X12_finds (Nat.le_of_ble_eq_true rfl) (c_X12_finds _ w N  M4) rfl lM_0 (eM_0 w _ _) rfl rfl (Nat.le_of_ble_eq_true rfl) (fun r5 M6 => ?_)
      refine r_aload_n (pc' := 36) g dX12_foreknown_35 rfl rfl ?_
      refine r_iconst (pc' := 37) (v := 0) g dX12_foreknown_36 rfl rfl ?_
      refine r_iconst (pc' := 38) (v := 0) g dX12_foreknown_37 rfl rfl ?_
      refine r_callVi (pc' := 41) (As := [.int 0, .int 0]) (rest := []) g dX12_foreknown_38 rfl ml_X12_295 mw_X12_bestOf mv_X12_bestOf (Nat.le_of_ble_eq_true rfl) (c_X12_bestOf _ w N 0 0 M6) rfl lM_0 (eM_0 w _ _) rfl rfl (Nat.le_of_ble_eq_true rfl) (fun r7 M8 => ?_)
      refine r_istore_n (pc' := 42) (L' := [rf w 0, .int a1, .int a2, .int r7]) g dX12_foreknown_41 rfl n3 rfl rfl ?_
      refine r_iload_n (pc' := 43) g dX12_foreknown_42 rfl rfl ?_
      refine r_bipush (pc' := 45) (v := -9) g dX12_foreknown_43 rfl rfl ?_
      refine r_cne (pc' := 48) (tgt := 53) g dX12_foreknown_45 rfl rfl ?_ ?_
      · skip
        refine r_iload_n (pc' := 54) g dX12_foreknown_53 rfl rfl ?_
        refine r_ifne (pc' := 57) (tgt := 65) g dX12_foreknown_54 rfl rfl ?_ ?_
        · skip
          refine r_iload_n (pc' := 66) g dX12_foreknown_65 rfl rfl ?_
          refine r_aload_n (pc' := 67) g dX12_foreknown_66 rfl rfl ?_
          refine r_iload_n (pc' := 68) g dX12_foreknown_67 rfl rfl ?_
          refine r_callVi (pc' := 71) (As := [.int a1]) (rest := [.int r7]) g dX12_foreknown_68 rfl ml_X12_321 mw_X12_known mv_X12_known (Nat.le_of_ble_eq_true rfl) (c_X12_known _ w N a1 M8) rfl lM_0 (eM_0 w _ _) rfl rfl (Nat.le_of_ble_eq_true rfl) (fun r9 M10 => ?_)
          refine r_isub (pc' := 72) g dX12_foreknown_71 rfl ?_
          exact r_iret g e3 dX12_foreknown_72
        · skip
          refine r_aload_n (pc' := 58) g dX12_foreknown_57 rfl rfl ?_
          refine r_iload_n (pc' := 59) g dX12_foreknown_58 rfl rfl ?_
          refine r_callVi (pc' := 62) (As := [.int a1]) (rest := []) g dX12_foreknown_59 rfl ml_X12_321 mw_X12_known mv_X12_known (Nat.le_of_ble_eq_true rfl) (c_X12_known _ w N a1 M8) rfl lM_0 (eM_0 w _ _) rfl rfl (Nat.le_of_ble_eq_true rfl) (fun r11 M12 => ?_)
          refine r_goto (tgt := 72) g dX12_foreknown_62 rfl ?_
          exact r_iret g e3 dX12_foreknown_72
      · skip
        refine r_bipush (pc' := 50) (v := -9) g dX12_foreknown_48 rfl rfl ?_
        refine r_goto (tgt := 72) g dX12_foreknown_50 rfl ?_
        exact r_iret g e3 dX12_foreknown_72
    · skip
      refine r_aload_n (pc' := 25) g dX12_foreknown_24 rfl rfl ?_
      refine r_bipush (pc' := 27) (v := -2) g dX12_foreknown_25 rfl rfl ?_
      refine r_callVi (pc' := 30) (As := [.int (-2)]) (rest := []) g dX12_foreknown_27 rfl ml_X12_113 mw_X12_no mv_X12_no (Nat.le_of_ble_eq_true rfl) (c_X12_no _ w N (-2) M4) rfl lM_0 (eM_0 w _ _) rfl rfl (Nat.le_of_ble_eq_true rfl) (fun r13 M14 => ?_)
      exact r_iret g e3 dX12_foreknown_30
  · skip
    refine r_aload_n (pc' := 9) g dX12_foreknown_8 rfl rfl ?_
    refine r_iconst (pc' := 10) (v := -1) g dX12_foreknown_9 rfl rfl ?_
    refine r_callVi (pc' := 13) (As := [.int (-1)]) (rest := []) g dX12_foreknown_10 rfl ml_X12_113 mw_X12_no mv_X12_no (Nat.le_of_ble_eq_true rfl) (c_X12_no _ w N (-1) M2) rfl lM_0 (eM_0 w _ _) rfl rfl (Nat.le_of_ble_eq_true rfl) (fun r15 M16 => ?_)
    exact r_iret g e3 dX12_foreknown_13
def B_X12_dearest_16 (N : Nat) (p1 : Int32) (G : Int32 → Mm → Rs) (rec : (Int32 × Int32) → Mm → Rs) (s : Int32 × Int32) (M : Mm) : Rs :=
  if s.2 < 4 then
      (if p1 = (-9) then
        (G s.1 M)
      else
        (bd (f_X12_isThere N s.2 M) fun r5 M6 =>
        (if r5 = 0 then
          (rec (s.1, s.2 + 1) M6)
        else
          (if s.1 < 0 then
            (rec (s.2, s.2 + 1) M6)
          else
            (bd (f_X12_known N s.2 M6) fun r7 M8 =>
            (bd (f_X12_known N s.1 M8) fun r9 M10 =>
            (if r7 < r9 then
              (rec (s.2, s.2 + 1) M10)
            else
              (rec (s.1, s.2 + 1) M10))))))))
    else
      (G s.1 M)

def f_X12_dearest (N : Nat) (M : Mm) : Rs :=
  bd (f_X12_finds N  M) fun r1 M2 =>
  (bd (f_X12_bestOf N 0 0 M2) fun r3 M4 =>
  (itr (B_X12_dearest_16 N r3 fun z11 M12 =>
  (some (z11, M12))) N ((-9), 0) M4))

set_option maxHeartbeats 4000000 in
set_option maxRecDepth 100000 in
theorem s_X12_dearest_16 {w : W0} {Z : Zx} (g : Good KM w Z cX12_dearest RX12 6) (e2 : Z.2.2.1 = 4) (e3 : Z.2.2.2 = (some .int)) (N : Nat) (p1 : Int32) (G : Int32 → Mm → Rs) (kG : ∀ (x : Int32) (M : Mm), Sim KM w Z 60 [.null, .null, .int x, .null] [] M (G x M)) : ∀ (n : Nat) (s : Int32 × Int32) (M : Mm), Sim KM w Z 16 [rf w 0, .int p1, .int s.1, .int s.2] [] M (itr (B_X12_dearest_16 N p1 G) n s M) := by
  have n2 : 2 < Z.2.2.1 := by rw [e2]; decide
  have n3 : 3 < Z.2.2.1 := by rw [e2]; decide
  refine r_itr (Lf := fun (s : Int32 × Int32) => [rf w 0, .int p1, .int s.1, .int s.2]) (fun rec hr s M => ?_)
  unfold B_X12_dearest_16
  refine r_iload_n (pc' := 17) g dX12_dearest_16 rfl rfl ?_
  refine r_iconst (pc' := 18) (v := 4) g dX12_dearest_17 rfl rfl ?_
  refine r_cge (pc' := 21) (tgt := 60) g dX12_dearest_18 rfl rfl ?_ ?_
  · skip
    exact r_weak (Ls1 (Ls1 (Ls2 (Ls1 Ls0)))) (kG s.1 M)
  · skip
    refine r_iload_n (pc' := 22) g dX12_dearest_21 rfl rfl ?_
    refine r_bipush (pc' := 24) (v := -9) g dX12_dearest_22 rfl rfl ?_
    refine r_ceq (pc' := 27) (tgt := 60) g dX12_dearest_24 rfl rfl ?_ ?_
    · skip
      exact r_weak (Ls1 (Ls1 (Ls2 (Ls1 Ls0)))) (kG s.1 M)
    · skip
      refine r_aload_n (pc' := 28) g dX12_dearest_27 rfl rfl ?_
      refine r_iload_n (pc' := 29) g dX12_dearest_28 rfl rfl ?_
      refine r_callVi (pc' := 32) (As := [.int s.2]) (rest := []) g dX12_dearest_29 rfl ml_X12_117 mw_X12_isThere mv_X12_isThere (Nat.le_of_ble_eq_true rfl) (c_X12_isThere _ w N s.2 M) rfl lM_0 (eM_0 w _ _) rfl rfl (Nat.le_of_ble_eq_true rfl) (fun r5 M6 => ?_)
      refine r_ifeq (pc' := 35) (tgt := 54) g dX12_dearest_32 rfl rfl ?_ ?_
      · skip
        refine r_iinc (pc' := 57) (b := 1) (L' := [rf w 0, .int p1, .int s.1, .int (s.2 + 1)]) g dX12_dearest_54 rfl rfl rfl n3 rfl rfl ?_
        refine r_goto (tgt := 16) g dX12_dearest_57 rfl ?_
        exact r_weak (Ls2 (Ls2 (Ls2 (Ls2 Ls0)))) (hr (s.1, s.2 + 1) M6)
      · skip
        refine r_iload_n (pc' := 36) g dX12_dearest_35 rfl rfl ?_
        refine r_iflt (pc' := 39) (tgt := 52) g dX12_dearest_36 rfl rfl ?_ ?_
        · skip
          refine r_iload_n (pc' := 53) g dX12_dearest_52 rfl rfl ?_
          refine r_istore_n (pc' := 54) (L' := [rf w 0, .int p1, .int s.2, .int s.2]) g dX12_dearest_53 rfl n2 rfl rfl ?_
          refine r_iinc (pc' := 57) (b := 1) (L' := [rf w 0, .int p1, .int s.2, .int (s.2 + 1)]) g dX12_dearest_54 rfl rfl rfl n3 rfl rfl ?_
          refine r_goto (tgt := 16) g dX12_dearest_57 rfl ?_
          exact r_weak (Ls2 (Ls2 (Ls2 (Ls2 Ls0)))) (hr (s.2, s.2 + 1) M6)
        · skip
          refine r_aload_n (pc' := 40) g dX12_dearest_39 rfl rfl ?_
          refine r_iload_n (pc' := 41) g dX12_dearest_40 rfl rfl ?_
          refine r_callVi (pc' := 44) (As := [.int s.2]) (rest := []) g dX12_dearest_41 rfl ml_X12_321 mw_X12_known mv_X12_known (Nat.le_of_ble_eq_true rfl) (c_X12_known _ w N s.2 M6) rfl lM_0 (eM_0 w _ _) rfl rfl (Nat.le_of_ble_eq_true rfl) (fun r7 M8 => ?_)
          refine r_aload_n (pc' := 45) g dX12_dearest_44 rfl rfl ?_
          refine r_iload_n (pc' := 46) g dX12_dearest_45 rfl rfl ?_
          refine r_callVi (pc' := 49) (As := [.int s.1]) (rest := [.int r7]) g dX12_dearest_46 rfl ml_X12_321 mw_X12_known mv_X12_known (Nat.le_of_ble_eq_true rfl) (c_X12_known _ w N s.1 M8) rfl lM_0 (eM_0 w _ _) rfl rfl (Nat.le_of_ble_eq_true rfl) (fun r9 M10 => ?_)
          refine r_cge (pc' := 52) (tgt := 54) g dX12_dearest_49 rfl rfl ?_ ?_
          · skip
            refine r_iinc (pc' := 57) (b := 1) (L' := [rf w 0, .int p1, .int s.1, .int (s.2 + 1)]) g dX12_dearest_54 rfl rfl rfl n3 rfl rfl ?_
            refine r_goto (tgt := 16) g dX12_dearest_57 rfl ?_
            exact r_weak (Ls2 (Ls2 (Ls2 (Ls2 Ls0)))) (hr (s.1, s.2 + 1) M10)
          · skip
            refine r_iload_n (pc' := 53) g dX12_dearest_52 rfl rfl ?_
            refine r_istore_n (pc' := 54) (L' := [rf w 0, .int p1, .int s.2, .int s.2]) g dX12_dearest_53 rfl n2 rfl rfl ?_
            refine r_iinc (pc' := 57) (b := 1) (L' := [rf w 0, .int p1, .int s.2, .int (s.2 + 1)]) g dX12_dearest_54 rfl rfl rfl n3 rfl rfl ?_
            refine r_goto (tgt := 16) g dX12_dearest_57 rfl ?_
            exact r_weak (Ls2 (Ls2 (Ls2 (Ls2 Ls0)))) (hr (s.2, s.2 + 1) M10)
set_option maxHeartbeats 4000000 in
set_option maxRecDepth 100000 in
theorem c_X12_dearest (l : Launch) (w : W0) (N : Nat) (M : Mm) : Ct l KM w 6 yX12_dearest cX12_dearest 4 (some .int) [rf w 0] M (f_X12_dearest N M) := by
  refine ct_of [rf w 0, .null, .null, .null] (by decide) (Nat.le_of_ble_eq_true rfl) rfl (fun Z e1 e2 e3 g => ?_)
  have g : Good KM w Z cX12_dearest RX12 6 := g
  unfold f_X12_dearest
  have n1 : 1 < Z.2.2.1 := by rw [e2]; decide
  have n2 : 2 < Z.2.2.1 := by rw [e2]; decide
  have n3 : 3 < Z.2.2.1 := by rw [e2]; decide
  refine r_aload_n (pc' := 1) g dX12_dearest_0 rfl rfl ?_
  refine r_callVv (pc' := 4) (As := []) (rest := []) g dX12_dearest_1 rfl ml_X12_282 mw_X12_finds mv_X12_finds (Nat.le_of_ble_eq_true rfl) (c_X12_finds _ w N  M) rfl lM_0 (eM_0 w _ _) rfl rfl (Nat.le_of_ble_eq_true rfl) (fun r1 M2 => ?_)
  refine r_aload_n (pc' := 5) g dX12_dearest_4 rfl rfl ?_
  refine r_iconst (pc' := 6) (v := 0) g dX12_dearest_5 rfl rfl ?_
  refine r_iconst (pc' := 7) (v := 0) g dX12_dearest_6 rfl rfl ?_
  refine r_callVi (pc' := 10) (As := [.int 0, .int 0]) (rest := []) g dX12_dearest_7 rfl ml_X12_295 mw_X12_bestOf mv_X12_bestOf (Nat.le_of_ble_eq_true rfl) (c_X12_bestOf _ w N 0 0 M2) rfl lM_0 (eM_0 w _ _) rfl rfl (Nat.le_of_ble_eq_true rfl) (fun r3 M4 => ?_)
  refine r_istore_n (pc' := 11) (L' := [rf w 0, .int r3, .null, .null]) g dX12_dearest_10 rfl n1 rfl rfl ?_
  refine r_bipush (pc' := 13) (v := -9) g dX12_dearest_11 rfl rfl ?_
  refine r_istore_n (pc' := 14) (L' := [rf w 0, .int r3, .int (-9), .null]) g dX12_dearest_13 rfl n2 rfl rfl ?_
  refine r_iconst (pc' := 15) (v := 0) g dX12_dearest_14 rfl rfl ?_
  refine r_istore_n (pc' := 16) (L' := [rf w 0, .int r3, .int (-9), .int 0]) g dX12_dearest_15 rfl n3 rfl rfl ?_
  refine r_weak (Ls2 (Ls2 (Ls2 (Ls2 Ls0)))) (s_X12_dearest_16 g e2 e3 N r3 _ (fun z11 M12 => ?_) N ((-9), 0) M4)
  refine r_iload_n (pc' := 61) g dX12_dearest_60 rfl rfl ?_
  exact r_iret g e3 dX12_dearest_61
def B_X12_who_54 (N : Nat) (p1 : Int32) (p2 : Int32) (p5 : Int32) (G : (Int32 × Int32) → Mm → Rs) (rec : (Int32 × Int32 × Int32) → Mm → Rs) (s : Int32 × Int32 × Int32) (M : Mm) : Rs :=
  if s.2.2 < 16 then
      (bd (f_X12_isThere N p5 M) fun r7 M8 =>
      (if r7 = 0 then
        (rec (s.1, s.2.1, s.2.2 + 1) M8)
      else
        (if inb s.2.2 16 then
        (if (M8.1 19 (ix s.2.2)) = 0 then
          (rec (s.1, s.2.1, s.2.2 + 1) M8)
        else
          (bd (f_X12_findLacks N p1 s.2.2 M8) fun r9 M10 =>
          (bd (f_X12_leftOf N p1 s.2.2 p5 M10) fun r11 M12 =>
          (if s.2.1 < r11 then
            (rec (p5, r11, s.2.2 + 1) M12)
          else
            (rec (s.1, s.2.1, s.2.2 + 1) M12))))) else none)))
    else
      (G (s.1, s.2.1) M)

def B_X12_who_45 (N : Nat) (p1 : Int32) (p2 : Int32) (G : (Int32 × Int32) → Mm → Rs) (rec : (Int32 × Int32 × Int32) → Mm → Rs) (s : Int32 × Int32 × Int32) (M : Mm) : Rs :=
  if s.2.2 < 4 then
      (itr (B_X12_who_54 N p1 p2 s.2.2 fun z13 M14 =>
      (rec (z13.1, z13.2, s.2.2 + 1) M14)) N (s.1, s.2.1, 0) M)
    else
      (G (s.1, s.2.1) M)

def f_X12_who (N : Nat) (a1 : Int32) (a2 : Int32) (M : Mm) : Rs :=
  bd (f_X12_isPlan N a1 M) fun r1 M2 =>
  (if r1 = 0 then
    (bd (f_X12_no N (-1) M2) fun r19 M20 =>
    (some (r19, M20)))
  else
    (bd (f_X12_isIn N a2.toInt64 0 1 M2) fun r3 M4 =>
    (if r3 = 0 then
      (bd (f_X12_no N (-2) M4) fun r17 M18 =>
      (some (r17, M18)))
    else
      (bd (f_X12_finds N  M4) fun r5 M6 =>
      (itr (B_X12_who_45 N a1 a2 fun z15 M16 =>
      (if a2 = 0 then
        (some (z15.1, M16))
      else
        (some (z15.2, M16)))) N ((-9), (-9), 0) M6)))))

set_option maxHeartbeats 4000000 in
set_option maxRecDepth 100000 in
theorem s_X12_who_54 {w : W0} {Z : Zx} (g : Good KM w Z cX12_who RX12 6) (e2 : Z.2.2.1 = 8) (e3 : Z.2.2.2 = (some .int)) (N : Nat) (p1 : Int32) (p2 : Int32) (p5 : Int32) (G : (Int32 × Int32) → Mm → Rs) (kG : ∀ (x : Int32 × Int32) (M : Mm), Sim KM w Z 124 [rf w 0, .int p1, .int p2, .int x.1, .int x.2, .int p5, .null, .null] [] M (G x M)) : ∀ (n : Nat) (s : Int32 × Int32 × Int32) (M : Mm), Sim KM w Z 54 [rf w 0, .int p1, .int p2, .int s.1, .int s.2.1, .int p5, .int s.2.2, .null] [] M (itr (B_X12_who_54 N p1 p2 p5 G) n s M) := by
  have n3 : 3 < Z.2.2.1 := by rw [e2]; decide
  have n4 : 4 < Z.2.2.1 := by rw [e2]; decide
  have n6 : 6 < Z.2.2.1 := by rw [e2]; decide
  have n7 : 7 < Z.2.2.1 := by rw [e2]; decide
  refine r_itr (Lf := fun (s : Int32 × Int32 × Int32) => [rf w 0, .int p1, .int p2, .int s.1, .int s.2.1, .int p5, .int s.2.2, .null]) (fun rec hr s M => ?_)
  unfold B_X12_who_54
  refine r_iload (pc' := 56) g dX12_who_54 rfl rfl ?_
  refine r_bipush (pc' := 58) (v := 16) g dX12_who_56 rfl rfl ?_
  refine r_cge (pc' := 61) (tgt := 124) g dX12_who_58 rfl rfl ?_ ?_
  · skip
    exact r_weak (Ls2 (Ls2 (Ls2 (Ls2 (Ls2 (Ls2 (Ls1 (Ls1 Ls0)))))))) (kG (s.1, s.2.1) M)
  · skip
    refine r_aload_n (pc' := 62) g dX12_who_61 rfl rfl ?_
    refine r_iload (pc' := 64) g dX12_who_62 rfl rfl ?_
    refine r_callVi (pc' := 67) (As := [.int p5]) (rest := []) g dX12_who_64 rfl ml_X12_117 mw_X12_isThere mv_X12_isThere (Nat.le_of_ble_eq_true rfl) (c_X12_isThere _ w N p5 M) rfl lM_0 (eM_0 w _ _) rfl rfl (Nat.le_of_ble_eq_true rfl) (fun r7 M8 => ?_)
    refine r_ifeq (pc' := 70) (tgt := 118) g dX12_who_67 rfl rfl ?_ ?_
    · skip
      refine r_iinc (pc' := 121) (b := 1) (L' := [rf w 0, .int p1, .int p2, .int s.1, .int s.2.1, .int p5, .int (s.2.2 + 1), .null]) g dX12_who_118 rfl rfl rfl n6 rfl rfl ?_
      refine r_goto (tgt := 54) g dX12_who_121 rfl ?_
      exact r_weak (Ls2 (Ls2 (Ls2 (Ls2 (Ls2 (Ls2 (Ls2 (Ls1 Ls0)))))))) (hr (s.1, s.2.1, s.2.2 + 1) M8)
    · skip
      refine r_aload_n (pc' := 71) g dX12_who_70 rfl rfl ?_
      refine r_get (pc' := 74) g dX12_who_71 rfl fl_X12_65 lM_0 (eM_0 w _ _) rfl ?_
      refine r_iload (pc' := 76) g dX12_who_74 rfl rfl ?_
      refine r_zald (pc' := 77) g dX12_who_76 rfl lM_19 (eM_19 w _ _) ?_
      refine r_ifne (pc' := 80) (tgt := 83) g dX12_who_77 rfl rfl ?_ ?_
      · skip
        refine r_aload_n (pc' := 84) g dX12_who_83 rfl rfl ?_
        refine r_iload_n (pc' := 85) g dX12_who_84 rfl rfl ?_
        refine r_iload (pc' := 87) g dX12_who_85 rfl rfl ?_
        refine r_callVv (pc' := 90) (As := [.int p1, .int s.2.2]) (rest := []) g dX12_who_87 rfl ml_X12_244 mw_X12_findLacks mv_X12_findLacks (Nat.le_of_ble_eq_true rfl) (c_X12_findLacks _ w N p1 s.2.2 M8) rfl lM_0 (eM_0 w _ _) rfl rfl (Nat.le_of_ble_eq_true rfl) (fun r9 M10 => ?_)
        refine r_aload_n (pc' := 91) g dX12_who_90 rfl rfl ?_
        refine r_iload_n (pc' := 92) g dX12_who_91 rfl rfl ?_
        refine r_iload (pc' := 94) g dX12_who_92 rfl rfl ?_
        refine r_iload (pc' := 96) g dX12_who_94 rfl rfl ?_
        refine r_callVi (pc' := 99) (As := [.int p1, .int s.2.2, .int p5]) (rest := []) g dX12_who_96 rfl ml_X12_304 mw_X12_leftOf mv_X12_leftOf (Nat.le_of_ble_eq_true rfl) (c_X12_leftOf _ w N p1 s.2.2 p5 M10) rfl lM_0 (eM_0 w _ _) rfl rfl (Nat.le_of_ble_eq_true rfl) (fun r11 M12 => ?_)
        refine r_istore (pc' := 101) (L' := [rf w 0, .int p1, .int p2, .int s.1, .int s.2.1, .int p5, .int s.2.2, .int r11]) g dX12_who_99 rfl n7 rfl rfl ?_
        refine r_iload (pc' := 103) g dX12_who_101 rfl rfl ?_
        refine r_iload (pc' := 105) g dX12_who_103 rfl rfl ?_
        refine r_cgt (pc' := 108) (tgt := 111) g dX12_who_105 rfl rfl ?_ ?_
        · skip
          refine r_iload (pc' := 113) g dX12_who_111 rfl rfl ?_
          refine r_istore_n (pc' := 114) (L' := [rf w 0, .int p1, .int p2, .int p5, .int s.2.1, .int p5, .int s.2.2, .int r11]) g dX12_who_113 rfl n3 rfl rfl ?_
          refine r_iload (pc' := 116) g dX12_who_114 rfl rfl ?_
          refine r_istore (pc' := 118) (L' := [rf w 0, .int p1, .int p2, .int p5, .int r11, .int p5, .int s.2.2, .int r11]) g dX12_who_116 rfl n4 rfl rfl ?_
          refine r_iinc (pc' := 121) (b := 1) (L' := [rf w 0, .int p1, .int p2, .int p5, .int r11, .int p5, .int (s.2.2 + 1), .int r11]) g dX12_who_118 rfl rfl rfl n6 rfl rfl ?_
          refine r_goto (tgt := 54) g dX12_who_121 rfl ?_
          exact r_weak (Ls2 (Ls2 (Ls2 (Ls2 (Ls2 (Ls2 (Ls2 (Ls1 Ls0)))))))) (hr (p5, r11, s.2.2 + 1) M12)
        · skip
          refine r_goto (tgt := 118) g dX12_who_108 rfl ?_
          refine r_iinc (pc' := 121) (b := 1) (L' := [rf w 0, .int p1, .int p2, .int s.1, .int s.2.1, .int p5, .int (s.2.2 + 1), .int r11]) g dX12_who_118 rfl rfl rfl n6 rfl rfl ?_
          refine r_goto (tgt := 54) g dX12_who_121 rfl ?_
          exact r_weak (Ls2 (Ls2 (Ls2 (Ls2 (Ls2 (Ls2 (Ls2 (Ls1 Ls0)))))))) (hr (s.1, s.2.1, s.2.2 + 1) M12)
      · skip
        refine r_goto (tgt := 118) g dX12_who_80 rfl ?_
        refine r_iinc (pc' := 121) (b := 1) (L' := [rf w 0, .int p1, .int p2, .int s.1, .int s.2.1, .int p5, .int (s.2.2 + 1), .null]) g dX12_who_118 rfl rfl rfl n6 rfl rfl ?_
        refine r_goto (tgt := 54) g dX12_who_121 rfl ?_
        exact r_weak (Ls2 (Ls2 (Ls2 (Ls2 (Ls2 (Ls2 (Ls2 (Ls1 Ls0)))))))) (hr (s.1, s.2.1, s.2.2 + 1) M8)
set_option maxHeartbeats 4000000 in
set_option maxRecDepth 100000 in
theorem s_X12_who_45 {w : W0} {Z : Zx} (g : Good KM w Z cX12_who RX12 6) (e2 : Z.2.2.1 = 8) (e3 : Z.2.2.2 = (some .int)) (N : Nat) (p1 : Int32) (p2 : Int32) (G : (Int32 × Int32) → Mm → Rs) (kG : ∀ (x : Int32 × Int32) (M : Mm), Sim KM w Z 130 [.null, .null, .int p2, .int x.1, .int x.2, .null, .null, .null] [] M (G x M)) : ∀ (n : Nat) (s : Int32 × Int32 × Int32) (M : Mm), Sim KM w Z 45 [rf w 0, .int p1, .int p2, .int s.1, .int s.2.1, .int s.2.2, .null, .null] [] M (itr (B_X12_who_45 N p1 p2 G) n s M) := by
  have n5 : 5 < Z.2.2.1 := by rw [e2]; decide
  have n6 : 6 < Z.2.2.1 := by rw [e2]; decide
  refine r_itr (Lf := fun (s : Int32 × Int32 × Int32) => [rf w 0, .int p1, .int p2, .int s.1, .int s.2.1, .int s.2.2, .null, .null]) (fun rec hr s M => ?_)
  unfold B_X12_who_45
  refine r_iload (pc' := 47) g dX12_who_45 rfl rfl ?_
  refine r_iconst (pc' := 48) (v := 4) g dX12_who_47 rfl rfl ?_
  refine r_cge (pc' := 51) (tgt := 130) g dX12_who_48 rfl rfl ?_ ?_
  · skip
    exact r_weak (Ls1 (Ls1 (Ls2 (Ls2 (Ls2 (Ls1 (Ls1 (Ls1 Ls0)))))))) (kG (s.1, s.2.1) M)
  · skip
    refine r_iconst (pc' := 52) (v := 0) g dX12_who_51 rfl rfl ?_
    refine r_istore (pc' := 54) (L' := [rf w 0, .int p1, .int p2, .int s.1, .int s.2.1, .int s.2.2, .int 0, .null]) g dX12_who_52 rfl n6 rfl rfl ?_
    refine r_weak (Ls2 (Ls2 (Ls2 (Ls2 (Ls2 (Ls2 (Ls2 (Ls1 Ls0)))))))) (s_X12_who_54 g e2 e3 N p1 p2 s.2.2 _ (fun z13 M14 => ?_) N (s.1, s.2.1, 0) M)
    refine r_iinc (pc' := 127) (b := 1) (L' := [rf w 0, .int p1, .int p2, .int z13.1, .int z13.2, .int (s.2.2 + 1), .null, .null]) g dX12_who_124 rfl rfl rfl n5 rfl rfl ?_
    refine r_goto (tgt := 45) g dX12_who_127 rfl ?_
    exact r_weak (Ls2 (Ls2 (Ls2 (Ls2 (Ls2 (Ls2 (Ls1 (Ls1 Ls0)))))))) (hr (z13.1, z13.2, s.2.2 + 1) M14)
set_option maxHeartbeats 4000000 in
set_option maxRecDepth 100000 in
theorem c_X12_who (l : Launch) (w : W0) (N : Nat) (a1 : Int32) (a2 : Int32) (M : Mm) : Ct l KM w 6 yX12_who cX12_who 8 (some .int) [rf w 0, .int a1, .int a2] M (f_X12_who N a1 a2 M) := by
  refine ct_of [rf w 0, .int a1, .int a2, .null, .null, .null, .null, .null] (by decide) (Nat.le_of_ble_eq_true rfl) rfl (fun Z e1 e2 e3 g => ?_)
  have g : Good KM w Z cX12_who RX12 6 := g
  unfold f_X12_who
  have n3 : 3 < Z.2.2.1 := by rw [e2]; decide
  have n4 : 4 < Z.2.2.1 := by rw [e2]; decide
  have n5 : 5 < Z.2.2.1 := by rw [e2]; decide
  refine r_aload_n (pc' := 1) g dX12_who_0 rfl rfl ?_
  refine r_iload_n (pc' := 2) g dX12_who_1 rfl rfl ?_
  refine r_callVi (pc' := 5) (As := [.int a1]) (rest := []) g dX12_who_2 rfl ml_X12_270 mw_X12_isPlan mv_X12_isPlan (Nat.le_of_ble_eq_true rfl) (c_X12_isPlan _ w N a1 M) rfl lM_0 (eM_0 w _ _) rfl rfl (Nat.le_of_ble_eq_true rfl) (fun r1 M2 => ?_)
  refine r_ifne (pc' := 8) (tgt := 14) g dX12_who_5 rfl rfl ?_ ?_
  · skip
    refine r_iload_n (pc' := 15) g dX12_who_14 rfl rfl ?_
    refine r_i2l (pc' := 16) g dX12_who_15 rfl ?_
    refine r_lconst (pc' := 17) (v := 0) g dX12_who_16 rfl rfl ?_
    refine r_lconst (pc' := 18) (v := 1) g dX12_who_17 rfl rfl ?_
    refine r_callSi (pc' := 21) (As := [.long a2.toInt64, .long 0, .long 1]) (rest := []) g dX12_who_18 rfl ml_X12_109 mw_X12_isIn ms_X12_isIn (Nat.le_of_ble_eq_true rfl) (c_X12_isIn _ w N a2.toInt64 0 1 M2) rfl rfl (Nat.le_of_ble_eq_true rfl) (fun r3 M4 => ?_)
    refine r_ifne (pc' := 24) (tgt := 31) g dX12_who_21 rfl rfl ?_ ?_
    · skip
      refine r_aload_n (pc' := 32) g dX12_who_31 rfl rfl ?_
      refine r_callVv (pc' := 35) (As := []) (rest := []) g dX12_who_32 rfl ml_X12_282 mw_X12_finds mv_X12_finds (Nat.le_of_ble_eq_true rfl) (c_X12_finds _ w N  M4) rfl lM_0 (eM_0 w _ _) rfl rfl (Nat.le_of_ble_eq_true rfl) (fun r5 M6 => ?_)
      refine r_bipush (pc' := 37) (v := -9) g dX12_who_35 rfl rfl ?_
      refine r_istore_n (pc' := 38) (L' := [rf w 0, .int a1, .int a2, .int (-9), .null, .null, .null, .null]) g dX12_who_37 rfl n3 rfl rfl ?_
      refine r_bipush (pc' := 40) (v := -9) g dX12_who_38 rfl rfl ?_
      refine r_istore (pc' := 42) (L' := [rf w 0, .int a1, .int a2, .int (-9), .int (-9), .null, .null, .null]) g dX12_who_40 rfl n4 rfl rfl ?_
      refine r_iconst (pc' := 43) (v := 0) g dX12_who_42 rfl rfl ?_
      refine r_istore (pc' := 45) (L' := [rf w 0, .int a1, .int a2, .int (-9), .int (-9), .int 0, .null, .null]) g dX12_who_43 rfl n5 rfl rfl ?_
      refine r_weak (Ls2 (Ls2 (Ls2 (Ls2 (Ls2 (Ls2 (Ls1 (Ls1 Ls0)))))))) (s_X12_who_45 g e2 e3 N a1 a2 _ (fun z15 M16 => ?_) N ((-9), (-9), 0) M6)
      refine r_iload_n (pc' := 131) g dX12_who_130 rfl rfl ?_
      refine r_ifne (pc' := 134) (tgt := 138) g dX12_who_131 rfl rfl ?_ ?_
      · skip
        refine r_iload (pc' := 140) g dX12_who_138 rfl rfl ?_
        exact r_iret g e3 dX12_who_140
      · skip
        refine r_iload_n (pc' := 135) g dX12_who_134 rfl rfl ?_
        refine r_goto (tgt := 140) g dX12_who_135 rfl ?_
        exact r_iret g e3 dX12_who_140
    · skip
      refine r_aload_n (pc' := 25) g dX12_who_24 rfl rfl ?_
      refine r_bipush (pc' := 27) (v := -2) g dX12_who_25 rfl rfl ?_
      refine r_callVi (pc' := 30) (As := [.int (-2)]) (rest := []) g dX12_who_27 rfl ml_X12_113 mw_X12_no mv_X12_no (Nat.le_of_ble_eq_true rfl) (c_X12_no _ w N (-2) M4) rfl lM_0 (eM_0 w _ _) rfl rfl (Nat.le_of_ble_eq_true rfl) (fun r17 M18 => ?_)
      exact r_iret g e3 dX12_who_30
  · skip
    refine r_aload_n (pc' := 9) g dX12_who_8 rfl rfl ?_
    refine r_iconst (pc' := 10) (v := -1) g dX12_who_9 rfl rfl ?_
    refine r_callVi (pc' := 13) (As := [.int (-1)]) (rest := []) g dX12_who_10 rfl ml_X12_113 mw_X12_no mv_X12_no (Nat.le_of_ble_eq_true rfl) (c_X12_no _ w N (-1) M2) rfl lM_0 (eM_0 w _ _) rfl rfl (Nat.le_of_ble_eq_true rfl) (fun r19 M20 => ?_)
    exact r_iret g e3 dX12_who_13
def B_X12_isNoneFor_20 (N : Nat) (p1 : Int32) (p2 : Int32) (p3 : Int32) (G : Int32 → Mm → Rs) (rec : (Int32 × Int32) → Mm → Rs) (s : Int32 × Int32) (M : Mm) : Rs :=
  if s.2 < 16 then
      (if s.1 = 0 then
        (G s.1 M)
      else
        (if ((p1 >>> (s.2 &&& 31)) &&& 1) = 0 then
          (rec (1, s.2 + 1) M)
        else
          (if inb ((16 * p3) + s.2) 4096 then
          (if p2 < (M.1 18 (ix ((16 * p3) + s.2))) then
            (rec (0, s.2 + 1) M)
          else
            (rec (1, s.2 + 1) M)) else none)))
    else
      (G s.1 M)

def B_X12_isNoneFor_2 (N : Nat) (p1 : Int32) (p2 : Int32) (G : Unit → Mm → Rs) (rec : Int32 → Mm → Rs) (s : Int32) (M : Mm) : Rs :=
  if s < 256 then
      (if inb s 256 then
      (itr (B_X12_isNoneFor_20 N p1 p2 s fun z1 M2 =>
      (if z1 = 0 then
        (rec (s + 1) M2)
      else
        (some (0, M2)))) N (M.1 20 (ix s), 0) M) else none)
    else
      (G () M)

def f_X12_isNoneFor (N : Nat) (a1 : Int32) (a2 : Int32) (M : Mm) : Rs :=
  itr (B_X12_isNoneFor_2 N a1 a2 fun z3 M4 =>
  (some (1, M4))) N 0 M

set_option maxHeartbeats 4000000 in
set_option maxRecDepth 100000 in
theorem s_X12_isNoneFor_20 {w : W0} {Z : Zx} (g : Good KM w Z cX12_isNoneFor RX12 0) (e2 : Z.2.2.1 = 6) (e3 : Z.2.2.2 = (some .boolean)) (N : Nat) (p1 : Int32) (p2 : Int32) (p3 : Int32) (G : Int32 → Mm → Rs) (kG : ∀ (x : Int32) (M : Mm), Sim KM w Z 70 [rf w 0, .int p1, .int p2, .int p3, .int x, .null] [] M (G x M)) : ∀ (n : Nat) (s : Int32 × Int32) (M : Mm), Sim KM w Z 20 [rf w 0, .int p1, .int p2, .int p3, .int s.1, .int s.2] [] M (itr (B_X12_isNoneFor_20 N p1 p2 p3 G) n s M) := by
  have n4 : 4 < Z.2.2.1 := by rw [e2]; decide
  have n5 : 5 < Z.2.2.1 := by rw [e2]; decide
  refine r_itr (Lf := fun (s : Int32 × Int32) => [rf w 0, .int p1, .int p2, .int p3, .int s.1, .int s.2]) (fun rec hr s M => ?_)
  unfold B_X12_isNoneFor_20
  refine r_iload (pc' := 22) g dX12_isNoneFor_20 rfl rfl ?_
  refine r_bipush (pc' := 24) (v := 16) g dX12_isNoneFor_22 rfl rfl ?_
  refine r_cge (pc' := 27) (tgt := 70) g dX12_isNoneFor_24 rfl rfl ?_ ?_
  · skip
    exact r_weak (Ls2 (Ls2 (Ls2 (Ls2 (Ls2 (Ls1 Ls0)))))) (kG s.1 M)
  · skip
    refine r_iload (pc' := 29) g dX12_isNoneFor_27 rfl rfl ?_
    refine r_ifeq (pc' := 32) (tgt := 70) g dX12_isNoneFor_29 rfl rfl ?_ ?_
    · skip
      exact r_weak (Ls2 (Ls2 (Ls2 (Ls2 (Ls2 (Ls1 Ls0)))))) (kG s.1 M)
    · skip
      refine r_iload_n (pc' := 33) g dX12_isNoneFor_32 rfl rfl ?_
      refine r_iload (pc' := 35) g dX12_isNoneFor_33 rfl rfl ?_
      refine r_ishr (pc' := 36) g dX12_isNoneFor_35 rfl ?_
      refine r_iconst (pc' := 37) (v := 1) g dX12_isNoneFor_36 rfl rfl ?_
      refine r_iand (pc' := 38) g dX12_isNoneFor_37 rfl ?_
      refine r_ifeq (pc' := 41) (tgt := 57) g dX12_isNoneFor_38 rfl rfl ?_ ?_
      · skip
        refine r_iconst (pc' := 58) (v := 1) g dX12_isNoneFor_57 rfl rfl ?_
        refine r_goto (tgt := 62) g dX12_isNoneFor_58 rfl ?_
        refine r_istore (pc' := 64) (L' := [rf w 0, .int p1, .int p2, .int p3, .int 1, .int s.2]) g dX12_isNoneFor_62 rfl n4 rfl rfl ?_
        refine r_iinc (pc' := 67) (b := 1) (L' := [rf w 0, .int p1, .int p2, .int p3, .int 1, .int (s.2 + 1)]) g dX12_isNoneFor_64 rfl rfl rfl n5 rfl rfl ?_
        refine r_goto (tgt := 20) g dX12_isNoneFor_67 rfl ?_
        exact r_weak (Ls2 (Ls2 (Ls2 (Ls2 (Ls2 (Ls2 Ls0)))))) (hr (1, s.2 + 1) M)
      · skip
        refine r_aload_n (pc' := 42) g dX12_isNoneFor_41 rfl rfl ?_
        refine r_get (pc' := 45) g dX12_isNoneFor_42 rfl fl_X12_62 lM_0 (eM_0 w _ _) rfl ?_
        refine r_bipush (pc' := 47) (v := 16) g dX12_isNoneFor_45 rfl rfl ?_
        refine r_iload_n (pc' := 48) g dX12_isNoneFor_47 rfl rfl ?_
        refine r_imul (pc' := 49) g dX12_isNoneFor_48 rfl ?_
        refine r_iload (pc' := 51) g dX12_isNoneFor_49 rfl rfl ?_
        refine r_iadd (pc' := 52) g dX12_isNoneFor_51 rfl ?_
        refine r_iald (pc' := 53) g dX12_isNoneFor_52 rfl lM_18 (eM_18 w _ _) ?_
        refine r_iload_n (pc' := 54) g dX12_isNoneFor_53 rfl rfl ?_
        refine r_cgt (pc' := 57) (tgt := 61) g dX12_isNoneFor_54 rfl rfl ?_ ?_
        · skip
          refine r_iconst (pc' := 62) (v := 0) g dX12_isNoneFor_61 rfl rfl ?_
          refine r_istore (pc' := 64) (L' := [rf w 0, .int p1, .int p2, .int p3, .int 0, .int s.2]) g dX12_isNoneFor_62 rfl n4 rfl rfl ?_
          refine r_iinc (pc' := 67) (b := 1) (L' := [rf w 0, .int p1, .int p2, .int p3, .int 0, .int (s.2 + 1)]) g dX12_isNoneFor_64 rfl rfl rfl n5 rfl rfl ?_
          refine r_goto (tgt := 20) g dX12_isNoneFor_67 rfl ?_
          exact r_weak (Ls2 (Ls2 (Ls2 (Ls2 (Ls2 (Ls2 Ls0)))))) (hr (0, s.2 + 1) M)
        · skip
          refine r_iconst (pc' := 58) (v := 1) g dX12_isNoneFor_57 rfl rfl ?_
          refine r_goto (tgt := 62) g dX12_isNoneFor_58 rfl ?_
          refine r_istore (pc' := 64) (L' := [rf w 0, .int p1, .int p2, .int p3, .int 1, .int s.2]) g dX12_isNoneFor_62 rfl n4 rfl rfl ?_
          refine r_iinc (pc' := 67) (b := 1) (L' := [rf w 0, .int p1, .int p2, .int p3, .int 1, .int (s.2 + 1)]) g dX12_isNoneFor_64 rfl rfl rfl n5 rfl rfl ?_
          refine r_goto (tgt := 20) g dX12_isNoneFor_67 rfl ?_
          exact r_weak (Ls2 (Ls2 (Ls2 (Ls2 (Ls2 (Ls2 Ls0)))))) (hr (1, s.2 + 1) M)
set_option maxHeartbeats 4000000 in
set_option maxRecDepth 100000 in
theorem s_X12_isNoneFor_2 {w : W0} {Z : Zx} (g : Good KM w Z cX12_isNoneFor RX12 0) (e2 : Z.2.2.1 = 6) (e3 : Z.2.2.2 = (some .boolean)) (N : Nat) (p1 : Int32) (p2 : Int32) (G : Unit → Mm → Rs) (kG : ∀ (x : Unit) (M : Mm), Sim KM w Z 83 [.null, .null, .null, .null, .null, .null] [] M (G x M)) : ∀ (n : Nat) (s : Int32) (M : Mm), Sim KM w Z 2 [rf w 0, .int p1, .int p2, .int s, .null, .null] [] M (itr (B_X12_isNoneFor_2 N p1 p2 G) n s M) := by
  have n3 : 3 < Z.2.2.1 := by rw [e2]; decide
  have n4 : 4 < Z.2.2.1 := by rw [e2]; decide
  have n5 : 5 < Z.2.2.1 := by rw [e2]; decide
  refine r_itr (Lf := fun (s : Int32) => [rf w 0, .int p1, .int p2, .int s, .null, .null]) (fun rec hr s M => ?_)
  unfold B_X12_isNoneFor_2
  refine r_iload_n (pc' := 3) g dX12_isNoneFor_2 rfl rfl ?_
  refine r_sipush (pc' := 6) (v := 256) g dX12_isNoneFor_3 rfl rfl ?_
  refine r_cge (pc' := 9) (tgt := 83) g dX12_isNoneFor_6 rfl rfl ?_ ?_
  · skip
    exact r_weak (Ls1 (Ls1 (Ls1 (Ls1 (Ls1 (Ls1 Ls0)))))) (kG () M)
  · skip
    refine r_aload_n (pc' := 10) g dX12_isNoneFor_9 rfl rfl ?_
    refine r_get (pc' := 13) g dX12_isNoneFor_10 rfl fl_X12_68 lM_0 (eM_0 w _ _) rfl ?_
    refine r_iload_n (pc' := 14) g dX12_isNoneFor_13 rfl rfl ?_
    refine r_zald (pc' := 15) g dX12_isNoneFor_14 rfl lM_20 (eM_20 w _ _) ?_
    refine r_istore (pc' := 17) (L' := [rf w 0, .int p1, .int p2, .int s, .int (M.1 20 (ix s)), .null]) g dX12_isNoneFor_15 rfl n4 rfl rfl ?_
    refine r_iconst (pc' := 18) (v := 0) g dX12_isNoneFor_17 rfl rfl ?_
    refine r_istore (pc' := 20) (L' := [rf w 0, .int p1, .int p2, .int s, .int (M.1 20 (ix s)), .int 0]) g dX12_isNoneFor_18 rfl n5 rfl rfl ?_
    refine r_weak (Ls2 (Ls2 (Ls2 (Ls2 (Ls2 (Ls2 Ls0)))))) (s_X12_isNoneFor_20 g e2 e3 N p1 p2 s _ (fun z1 M2 => ?_) N (M.1 20 (ix s), 0) M)
    refine r_iload (pc' := 72) g dX12_isNoneFor_70 rfl rfl ?_
    refine r_ifeq (pc' := 75) (tgt := 77) g dX12_isNoneFor_72 rfl rfl ?_ ?_
    · skip
      refine r_iinc (pc' := 80) (b := 1) (L' := [rf w 0, .int p1, .int p2, .int (s + 1), .int z1, .null]) g dX12_isNoneFor_77 rfl rfl rfl n3 rfl rfl ?_
      refine r_goto (tgt := 2) g dX12_isNoneFor_80 rfl ?_
      exact r_weak (Ls2 (Ls2 (Ls2 (Ls2 (Ls1 (Ls1 Ls0)))))) (hr (s + 1) M2)
    · skip
      refine r_iconst (pc' := 76) (v := 0) g dX12_isNoneFor_75 rfl rfl ?_
      exact r_zretc g e3 rfl dX12_isNoneFor_76
set_option maxHeartbeats 4000000 in
set_option maxRecDepth 100000 in
theorem c_X12_isNoneFor (l : Launch) (w : W0) (N : Nat) (a1 : Int32) (a2 : Int32) (M : Mm) : Ct l KM w 0 yX12_isNoneFor cX12_isNoneFor 6 (some .boolean) [rf w 0, .int a1, .int a2] M (f_X12_isNoneFor N a1 a2 M) := by
  refine ct_of [rf w 0, .int a1, .int a2, .null, .null, .null] (by decide) (Nat.le_of_ble_eq_true rfl) rfl (fun Z e1 e2 e3 g => ?_)
  have g : Good KM w Z cX12_isNoneFor RX12 0 := g
  unfold f_X12_isNoneFor
  have n3 : 3 < Z.2.2.1 := by rw [e2]; decide
  refine r_iconst (pc' := 1) (v := 0) g dX12_isNoneFor_0 rfl rfl ?_
  refine r_istore_n (pc' := 2) (L' := [rf w 0, .int a1, .int a2, .int 0, .null, .null]) g dX12_isNoneFor_1 rfl n3 rfl rfl ?_
  refine r_weak (Ls2 (Ls2 (Ls2 (Ls2 (Ls1 (Ls1 Ls0)))))) (s_X12_isNoneFor_2 g e2 e3 N a1 a2 _ (fun z3 M4 => ?_) N 0 M)
  refine r_iconst (pc' := 84) (v := 1) g dX12_isNoneFor_83 rfl rfl ?_
  exact r_zretc g e3 rfl dX12_isNoneFor_84
def B_X12_none_47 (N : Nat) (p1 : Int32) (p2 : Int32) (G : Int32 → Mm → Rs) (rec : (Int32 × Int32) → Mm → Rs) (s : Int32 × Int32) (M : Mm) : Rs :=
  if s.2 < 16 then
      (if inb s.2 16 then
      (if (M.1 19 (ix s.2)) = 0 then
        (lt' (s.1 ||| 0) fun x7 =>
        (rec (x7, s.2 + 1) M))
      else
        (lt' (s.1 ||| (1 <<< (s.2 &&& 31))) fun x8 =>
        (rec (x8, s.2 + 1) M))) else none)
    else
      (G s.1 M)

def B_X12_none_95 (N : Nat) (p1 : Int32) (p2 : Int32) (p4 : Int32) (p5 : Int32) (G : Unit → Mm → Rs) (rec : Int32 → Mm → Rs) (s : Int32) (M : Mm) : Rs :=
  if s < 65536 then
      (if (s &&& (p4 ^^^ (-1))) = 0 then
        (bd (f_X12_bits N s M) fun r11 M12 =>
        (if r11 = p5 then
          (bd (f_X12_isNoneFor N s p1 M12) fun r13 M14 =>
          (if r13 = 0 then
            (rec (s + 1) M14)
          else
            (if p2 = 0 then
              (some (p5, M14))
            else
              (some (s, M14)))))
        else
          (rec (s + 1) M12)))
      else
        (rec (s + 1) M))
    else
      (G () M)

def B_X12_none_86 (N : Nat) (p1 : Int32) (p2 : Int32) (p4 : Int32) (G : Unit → Mm → Rs) (rec : Int32 → Mm → Rs) (s : Int32) (M : Mm) : Rs :=
  if s < 4 then
      (itr (B_X12_none_95 N p1 p2 p4 s fun z15 M16 =>
      (rec (s + 1) M16)) N 1 M)
    else
      (G () M)

def f_X12_none (N : Nat) (a1 : Int32) (a2 : Int32) (M : Mm) : Rs :=
  bd (f_X12_isIn N a2.toInt64 0 1 M) fun r1 M2 =>
  (if r1 = 0 then
    (bd (f_X12_no N (-2) M2) fun r21 M22 =>
    (some (r21, M22)))
  else
    (bd (f_X12_outOf N a1.toInt64 0 99999 M2) fun r3 M4 =>
    (if r3 = 0 then
      (bd (f_X12_finds N  M4) fun r5 M6 =>
      (itr (B_X12_none_47 N a1 a2 fun z9 M10 =>
      (itr (B_X12_none_86 N a1 a2 z9 fun z17 M18 =>
      (some ((-9), M18))) N 1 M10)) N (0, 0) M6))
    else
      (bd (f_X12_no N r3 M4) fun r19 M20 =>
      (some (r19, M20))))))

set_option maxHeartbeats 4000000 in
set_option maxRecDepth 100000 in
theorem s_X12_none_47 {w : W0} {Z : Zx} (g : Good KM w Z cX12_none RX12 6) (e2 : Z.2.2.1 = 7) (e3 : Z.2.2.2 = (some .int)) (N : Nat) (p1 : Int32) (p2 : Int32) (G : Int32 → Mm → Rs) (kG : ∀ (x : Int32) (M : Mm), Sim KM w Z 83 [rf w 0, .int p1, .int p2, .null, .int x, .null, .null] [] M (G x M)) : ∀ (n : Nat) (s : Int32 × Int32) (M : Mm), Sim KM w Z 47 [rf w 0, .int p1, .int p2, .null, .int s.1, .int s.2, .null] [] M (itr (B_X12_none_47 N p1 p2 G) n s M) := by
  have n4 : 4 < Z.2.2.1 := by rw [e2]; decide
  have n5 : 5 < Z.2.2.1 := by rw [e2]; decide
  refine r_itr (Lf := fun (s : Int32 × Int32) => [rf w 0, .int p1, .int p2, .null, .int s.1, .int s.2, .null]) (fun rec hr s M => ?_)
  unfold B_X12_none_47
  refine r_iload (pc' := 49) g dX12_none_47 rfl rfl ?_
  refine r_bipush (pc' := 51) (v := 16) g dX12_none_49 rfl rfl ?_
  refine r_cge (pc' := 54) (tgt := 83) g dX12_none_51 rfl rfl ?_ ?_
  · skip
    exact r_weak (Ls2 (Ls2 (Ls2 (Ls1 (Ls2 (Ls1 (Ls1 Ls0))))))) (kG s.1 M)
  · skip
    refine r_iload (pc' := 56) g dX12_none_54 rfl rfl ?_
    refine r_aload_n (pc' := 57) g dX12_none_56 rfl rfl ?_
    refine r_get (pc' := 60) g dX12_none_57 rfl fl_X12_65 lM_0 (eM_0 w _ _) rfl ?_
    refine r_iload (pc' := 62) g dX12_none_60 rfl rfl ?_
    refine r_zald (pc' := 63) g dX12_none_62 rfl lM_19 (eM_19 w _ _) ?_
    refine r_ifeq (pc' := 66) (tgt := 73) g dX12_none_63 rfl rfl ?_ ?_
    · skip
      refine r_iconst (pc' := 74) (v := 0) g dX12_none_73 rfl rfl ?_
      refine r_ior (pc' := 75) g dX12_none_74 rfl ?_
      refine r_ltI (fun x7 => ?_)
      refine r_istore (pc' := 77) (L' := [rf w 0, .int p1, .int p2, .null, .int x7, .int s.2, .null]) g dX12_none_75 rfl n4 rfl rfl ?_
      refine r_iinc (pc' := 80) (b := 1) (L' := [rf w 0, .int p1, .int p2, .null, .int x7, .int (s.2 + 1), .null]) g dX12_none_77 rfl rfl rfl n5 rfl rfl ?_
      refine r_goto (tgt := 47) g dX12_none_80 rfl ?_
      exact r_weak (Ls2 (Ls2 (Ls2 (Ls1 (Ls2 (Ls2 (Ls1 Ls0))))))) (hr (x7, s.2 + 1) M)
    · skip
      refine r_iconst (pc' := 67) (v := 1) g dX12_none_66 rfl rfl ?_
      refine r_iload (pc' := 69) g dX12_none_67 rfl rfl ?_
      refine r_ishl (pc' := 70) g dX12_none_69 rfl ?_
      refine r_goto (tgt := 74) g dX12_none_70 rfl ?_
      refine r_ior (pc' := 75) g dX12_none_74 rfl ?_
      refine r_ltI (fun x8 => ?_)
      refine r_istore (pc' := 77) (L' := [rf w 0, .int p1, .int p2, .null, .int x8, .int s.2, .null]) g dX12_none_75 rfl n4 rfl rfl ?_
      refine r_iinc (pc' := 80) (b := 1) (L' := [rf w 0, .int p1, .int p2, .null, .int x8, .int (s.2 + 1), .null]) g dX12_none_77 rfl rfl rfl n5 rfl rfl ?_
      refine r_goto (tgt := 47) g dX12_none_80 rfl ?_
      exact r_weak (Ls2 (Ls2 (Ls2 (Ls1 (Ls2 (Ls2 (Ls1 Ls0))))))) (hr (x8, s.2 + 1) M)
set_option maxHeartbeats 4000000 in
set_option maxRecDepth 100000 in
theorem s_X12_none_95 {w : W0} {Z : Zx} (g : Good KM w Z cX12_none RX12 6) (e2 : Z.2.2.1 = 7) (e3 : Z.2.2.2 = (some .int)) (N : Nat) (p1 : Int32) (p2 : Int32) (p4 : Int32) (p5 : Int32) (G : Unit → Mm → Rs) (kG : ∀ (x : Unit) (M : Mm), Sim KM w Z 151 [rf w 0, .int p1, .int p2, .null, .int p4, .int p5, .null] [] M (G x M)) : ∀ (n : Nat) (s : Int32) (M : Mm), Sim KM w Z 95 [rf w 0, .int p1, .int p2, .null, .int p4, .int p5, .int s] [] M (itr (B_X12_none_95 N p1 p2 p4 p5 G) n s M) := by
  have n6 : 6 < Z.2.2.1 := by rw [e2]; decide
  refine r_itr (Lf := fun (s : Int32) => [rf w 0, .int p1, .int p2, .null, .int p4, .int p5, .int s]) (fun rec hr s M => ?_)
  unfold B_X12_none_95
  refine r_iload (pc' := 97) g dX12_none_95 rfl rfl ?_
  refine r_ldcw (pc' := 100) g dX12_none_97 rfl kc_X12_326 ?_
  refine r_cge (pc' := 103) (tgt := 151) g dX12_none_100 rfl rfl ?_ ?_
  · skip
    exact r_weak (Ls2 (Ls2 (Ls2 (Ls1 (Ls2 (Ls2 (Ls1 Ls0))))))) (kG () M)
  · skip
    refine r_iload (pc' := 105) g dX12_none_103 rfl rfl ?_
    refine r_iload (pc' := 107) g dX12_none_105 rfl rfl ?_
    refine r_iconst (pc' := 108) (v := -1) g dX12_none_107 rfl rfl ?_
    refine r_ixor (pc' := 109) g dX12_none_108 rfl ?_
    refine r_iand (pc' := 110) g dX12_none_109 rfl ?_
    refine r_ifne (pc' := 113) (tgt := 145) g dX12_none_110 rfl rfl ?_ ?_
    · skip
      refine r_iinc (pc' := 148) (b := 1) (L' := [rf w 0, .int p1, .int p2, .null, .int p4, .int p5, .int (s + 1)]) g dX12_none_145 rfl rfl rfl n6 rfl rfl ?_
      refine r_goto (tgt := 95) g dX12_none_148 rfl ?_
      exact r_weak (Ls2 (Ls2 (Ls2 (Ls1 (Ls2 (Ls2 (Ls2 Ls0))))))) (hr (s + 1) M)
    · skip
      refine r_iload (pc' := 115) g dX12_none_113 rfl rfl ?_
      refine r_callSi (pc' := 118) (As := [.int s]) (rest := []) g dX12_none_115 rfl ml_X12_213 mw_X12_bits ms_X12_bits (Nat.le_of_ble_eq_true rfl) (c_X12_bits _ w N s M) rfl rfl (Nat.le_of_ble_eq_true rfl) (fun r11 M12 => ?_)
      refine r_iload (pc' := 120) g dX12_none_118 rfl rfl ?_
      refine r_cne (pc' := 123) (tgt := 145) g dX12_none_120 rfl rfl ?_ ?_
      · skip
        refine r_iinc (pc' := 148) (b := 1) (L' := [rf w 0, .int p1, .int p2, .null, .int p4, .int p5, .int (s + 1)]) g dX12_none_145 rfl rfl rfl n6 rfl rfl ?_
        refine r_goto (tgt := 95) g dX12_none_148 rfl ?_
        exact r_weak (Ls2 (Ls2 (Ls2 (Ls1 (Ls2 (Ls2 (Ls2 Ls0))))))) (hr (s + 1) M12)
      · skip
        refine r_aload_n (pc' := 124) g dX12_none_123 rfl rfl ?_
        refine r_iload (pc' := 126) g dX12_none_124 rfl rfl ?_
        refine r_iload_n (pc' := 127) g dX12_none_126 rfl rfl ?_
        refine r_callVi (pc' := 130) (As := [.int s, .int p1]) (rest := []) g dX12_none_127 rfl ml_X12_327 mw_X12_isNoneFor mv_X12_isNoneFor (Nat.le_of_ble_eq_true rfl) (c_X12_isNoneFor _ w N s p1 M12) rfl lM_0 (eM_0 w _ _) rfl rfl (Nat.le_of_ble_eq_true rfl) (fun r13 M14 => ?_)
        refine r_ifeq (pc' := 133) (tgt := 145) g dX12_none_130 rfl rfl ?_ ?_
        · skip
          refine r_iinc (pc' := 148) (b := 1) (L' := [rf w 0, .int p1, .int p2, .null, .int p4, .int p5, .int (s + 1)]) g dX12_none_145 rfl rfl rfl n6 rfl rfl ?_
          refine r_goto (tgt := 95) g dX12_none_148 rfl ?_
          exact r_weak (Ls2 (Ls2 (Ls2 (Ls1 (Ls2 (Ls2 (Ls2 Ls0))))))) (hr (s + 1) M14)
        · skip
          refine r_iload_n (pc' := 134) g dX12_none_133 rfl rfl ?_
          refine r_ifne (pc' := 137) (tgt := 142) g dX12_none_134 rfl rfl ?_ ?_
          · skip
            refine r_iload (pc' := 144) g dX12_none_142 rfl rfl ?_
            exact r_iret g e3 dX12_none_144
          · skip
            refine r_iload (pc' := 139) g dX12_none_137 rfl rfl ?_
            refine r_goto (tgt := 144) g dX12_none_139 rfl ?_
            exact r_iret g e3 dX12_none_144
set_option maxHeartbeats 4000000 in
set_option maxRecDepth 100000 in
theorem s_X12_none_86 {w : W0} {Z : Zx} (g : Good KM w Z cX12_none RX12 6) (e2 : Z.2.2.1 = 7) (e3 : Z.2.2.2 = (some .int)) (N : Nat) (p1 : Int32) (p2 : Int32) (p4 : Int32) (G : Unit → Mm → Rs) (kG : ∀ (x : Unit) (M : Mm), Sim KM w Z 157 [.null, .null, .null, .null, .null, .null, .null] [] M (G x M)) : ∀ (n : Nat) (s : Int32) (M : Mm), Sim KM w Z 86 [rf w 0, .int p1, .int p2, .null, .int p4, .int s, .null] [] M (itr (B_X12_none_86 N p1 p2 p4 G) n s M) := by
  have n5 : 5 < Z.2.2.1 := by rw [e2]; decide
  have n6 : 6 < Z.2.2.1 := by rw [e2]; decide
  refine r_itr (Lf := fun (s : Int32) => [rf w 0, .int p1, .int p2, .null, .int p4, .int s, .null]) (fun rec hr s M => ?_)
  unfold B_X12_none_86
  refine r_iload (pc' := 88) g dX12_none_86 rfl rfl ?_
  refine r_iconst (pc' := 89) (v := 4) g dX12_none_88 rfl rfl ?_
  refine r_cge (pc' := 92) (tgt := 157) g dX12_none_89 rfl rfl ?_ ?_
  · skip
    exact r_weak (Ls1 (Ls1 (Ls1 (Ls1 (Ls1 (Ls1 (Ls1 Ls0))))))) (kG () M)
  · skip
    refine r_iconst (pc' := 93) (v := 1) g dX12_none_92 rfl rfl ?_
    refine r_istore (pc' := 95) (L' := [rf w 0, .int p1, .int p2, .null, .int p4, .int s, .int 1]) g dX12_none_93 rfl n6 rfl rfl ?_
    refine r_weak (Ls2 (Ls2 (Ls2 (Ls1 (Ls2 (Ls2 (Ls2 Ls0))))))) (s_X12_none_95 g e2 e3 N p1 p2 p4 s _ (fun z15 M16 => ?_) N 1 M)
    refine r_iinc (pc' := 154) (b := 1) (L' := [rf w 0, .int p1, .int p2, .null, .int p4, .int (s + 1), .null]) g dX12_none_151 rfl rfl rfl n5 rfl rfl ?_
    refine r_goto (tgt := 86) g dX12_none_154 rfl ?_
    exact r_weak (Ls2 (Ls2 (Ls2 (Ls1 (Ls2 (Ls2 (Ls1 Ls0))))))) (hr (s + 1) M16)
set_option maxHeartbeats 4000000 in
set_option maxRecDepth 100000 in
theorem c_X12_none (l : Launch) (w : W0) (N : Nat) (a1 : Int32) (a2 : Int32) (M : Mm) : Ct l KM w 6 yX12_none cX12_none 7 (some .int) [rf w 0, .int a1, .int a2] M (f_X12_none N a1 a2 M) := by
  refine ct_of [rf w 0, .int a1, .int a2, .null, .null, .null, .null] (by decide) (Nat.le_of_ble_eq_true rfl) rfl (fun Z e1 e2 e3 g => ?_)
  have g : Good KM w Z cX12_none RX12 6 := g
  unfold f_X12_none
  have n3 : 3 < Z.2.2.1 := by rw [e2]; decide
  have n4 : 4 < Z.2.2.1 := by rw [e2]; decide
  have n5 : 5 < Z.2.2.1 := by rw [e2]; decide
  refine r_iload_n (pc' := 1) g dX12_none_0 rfl rfl ?_
  refine r_i2l (pc' := 2) g dX12_none_1 rfl ?_
  refine r_lconst (pc' := 3) (v := 0) g dX12_none_2 rfl rfl ?_
  refine r_lconst (pc' := 4) (v := 1) g dX12_none_3 rfl rfl ?_
  refine r_callSi (pc' := 7) (As := [.long a2.toInt64, .long 0, .long 1]) (rest := []) g dX12_none_4 rfl ml_X12_109 mw_X12_isIn ms_X12_isIn (Nat.le_of_ble_eq_true rfl) (c_X12_isIn _ w N a2.toInt64 0 1 M) rfl rfl (Nat.le_of_ble_eq_true rfl) (fun r1 M2 => ?_)
  refine r_ifne (pc' := 10) (tgt := 17) g dX12_none_7 rfl rfl ?_ ?_
  · skip
    refine r_iload_n (pc' := 18) g dX12_none_17 rfl rfl ?_
    refine r_i2l (pc' := 19) g dX12_none_18 rfl ?_
    refine r_lconst (pc' := 20) (v := 0) g dX12_none_19 rfl rfl ?_
    refine r_ldc2 (pc' := 23) g dX12_none_20 rfl kc_X12_324 ?_
    refine r_callSi (pc' := 26) (As := [.long a1.toInt64, .long 0, .long 99999]) (rest := []) g dX12_none_23 rfl ml_X12_137 mw_X12_outOf ms_X12_outOf (Nat.le_of_ble_eq_true rfl) (c_X12_outOf _ w N a1.toInt64 0 99999 M2) rfl rfl (Nat.le_of_ble_eq_true rfl) (fun r3 M4 => ?_)
    refine r_istore_n (pc' := 27) (L' := [rf w 0, .int a1, .int a2, .int r3, .null, .null, .null]) g dX12_none_26 rfl n3 rfl rfl ?_
    refine r_iload_n (pc' := 28) g dX12_none_27 rfl rfl ?_
    refine r_ifeq (pc' := 31) (tgt := 37) g dX12_none_28 rfl rfl ?_ ?_
    · skip
      refine r_aload_n (pc' := 38) g dX12_none_37 rfl rfl ?_
      refine r_callVv (pc' := 41) (As := []) (rest := []) g dX12_none_38 rfl ml_X12_282 mw_X12_finds mv_X12_finds (Nat.le_of_ble_eq_true rfl) (c_X12_finds _ w N  M4) rfl lM_0 (eM_0 w _ _) rfl rfl (Nat.le_of_ble_eq_true rfl) (fun r5 M6 => ?_)
      refine r_iconst (pc' := 42) (v := 0) g dX12_none_41 rfl rfl ?_
      refine r_istore (pc' := 44) (L' := [rf w 0, .int a1, .int a2, .int r3, .int 0, .null, .null]) g dX12_none_42 rfl n4 rfl rfl ?_
      refine r_iconst (pc' := 45) (v := 0) g dX12_none_44 rfl rfl ?_
      refine r_istore (pc' := 47) (L' := [rf w 0, .int a1, .int a2, .int r3, .int 0, .int 0, .null]) g dX12_none_45 rfl n5 rfl rfl ?_
      refine r_weak (Ls2 (Ls2 (Ls2 (Ls1 (Ls2 (Ls2 (Ls1 Ls0))))))) (s_X12_none_47 g e2 e3 N a1 a2 _ (fun z9 M10 => ?_) N (0, 0) M6)
      refine r_iconst (pc' := 84) (v := 1) g dX12_none_83 rfl rfl ?_
      refine r_istore (pc' := 86) (L' := [rf w 0, .int a1, .int a2, .null, .int z9, .int 1, .null]) g dX12_none_84 rfl n5 rfl rfl ?_
      refine r_weak (Ls2 (Ls2 (Ls2 (Ls1 (Ls2 (Ls2 (Ls1 Ls0))))))) (s_X12_none_86 g e2 e3 N a1 a2 z9 _ (fun z17 M18 => ?_) N 1 M10)
      refine r_bipush (pc' := 159) (v := -9) g dX12_none_157 rfl rfl ?_
      exact r_iret g e3 dX12_none_159
    · skip
      refine r_aload_n (pc' := 32) g dX12_none_31 rfl rfl ?_
      refine r_iload_n (pc' := 33) g dX12_none_32 rfl rfl ?_
      refine r_callVi (pc' := 36) (As := [.int r3]) (rest := []) g dX12_none_33 rfl ml_X12_113 mw_X12_no mv_X12_no (Nat.le_of_ble_eq_true rfl) (c_X12_no _ w N r3 M4) rfl lM_0 (eM_0 w _ _) rfl rfl (Nat.le_of_ble_eq_true rfl) (fun r19 M20 => ?_)
      exact r_iret g e3 dX12_none_36
  · skip
    refine r_aload_n (pc' := 11) g dX12_none_10 rfl rfl ?_
    refine r_bipush (pc' := 13) (v := -2) g dX12_none_11 rfl rfl ?_
    refine r_callVi (pc' := 16) (As := [.int (-2)]) (rest := []) g dX12_none_13 rfl ml_X12_113 mw_X12_no mv_X12_no (Nat.le_of_ble_eq_true rfl) (c_X12_no _ w N (-2) M2) rfl lM_0 (eM_0 w _ _) rfl rfl (Nat.le_of_ble_eq_true rfl) (fun r21 M22 => ?_)
    exact r_iret g e3 dX12_none_16
def f_X12_year (N : Nat) (a1 : Int32) (M : Mm) : Rs :=
  bd (f_X12_isWorld N a1 M) fun r1 M2 =>
  (if r1 = 0 then
    (bd (f_X12_no N (-1) M2) fun r7 M8 =>
    (some (r7, M8)))
  else
    (if (M2.1 0 39) = 60 then
      (bd (f_X12_no N (-6) M2) fun r5 M6 =>
      (some (r5, M6)))
    else
      (if inb (M2.1 0 39) 60 then
      (lt' (wI M2 24 (ix (M2.1 0 39)) a1) fun M3 =>
      (lt' (wI M3 0 39 ((M3.1 0 39) + 1)) fun M4 =>
      (some (M4.1 0 39, M4)))) else none)))

set_option maxHeartbeats 4000000 in
set_option maxRecDepth 100000 in
theorem c_X12_year (l : Launch) (w : W0) (N : Nat) (a1 : Int32) (M : Mm) : Ct l KM w 2 yX12_year cX12_year 2 (some .int) [rf w 0, .int a1] M (f_X12_year N a1 M) := by
  refine ct_of [rf w 0, .int a1] (by decide) (Nat.le_of_ble_eq_true rfl) rfl (fun Z e1 e2 e3 g => ?_)
  have g : Good KM w Z cX12_year RX12 2 := g
  unfold f_X12_year
  refine r_aload_n (pc' := 1) g dX12_year_0 rfl rfl ?_
  refine r_iload_n (pc' := 2) g dX12_year_1 rfl rfl ?_
  refine r_callVi (pc' := 5) (As := [.int a1]) (rest := []) g dX12_year_2 rfl ml_X12_264 mw_X12_isWorld mv_X12_isWorld (Nat.le_of_ble_eq_true rfl) (c_X12_isWorld _ w N a1 M) rfl lM_0 (eM_0 w _ _) rfl rfl (Nat.le_of_ble_eq_true rfl) (fun r1 M2 => ?_)
  refine r_ifne (pc' := 8) (tgt := 14) g dX12_year_5 rfl rfl ?_ ?_
  · skip
    refine r_aload_n (pc' := 15) g dX12_year_14 rfl rfl ?_
    refine r_get (pc' := 18) g dX12_year_15 rfl fl_X12_330 lM_0 (eM_0 w _ _) rfl ?_
    refine r_bipush (pc' := 20) (v := 60) g dX12_year_18 rfl rfl ?_
    refine r_cne (pc' := 23) (tgt := 30) g dX12_year_20 rfl rfl ?_ ?_
    · skip
      refine r_aload_n (pc' := 31) g dX12_year_30 rfl rfl ?_
      refine r_get (pc' := 34) g dX12_year_31 rfl fl_X12_80 lM_0 (eM_0 w _ _) rfl ?_
      refine r_aload_n (pc' := 35) g dX12_year_34 rfl rfl ?_
      refine r_get (pc' := 38) g dX12_year_35 rfl fl_X12_330 lM_0 (eM_0 w _ _) rfl ?_
      refine r_iload_n (pc' := 39) g dX12_year_38 rfl rfl ?_
      refine r_iast (pc' := 40) g dX12_year_39 rfl lM_24 (fun m => eM_24 w m _) ?_
      refine r_ltM (fun M3 => ?_)
      refine r_aload_n (pc' := 41) g dX12_year_40 rfl rfl ?_
      refine r_dupa (pc' := 42) g dX12_year_41 rfl ?_
      refine r_get (pc' := 45) g dX12_year_42 rfl fl_X12_330 lM_0 (eM_0 w _ _) rfl ?_
      refine r_iconst (pc' := 46) (v := 1) g dX12_year_45 rfl rfl ?_
      refine r_iadd (pc' := 47) g dX12_year_46 rfl ?_
      refine r_put (pc' := 50) g dX12_year_47 rfl fl_X12_330 rfl lM_0 (eM_0 w _ _) (Nat.le_of_ble_eq_true rfl) (sM_0_39 w _ _ _) ?_
      refine r_ltM (fun M4 => ?_)
      refine r_aload_n (pc' := 51) g dX12_year_50 rfl rfl ?_
      refine r_get (pc' := 54) g dX12_year_51 rfl fl_X12_330 lM_0 (eM_0 w _ _) rfl ?_
      exact r_iret g e3 dX12_year_54
    · skip
      refine r_aload_n (pc' := 24) g dX12_year_23 rfl rfl ?_
      refine r_bipush (pc' := 26) (v := -6) g dX12_year_24 rfl rfl ?_
      refine r_callVi (pc' := 29) (As := [.int (-6)]) (rest := []) g dX12_year_26 rfl ml_X12_113 mw_X12_no mv_X12_no (Nat.le_of_ble_eq_true rfl) (c_X12_no _ w N (-6) M2) rfl lM_0 (eM_0 w _ _) rfl rfl (Nat.le_of_ble_eq_true rfl) (fun r5 M6 => ?_)
      exact r_iret g e3 dX12_year_29
  · skip
    refine r_aload_n (pc' := 9) g dX12_year_8 rfl rfl ?_
    refine r_iconst (pc' := 10) (v := -1) g dX12_year_9 rfl rfl ?_
    refine r_callVi (pc' := 13) (As := [.int (-1)]) (rest := []) g dX12_year_10 rfl ml_X12_113 mw_X12_no mv_X12_no (Nat.le_of_ble_eq_true rfl) (c_X12_no _ w N (-1) M2) rfl lM_0 (eM_0 w _ _) rfl rfl (Nat.le_of_ble_eq_true rfl) (fun r7 M8 => ?_)
    exact r_iret g e3 dX12_year_13
def B_X12_out_8 (N : Nat) (G : Int32 → Mm → Rs) (rec : (Int32 × Int32) → Mm → Rs) (s : Int32 × Int32) (M : Mm) : Rs :=
  if s.2 < (M.1 0 39) then
      (if inb s.2 60 then
      (if inb (M.1 24 (ix s.2)) 16 then
      (if (M.1 19 (ix (M.1 24 (ix s.2)))) = 0 then
        (lt' (s.1 + 1) fun x3 =>
        (rec (x3, s.2 + 1) M))
      else
        (lt' (s.1 + 0) fun x4 =>
        (rec (x4, s.2 + 1) M))) else none) else none)
    else
      (G s.1 M)

def f_X12_out (N : Nat) (M : Mm) : Rs :=
  bd (f_X12_finds N  M) fun r1 M2 =>
  (itr (B_X12_out_8 N fun z5 M6 =>
  (some (z5, M6))) N (0, 0) M2)

set_option maxHeartbeats 4000000 in
set_option maxRecDepth 100000 in
theorem s_X12_out_8 {w : W0} {Z : Zx} (g : Good KM w Z cX12_out RX12 6) (e2 : Z.2.2.1 = 3) (e3 : Z.2.2.2 = (some .int)) (N : Nat) (G : Int32 → Mm → Rs) (kG : ∀ (x : Int32) (M : Mm), Sim KM w Z 44 [.null, .int x, .null] [] M (G x M)) : ∀ (n : Nat) (s : Int32 × Int32) (M : Mm), Sim KM w Z 8 [rf w 0, .int s.1, .int s.2] [] M (itr (B_X12_out_8 N G) n s M) := by
  have n1 : 1 < Z.2.2.1 := by rw [e2]; decide
  have n2 : 2 < Z.2.2.1 := by rw [e2]; decide
  refine r_itr (Lf := fun (s : Int32 × Int32) => [rf w 0, .int s.1, .int s.2]) (fun rec hr s M => ?_)
  unfold B_X12_out_8
  refine r_iload_n (pc' := 9) g dX12_out_8 rfl rfl ?_
  refine r_aload_n (pc' := 10) g dX12_out_9 rfl rfl ?_
  refine r_get (pc' := 13) g dX12_out_10 rfl fl_X12_330 lM_0 (eM_0 w _ _) rfl ?_
  refine r_cge (pc' := 16) (tgt := 44) g dX12_out_13 rfl rfl ?_ ?_
  · skip
    exact r_weak (Ls1 (Ls2 (Ls1 Ls0))) (kG s.1 M)
  · skip
    refine r_iload_n (pc' := 17) g dX12_out_16 rfl rfl ?_
    refine r_aload_n (pc' := 18) g dX12_out_17 rfl rfl ?_
    refine r_get (pc' := 21) g dX12_out_18 rfl fl_X12_65 lM_0 (eM_0 w _ _) rfl ?_
    refine r_aload_n (pc' := 22) g dX12_out_21 rfl rfl ?_
    refine r_get (pc' := 25) g dX12_out_22 rfl fl_X12_80 lM_0 (eM_0 w _ _) rfl ?_
    refine r_iload_n (pc' := 26) g dX12_out_25 rfl rfl ?_
    refine r_iald (pc' := 27) g dX12_out_26 rfl lM_24 (eM_24 w _ _) ?_
    refine r_zald (pc' := 28) g dX12_out_27 rfl lM_19 (eM_19 w _ _) ?_
    refine r_ifeq (pc' := 31) (tgt := 35) g dX12_out_28 rfl rfl ?_ ?_
    · skip
      refine r_iconst (pc' := 36) (v := 1) g dX12_out_35 rfl rfl ?_
      refine r_iadd (pc' := 37) g dX12_out_36 rfl ?_
      refine r_ltI (fun x3 => ?_)
      refine r_istore_n (pc' := 38) (L' := [rf w 0, .int x3, .int s.2]) g dX12_out_37 rfl n1 rfl rfl ?_
      refine r_iinc (pc' := 41) (b := 1) (L' := [rf w 0, .int x3, .int (s.2 + 1)]) g dX12_out_38 rfl rfl rfl n2 rfl rfl ?_
      refine r_goto (tgt := 8) g dX12_out_41 rfl ?_
      exact r_weak (Ls2 (Ls2 (Ls2 Ls0))) (hr (x3, s.2 + 1) M)
    · skip
      refine r_iconst (pc' := 32) (v := 0) g dX12_out_31 rfl rfl ?_
      refine r_goto (tgt := 36) g dX12_out_32 rfl ?_
      refine r_iadd (pc' := 37) g dX12_out_36 rfl ?_
      refine r_ltI (fun x4 => ?_)
      refine r_istore_n (pc' := 38) (L' := [rf w 0, .int x4, .int s.2]) g dX12_out_37 rfl n1 rfl rfl ?_
      refine r_iinc (pc' := 41) (b := 1) (L' := [rf w 0, .int x4, .int (s.2 + 1)]) g dX12_out_38 rfl rfl rfl n2 rfl rfl ?_
      refine r_goto (tgt := 8) g dX12_out_41 rfl ?_
      exact r_weak (Ls2 (Ls2 (Ls2 Ls0))) (hr (x4, s.2 + 1) M)
set_option maxHeartbeats 4000000 in
set_option maxRecDepth 100000 in
theorem c_X12_out (l : Launch) (w : W0) (N : Nat) (M : Mm) : Ct l KM w 6 yX12_out cX12_out 3 (some .int) [rf w 0] M (f_X12_out N M) := by
  refine ct_of [rf w 0, .null, .null] (by decide) (Nat.le_of_ble_eq_true rfl) rfl (fun Z e1 e2 e3 g => ?_)
  have g : Good KM w Z cX12_out RX12 6 := g
  unfold f_X12_out
  have n1 : 1 < Z.2.2.1 := by rw [e2]; decide
  have n2 : 2 < Z.2.2.1 := by rw [e2]; decide
  refine r_aload_n (pc' := 1) g dX12_out_0 rfl rfl ?_
  refine r_callVv (pc' := 4) (As := []) (rest := []) g dX12_out_1 rfl ml_X12_282 mw_X12_finds mv_X12_finds (Nat.le_of_ble_eq_true rfl) (c_X12_finds _ w N  M) rfl lM_0 (eM_0 w _ _) rfl rfl (Nat.le_of_ble_eq_true rfl) (fun r1 M2 => ?_)
  refine r_iconst (pc' := 5) (v := 0) g dX12_out_4 rfl rfl ?_
  refine r_istore_n (pc' := 6) (L' := [rf w 0, .int 0, .null]) g dX12_out_5 rfl n1 rfl rfl ?_
  refine r_iconst (pc' := 7) (v := 0) g dX12_out_6 rfl rfl ?_
  refine r_istore_n (pc' := 8) (L' := [rf w 0, .int 0, .int 0]) g dX12_out_7 rfl n2 rfl rfl ?_
  refine r_weak (Ls2 (Ls2 (Ls2 Ls0))) (s_X12_out_8 g e2 e3 N _ (fun z5 M6 => ?_) N (0, 0) M2)
  refine r_iload_n (pc' := 45) g dX12_out_44 rfl rfl ?_
  exact r_iret g e3 dX12_out_45
def B_X12_dearYears_40 (N : Nat) (p1 : Int32) (p2 : Int32) (G : Int32 → Mm → Rs) (rec : (Int32 × Int32) → Mm → Rs) (s : Int32 × Int32) (M : Mm) : Rs :=
  if s.2 < (M.1 0 39) then
      (if inb s.2 60 then
      (if inb ((16 * p1) + (M.1 24 (ix s.2))) 4096 then
      (if p2 < (M.1 18 (ix ((16 * p1) + (M.1 24 (ix s.2))))) then
        (lt' (s.1 + 1) fun x8 =>
        (rec (x8, s.2 + 1) M))
      else
        (lt' (s.1 + 0) fun x7 =>
        (rec (x7, s.2 + 1) M))) else none) else none)
    else
      (G s.1 M)

def f_X12_dearYears (N : Nat) (a1 : Int32) (M : Mm) : Rs :=
  bd (f_X12_isPlan N a1 M) fun r1 M2 =>
  (if r1 = 0 then
    (bd (f_X12_no N (-1) M2) fun r11 M12 =>
    (some (r11, M12)))
  else
    (bd (f_X12_finds N  M2) fun r3 M4 =>
    (bd (f_X12_worstOf N a1 0 0 M4) fun r5 M6 =>
    (if r5 = (-9) then
      (some ((-9), M6))
    else
      (itr (B_X12_dearYears_40 N a1 r5 fun z9 M10 =>
      (some (z9, M10))) N (0, 0) M6)))))

set_option maxHeartbeats 4000000 in
set_option maxRecDepth 100000 in
theorem s_X12_dearYears_40 {w : W0} {Z : Zx} (g : Good KM w Z cX12_dearYears RX12 6) (e2 : Z.2.2.1 = 5) (e3 : Z.2.2.2 = (some .int)) (N : Nat) (p1 : Int32) (p2 : Int32) (G : Int32 → Mm → Rs) (kG : ∀ (x : Int32) (M : Mm), Sim KM w Z 84 [.null, .null, .null, .int x, .null] [] M (G x M)) : ∀ (n : Nat) (s : Int32 × Int32) (M : Mm), Sim KM w Z 40 [rf w 0, .int p1, .int p2, .int s.1, .int s.2] [] M (itr (B_X12_dearYears_40 N p1 p2 G) n s M) := by
  have n3 : 3 < Z.2.2.1 := by rw [e2]; decide
  have n4 : 4 < Z.2.2.1 := by rw [e2]; decide
  refine r_itr (Lf := fun (s : Int32 × Int32) => [rf w 0, .int p1, .int p2, .int s.1, .int s.2]) (fun rec hr s M => ?_)
  unfold B_X12_dearYears_40
  refine r_iload (pc' := 42) g dX12_dearYears_40 rfl rfl ?_
  refine r_aload_n (pc' := 43) g dX12_dearYears_42 rfl rfl ?_
  refine r_get (pc' := 46) g dX12_dearYears_43 rfl fl_X12_330 lM_0 (eM_0 w _ _) rfl ?_
  refine r_cge (pc' := 49) (tgt := 84) g dX12_dearYears_46 rfl rfl ?_ ?_
  · skip
    exact r_weak (Ls1 (Ls1 (Ls1 (Ls2 (Ls1 Ls0))))) (kG s.1 M)
  · skip
    refine r_iload_n (pc' := 50) g dX12_dearYears_49 rfl rfl ?_
    refine r_aload_n (pc' := 51) g dX12_dearYears_50 rfl rfl ?_
    refine r_get (pc' := 54) g dX12_dearYears_51 rfl fl_X12_62 lM_0 (eM_0 w _ _) rfl ?_
    refine r_bipush (pc' := 56) (v := 16) g dX12_dearYears_54 rfl rfl ?_
    refine r_iload_n (pc' := 57) g dX12_dearYears_56 rfl rfl ?_
    refine r_imul (pc' := 58) g dX12_dearYears_57 rfl ?_
    refine r_aload_n (pc' := 59) g dX12_dearYears_58 rfl rfl ?_
    refine r_get (pc' := 62) g dX12_dearYears_59 rfl fl_X12_80 lM_0 (eM_0 w _ _) rfl ?_
    refine r_iload (pc' := 64) g dX12_dearYears_62 rfl rfl ?_
    refine r_iald (pc' := 65) g dX12_dearYears_64 rfl lM_24 (eM_24 w _ _) ?_
    refine r_iadd (pc' := 66) g dX12_dearYears_65 rfl ?_
    refine r_iald (pc' := 67) g dX12_dearYears_66 rfl lM_18 (eM_18 w _ _) ?_
    refine r_iload_n (pc' := 68) g dX12_dearYears_67 rfl rfl ?_
    refine r_cle (pc' := 71) (tgt := 75) g dX12_dearYears_68 rfl rfl ?_ ?_
    · skip
      refine r_iconst (pc' := 76) (v := 0) g dX12_dearYears_75 rfl rfl ?_
      refine r_iadd (pc' := 77) g dX12_dearYears_76 rfl ?_
      refine r_ltI (fun x7 => ?_)
      refine r_istore_n (pc' := 78) (L' := [rf w 0, .int p1, .int p2, .int x7, .int s.2]) g dX12_dearYears_77 rfl n3 rfl rfl ?_
      refine r_iinc (pc' := 81) (b := 1) (L' := [rf w 0, .int p1, .int p2, .int x7, .int (s.2 + 1)]) g dX12_dearYears_78 rfl rfl rfl n4 rfl rfl ?_
      refine r_goto (tgt := 40) g dX12_dearYears_81 rfl ?_
      exact r_weak (Ls2 (Ls2 (Ls2 (Ls2 (Ls2 Ls0))))) (hr (x7, s.2 + 1) M)
    · skip
      refine r_iconst (pc' := 72) (v := 1) g dX12_dearYears_71 rfl rfl ?_
      refine r_goto (tgt := 76) g dX12_dearYears_72 rfl ?_
      refine r_iadd (pc' := 77) g dX12_dearYears_76 rfl ?_
      refine r_ltI (fun x8 => ?_)
      refine r_istore_n (pc' := 78) (L' := [rf w 0, .int p1, .int p2, .int x8, .int s.2]) g dX12_dearYears_77 rfl n3 rfl rfl ?_
      refine r_iinc (pc' := 81) (b := 1) (L' := [rf w 0, .int p1, .int p2, .int x8, .int (s.2 + 1)]) g dX12_dearYears_78 rfl rfl rfl n4 rfl rfl ?_
      refine r_goto (tgt := 40) g dX12_dearYears_81 rfl ?_
      exact r_weak (Ls2 (Ls2 (Ls2 (Ls2 (Ls2 Ls0))))) (hr (x8, s.2 + 1) M)
set_option maxHeartbeats 4000000 in
set_option maxRecDepth 100000 in
theorem c_X12_dearYears (l : Launch) (w : W0) (N : Nat) (a1 : Int32) (M : Mm) : Ct l KM w 6 yX12_dearYears cX12_dearYears 5 (some .int) [rf w 0, .int a1] M (f_X12_dearYears N a1 M) := by
  refine ct_of [rf w 0, .int a1, .null, .null, .null] (by decide) (Nat.le_of_ble_eq_true rfl) rfl (fun Z e1 e2 e3 g => ?_)
  have g : Good KM w Z cX12_dearYears RX12 6 := g
  unfold f_X12_dearYears
  have n2 : 2 < Z.2.2.1 := by rw [e2]; decide
  have n3 : 3 < Z.2.2.1 := by rw [e2]; decide
  have n4 : 4 < Z.2.2.1 := by rw [e2]; decide
  refine r_aload_n (pc' := 1) g dX12_dearYears_0 rfl rfl ?_
  refine r_iload_n (pc' := 2) g dX12_dearYears_1 rfl rfl ?_
  refine r_callVi (pc' := 5) (As := [.int a1]) (rest := []) g dX12_dearYears_2 rfl ml_X12_270 mw_X12_isPlan mv_X12_isPlan (Nat.le_of_ble_eq_true rfl) (c_X12_isPlan _ w N a1 M) rfl lM_0 (eM_0 w _ _) rfl rfl (Nat.le_of_ble_eq_true rfl) (fun r1 M2 => ?_)
  refine r_ifne (pc' := 8) (tgt := 14) g dX12_dearYears_5 rfl rfl ?_ ?_
  · skip
    refine r_aload_n (pc' := 15) g dX12_dearYears_14 rfl rfl ?_
    refine r_callVv (pc' := 18) (As := []) (rest := []) g dX12_dearYears_15 rfl ml_X12_282 mw_X12_finds mv_X12_finds (Nat.le_of_ble_eq_true rfl) (c_X12_finds _ w N  M2) rfl lM_0 (eM_0 w _ _) rfl rfl (Nat.le_of_ble_eq_true rfl) (fun r3 M4 => ?_)
    refine r_aload_n (pc' := 19) g dX12_dearYears_18 rfl rfl ?_
    refine r_iload_n (pc' := 20) g dX12_dearYears_19 rfl rfl ?_
    refine r_iconst (pc' := 21) (v := 0) g dX12_dearYears_20 rfl rfl ?_
    refine r_iconst (pc' := 22) (v := 0) g dX12_dearYears_21 rfl rfl ?_
    refine r_callVi (pc' := 25) (As := [.int a1, .int 0, .int 0]) (rest := []) g dX12_dearYears_22 rfl ml_X12_288 mw_X12_worstOf mv_X12_worstOf (Nat.le_of_ble_eq_true rfl) (c_X12_worstOf _ w N a1 0 0 M4) rfl lM_0 (eM_0 w _ _) rfl rfl (Nat.le_of_ble_eq_true rfl) (fun r5 M6 => ?_)
    refine r_istore_n (pc' := 26) (L' := [rf w 0, .int a1, .int r5, .null, .null]) g dX12_dearYears_25 rfl n2 rfl rfl ?_
    refine r_iload_n (pc' := 27) g dX12_dearYears_26 rfl rfl ?_
    refine r_bipush (pc' := 29) (v := -9) g dX12_dearYears_27 rfl rfl ?_
    refine r_cne (pc' := 32) (tgt := 35) g dX12_dearYears_29 rfl rfl ?_ ?_
    · skip
      refine r_iconst (pc' := 36) (v := 0) g dX12_dearYears_35 rfl rfl ?_
      refine r_istore_n (pc' := 37) (L' := [rf w 0, .int a1, .int r5, .int 0, .null]) g dX12_dearYears_36 rfl n3 rfl rfl ?_
      refine r_iconst (pc' := 38) (v := 0) g dX12_dearYears_37 rfl rfl ?_
      refine r_istore (pc' := 40) (L' := [rf w 0, .int a1, .int r5, .int 0, .int 0]) g dX12_dearYears_38 rfl n4 rfl rfl ?_
      refine r_weak (Ls2 (Ls2 (Ls2 (Ls2 (Ls2 Ls0))))) (s_X12_dearYears_40 g e2 e3 N a1 r5 _ (fun z9 M10 => ?_) N (0, 0) M6)
      refine r_iload_n (pc' := 85) g dX12_dearYears_84 rfl rfl ?_
      exact r_iret g e3 dX12_dearYears_85
    · skip
      refine r_bipush (pc' := 34) (v := -9) g dX12_dearYears_32 rfl rfl ?_
      exact r_iret g e3 dX12_dearYears_34
  · skip
    refine r_aload_n (pc' := 9) g dX12_dearYears_8 rfl rfl ?_
    refine r_iconst (pc' := 10) (v := -1) g dX12_dearYears_9 rfl rfl ?_
    refine r_callVi (pc' := 13) (As := [.int (-1)]) (rest := []) g dX12_dearYears_10 rfl ml_X12_113 mw_X12_no mv_X12_no (Nat.le_of_ble_eq_true rfl) (c_X12_no _ w N (-1) M2) rfl lM_0 (eM_0 w _ _) rfl rfl (Nat.le_of_ble_eq_true rfl) (fun r11 M12 => ?_)
    exact r_iret g e3 dX12_dearYears_13
def B_X12_drawn_37 (N : Nat) (p1 : Int32) (p3 : Int32) (G : Int32 → Mm → Rs) (rec : (Int32 × Int32) → Mm → Rs) (s : Int32 × Int32) (M : Mm) : Rs :=
  if s.2 < (M.1 0 39) then
      (if inb s.2 60 then
      (if inb (M.1 24 (ix s.2)) 16 then
      (if (M.1 21 (ix (M.1 24 (ix s.2)))) = 0 then
        (lt' (s.1 + 0) fun x5 =>
        (rec (x5, s.2 + 1) M))
      else
        (if inb s.2 60 then
        (bd (f_X12_bits N (M.1 24 (ix s.2)) M) fun r6 M7 =>
        (if p3 < r6 then
          (lt' (s.1 + 0) fun x8 =>
          (rec (x8, s.2 + 1) M7))
        else
          (lt' (s.1 + 1) fun x9 =>
          (rec (x9, s.2 + 1) M7)))) else none)) else none) else none)
    else
      (G s.1 M)

def B_X12_drawn_26 (N : Nat) (p1 : Int32) (G : Unit → Mm → Rs) (rec : Int32 → Mm → Rs) (s : Int32) (M : Mm) : Rs :=
  if s < 5 then
      (itr (B_X12_drawn_37 N p1 s fun z10 M11 =>
      (if z10 < p1 then
        (rec (s + 1) M11)
      else
        (some (s, M11)))) N (0, 0) M)
    else
      (G () M)

def f_X12_drawn (N : Nat) (a1 : Int32) (M : Mm) : Rs :=
  bd (f_X12_outOf N a1.toInt64 0 60 M) fun r1 M2 =>
  (if r1 = 0 then
    (bd (f_X12_finds N  M2) fun r3 M4 =>
    (itr (B_X12_drawn_26 N a1 fun z12 M13 =>
    (some ((-9), M13))) N 0 M4))
  else
    (bd (f_X12_no N r1 M2) fun r14 M15 =>
    (some (r14, M15))))

set_option maxHeartbeats 4000000 in
set_option maxRecDepth 100000 in
theorem s_X12_drawn_37 {w : W0} {Z : Zx} (g : Good KM w Z cX12_drawn RX12 6) (e2 : Z.2.2.1 = 6) (e3 : Z.2.2.2 = (some .int)) (N : Nat) (p1 : Int32) (p3 : Int32) (G : Int32 → Mm → Rs) (kG : ∀ (x : Int32) (M : Mm), Sim KM w Z 91 [rf w 0, .int p1, .null, .int p3, .int x, .null] [] M (G x M)) : ∀ (n : Nat) (s : Int32 × Int32) (M : Mm), Sim KM w Z 37 [rf w 0, .int p1, .null, .int p3, .int s.1, .int s.2] [] M (itr (B_X12_drawn_37 N p1 p3 G) n s M) := by
  have n4 : 4 < Z.2.2.1 := by rw [e2]; decide
  have n5 : 5 < Z.2.2.1 := by rw [e2]; decide
  refine r_itr (Lf := fun (s : Int32 × Int32) => [rf w 0, .int p1, .null, .int p3, .int s.1, .int s.2]) (fun rec hr s M => ?_)
  unfold B_X12_drawn_37
  refine r_iload (pc' := 39) g dX12_drawn_37 rfl rfl ?_
  refine r_aload_n (pc' := 40) g dX12_drawn_39 rfl rfl ?_
  refine r_get (pc' := 43) g dX12_drawn_40 rfl fl_X12_330 lM_0 (eM_0 w _ _) rfl ?_
  refine r_cge (pc' := 46) (tgt := 91) g dX12_drawn_43 rfl rfl ?_ ?_
  · skip
    exact r_weak (Ls2 (Ls2 (Ls1 (Ls2 (Ls2 (Ls1 Ls0)))))) (kG s.1 M)
  · skip
    refine r_iload (pc' := 48) g dX12_drawn_46 rfl rfl ?_
    refine r_aload_n (pc' := 49) g dX12_drawn_48 rfl rfl ?_
    refine r_get (pc' := 52) g dX12_drawn_49 rfl fl_X12_71 lM_0 (eM_0 w _ _) rfl ?_
    refine r_aload_n (pc' := 53) g dX12_drawn_52 rfl rfl ?_
    refine r_get (pc' := 56) g dX12_drawn_53 rfl fl_X12_80 lM_0 (eM_0 w _ _) rfl ?_
    refine r_iload (pc' := 58) g dX12_drawn_56 rfl rfl ?_
    refine r_iald (pc' := 59) g dX12_drawn_58 rfl lM_24 (eM_24 w _ _) ?_
    refine r_zald (pc' := 60) g dX12_drawn_59 rfl lM_21 (eM_21 w _ _) ?_
    refine r_ifeq (pc' := 63) (tgt := 81) g dX12_drawn_60 rfl rfl ?_ ?_
    · skip
      refine r_iconst (pc' := 82) (v := 0) g dX12_drawn_81 rfl rfl ?_
      refine r_iadd (pc' := 83) g dX12_drawn_82 rfl ?_
      refine r_ltI (fun x5 => ?_)
      refine r_istore (pc' := 85) (L' := [rf w 0, .int p1, .null, .int p3, .int x5, .int s.2]) g dX12_drawn_83 rfl n4 rfl rfl ?_
      refine r_iinc (pc' := 88) (b := 1) (L' := [rf w 0, .int p1, .null, .int p3, .int x5, .int (s.2 + 1)]) g dX12_drawn_85 rfl rfl rfl n5 rfl rfl ?_
      refine r_goto (tgt := 37) g dX12_drawn_88 rfl ?_
      exact r_weak (Ls2 (Ls2 (Ls1 (Ls2 (Ls2 (Ls2 Ls0)))))) (hr (x5, s.2 + 1) M)
    · skip
      refine r_aload_n (pc' := 64) g dX12_drawn_63 rfl rfl ?_
      refine r_get (pc' := 67) g dX12_drawn_64 rfl fl_X12_80 lM_0 (eM_0 w _ _) rfl ?_
      refine r_iload (pc' := 69) g dX12_drawn_67 rfl rfl ?_
      refine r_iald (pc' := 70) g dX12_drawn_69 rfl lM_24 (eM_24 w _ _) ?_
      refine r_callSi (pc' := 73) (As := [.int (M.1 24 (ix s.2))]) (rest := [.int s.1]) g dX12_drawn_70 rfl ml_X12_213 mw_X12_bits ms_X12_bits (Nat.le_of_ble_eq_true rfl) (c_X12_bits _ w N (M.1 24 (ix s.2)) M) rfl rfl (Nat.le_of_ble_eq_true rfl) (fun r6 M7 => ?_)
      refine r_iload_n (pc' := 74) g dX12_drawn_73 rfl rfl ?_
      refine r_cgt (pc' := 77) (tgt := 81) g dX12_drawn_74 rfl rfl ?_ ?_
      · skip
        refine r_iconst (pc' := 82) (v := 0) g dX12_drawn_81 rfl rfl ?_
        refine r_iadd (pc' := 83) g dX12_drawn_82 rfl ?_
        refine r_ltI (fun x8 => ?_)
        refine r_istore (pc' := 85) (L' := [rf w 0, .int p1, .null, .int p3, .int x8, .int s.2]) g dX12_drawn_83 rfl n4 rfl rfl ?_
        refine r_iinc (pc' := 88) (b := 1) (L' := [rf w 0, .int p1, .null, .int p3, .int x8, .int (s.2 + 1)]) g dX12_drawn_85 rfl rfl rfl n5 rfl rfl ?_
        refine r_goto (tgt := 37) g dX12_drawn_88 rfl ?_
        exact r_weak (Ls2 (Ls2 (Ls1 (Ls2 (Ls2 (Ls2 Ls0)))))) (hr (x8, s.2 + 1) M7)
      · skip
        refine r_iconst (pc' := 78) (v := 1) g dX12_drawn_77 rfl rfl ?_
        refine r_goto (tgt := 82) g dX12_drawn_78 rfl ?_
        refine r_iadd (pc' := 83) g dX12_drawn_82 rfl ?_
        refine r_ltI (fun x9 => ?_)
        refine r_istore (pc' := 85) (L' := [rf w 0, .int p1, .null, .int p3, .int x9, .int s.2]) g dX12_drawn_83 rfl n4 rfl rfl ?_
        refine r_iinc (pc' := 88) (b := 1) (L' := [rf w 0, .int p1, .null, .int p3, .int x9, .int (s.2 + 1)]) g dX12_drawn_85 rfl rfl rfl n5 rfl rfl ?_
        refine r_goto (tgt := 37) g dX12_drawn_88 rfl ?_
        exact r_weak (Ls2 (Ls2 (Ls1 (Ls2 (Ls2 (Ls2 Ls0)))))) (hr (x9, s.2 + 1) M7)
set_option maxHeartbeats 4000000 in
set_option maxRecDepth 100000 in
theorem s_X12_drawn_26 {w : W0} {Z : Zx} (g : Good KM w Z cX12_drawn RX12 6) (e2 : Z.2.2.1 = 6) (e3 : Z.2.2.2 = (some .int)) (N : Nat) (p1 : Int32) (G : Unit → Mm → Rs) (kG : ∀ (x : Unit) (M : Mm), Sim KM w Z 105 [.null, .null, .null, .null, .null, .null] [] M (G x M)) : ∀ (n : Nat) (s : Int32) (M : Mm), Sim KM w Z 26 [rf w 0, .int p1, .null, .int s, .null, .null] [] M (itr (B_X12_drawn_26 N p1 G) n s M) := by
  have n3 : 3 < Z.2.2.1 := by rw [e2]; decide
  have n4 : 4 < Z.2.2.1 := by rw [e2]; decide
  have n5 : 5 < Z.2.2.1 := by rw [e2]; decide
  refine r_itr (Lf := fun (s : Int32) => [rf w 0, .int p1, .null, .int s, .null, .null]) (fun rec hr s M => ?_)
  unfold B_X12_drawn_26
  refine r_iload_n (pc' := 27) g dX12_drawn_26 rfl rfl ?_
  refine r_iconst (pc' := 28) (v := 5) g dX12_drawn_27 rfl rfl ?_
  refine r_cge (pc' := 31) (tgt := 105) g dX12_drawn_28 rfl rfl ?_ ?_
  · skip
    exact r_weak (Ls1 (Ls1 (Ls1 (Ls1 (Ls1 (Ls1 Ls0)))))) (kG () M)
  · skip
    refine r_iconst (pc' := 32) (v := 0) g dX12_drawn_31 rfl rfl ?_
    refine r_istore (pc' := 34) (L' := [rf w 0, .int p1, .null, .int s, .int 0, .null]) g dX12_drawn_32 rfl n4 rfl rfl ?_
    refine r_iconst (pc' := 35) (v := 0) g dX12_drawn_34 rfl rfl ?_
    refine r_istore (pc' := 37) (L' := [rf w 0, .int p1, .null, .int s, .int 0, .int 0]) g dX12_drawn_35 rfl n5 rfl rfl ?_
    refine r_weak (Ls2 (Ls2 (Ls1 (Ls2 (Ls2 (Ls2 Ls0)))))) (s_X12_drawn_37 g e2 e3 N p1 s _ (fun z10 M11 => ?_) N (0, 0) M)
    refine r_iload (pc' := 93) g dX12_drawn_91 rfl rfl ?_
    refine r_iload_n (pc' := 94) g dX12_drawn_93 rfl rfl ?_
    refine r_clt (pc' := 97) (tgt := 99) g dX12_drawn_94 rfl rfl ?_ ?_
    · skip
      refine r_iinc (pc' := 102) (b := 1) (L' := [rf w 0, .int p1, .null, .int (s + 1), .int z10, .null]) g dX12_drawn_99 rfl rfl rfl n3 rfl rfl ?_
      refine r_goto (tgt := 26) g dX12_drawn_102 rfl ?_
      exact r_weak (Ls2 (Ls2 (Ls1 (Ls2 (Ls1 (Ls1 Ls0)))))) (hr (s + 1) M11)
    · skip
      refine r_iload_n (pc' := 98) g dX12_drawn_97 rfl rfl ?_
      exact r_iret g e3 dX12_drawn_98
set_option maxHeartbeats 4000000 in
set_option maxRecDepth 100000 in
theorem c_X12_drawn (l : Launch) (w : W0) (N : Nat) (a1 : Int32) (M : Mm) : Ct l KM w 6 yX12_drawn cX12_drawn 6 (some .int) [rf w 0, .int a1] M (f_X12_drawn N a1 M) := by
  refine ct_of [rf w 0, .int a1, .null, .null, .null, .null] (by decide) (Nat.le_of_ble_eq_true rfl) rfl (fun Z e1 e2 e3 g => ?_)
  have g : Good KM w Z cX12_drawn RX12 6 := g
  unfold f_X12_drawn
  have n2 : 2 < Z.2.2.1 := by rw [e2]; decide
  have n3 : 3 < Z.2.2.1 := by rw [e2]; decide
  refine r_iload_n (pc' := 1) g dX12_drawn_0 rfl rfl ?_
  refine r_i2l (pc' := 2) g dX12_drawn_1 rfl ?_
  refine r_lconst (pc' := 3) (v := 0) g dX12_drawn_2 rfl rfl ?_
  refine r_ldc2 (pc' := 6) g dX12_drawn_3 rfl kc_X12_333 ?_
  refine r_callSi (pc' := 9) (As := [.long a1.toInt64, .long 0, .long 60]) (rest := []) g dX12_drawn_6 rfl ml_X12_137 mw_X12_outOf ms_X12_outOf (Nat.le_of_ble_eq_true rfl) (c_X12_outOf _ w N a1.toInt64 0 60 M) rfl rfl (Nat.le_of_ble_eq_true rfl) (fun r1 M2 => ?_)
  refine r_istore_n (pc' := 10) (L' := [rf w 0, .int a1, .int r1, .null, .null, .null]) g dX12_drawn_9 rfl n2 rfl rfl ?_
  refine r_iload_n (pc' := 11) g dX12_drawn_10 rfl rfl ?_
  refine r_ifeq (pc' := 14) (tgt := 20) g dX12_drawn_11 rfl rfl ?_ ?_
  · skip
    refine r_aload_n (pc' := 21) g dX12_drawn_20 rfl rfl ?_
    refine r_callVv (pc' := 24) (As := []) (rest := []) g dX12_drawn_21 rfl ml_X12_282 mw_X12_finds mv_X12_finds (Nat.le_of_ble_eq_true rfl) (c_X12_finds _ w N  M2) rfl lM_0 (eM_0 w _ _) rfl rfl (Nat.le_of_ble_eq_true rfl) (fun r3 M4 => ?_)
    refine r_iconst (pc' := 25) (v := 0) g dX12_drawn_24 rfl rfl ?_
    refine r_istore_n (pc' := 26) (L' := [rf w 0, .int a1, .int r1, .int 0, .null, .null]) g dX12_drawn_25 rfl n3 rfl rfl ?_
    refine r_weak (Ls2 (Ls2 (Ls1 (Ls2 (Ls1 (Ls1 Ls0)))))) (s_X12_drawn_26 g e2 e3 N a1 _ (fun z12 M13 => ?_) N 0 M4)
    refine r_bipush (pc' := 107) (v := -9) g dX12_drawn_105 rfl rfl ?_
    exact r_iret g e3 dX12_drawn_107
  · skip
    refine r_aload_n (pc' := 15) g dX12_drawn_14 rfl rfl ?_
    refine r_iload_n (pc' := 16) g dX12_drawn_15 rfl rfl ?_
    refine r_callVi (pc' := 19) (As := [.int r1]) (rest := []) g dX12_drawn_16 rfl ml_X12_113 mw_X12_no mv_X12_no (Nat.le_of_ble_eq_true rfl) (c_X12_no _ w N r1 M2) rfl lM_0 (eM_0 w _ _) rfl rfl (Nat.le_of_ble_eq_true rfl) (fun r14 M15 => ?_)
    exact r_iret g e3 dX12_drawn_19
