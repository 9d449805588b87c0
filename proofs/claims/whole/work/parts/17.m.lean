def B_X12_isRule_49 (N : Nat) (p1 : Int32) (G : Int32 → Mm → Rs) (rec : Int32 → Mm → Rs) (s : Int32) (M : Mm) : Rs :=
  bd (f_X12_sign N  M) fun r6 M7 =>
    (if r6 = 41 then
      (if 0 < s then
        (lt' (s + (-1)) fun x8 =>
        (lt' (wI M7 0 16 ((M7.1 0 16) + 1)) fun M9 =>
        (rec x8 M9)))
      else
        (G s M7))
    else
      (G s M7))

def B_X12_isRule_7 (N : Nat) (p1 : Int32) (rec : Int32 → Mm → Rs) (s : Int32) (M : Mm) : Rs :=
  bd (f_X12_sign N  M) fun r2 M3 =>
    (if r2 = 40 then
      (if s = 4 then
        (some (0, M3))
      else
        (lt' (wI M3 0 16 ((M3.1 0 16) + 1)) fun M26 =>
        (rec (s + 1) M26)))
    else
      (bd (f_X12_unit N p1 M3) fun r4 M5 =>
      (if r4 = 0 then
        (some (0, M5))
      else
        (itr (B_X12_isRule_49 N p1 fun z10 M11 =>
        (bd (f_X12_sign N  M11) fun r12 M13 =>
        (lt' (fun (s14 : Unit) (M15 : Mm) =>
          ((bd (f_X12_sign N  M15) fun r17 M18 =>
          (if r17 = 43 then
            (lt' (wI M18 0 16 ((M18.1 0 16) + 1)) fun M19 =>
            (rec z10 M19))
          else
            (bd (f_X12_sign N  M18) fun r20 M21 =>
            (if r20 = 45 then
              (lt' (wI M21 0 16 ((M21.1 0 16) + 1)) fun M22 =>
              (rec z10 M22))
            else
              (bd (f_X12_sign N  M21) fun r23 M24 =>
              (if r23 = 42 then
                (lt' (wI M24 0 16 ((M24.1 0 16) + 1)) fun M25 =>
                (rec z10 M25))
              else
                (some (0, M24)))))))) : Rs)) fun jn16 =>
        (if r12 = (-1) then
          (if z10 = 0 then
            (some (1, M13))
          else
            (jn16 () M13))
        else
          (jn16 () M13))))) N s M5))))

def f_X12_isRule (N : Nat) (a1 : Int32) (M : Mm) : Rs :=
  lt' (wI M 0 16 0) fun M1 =>
  (itr (B_X12_isRule_7 N a1) N 0 M1)

set_option maxHeartbeats 4000000 in
set_option maxRecDepth 100000 in
theorem s_X12_isRule_49 {w : W0} {Z : Zx} (g : Good KM w Z cX12_isRule RX12 3) (e2 : Z.2.2.1 = 3) (e3 : Z.2.2.2 = (some .boolean)) (N : Nat) (p1 : Int32) (G : Int32 → Mm → Rs) (kG : ∀ (x : Int32) (M : Mm), Sim KM w Z 78 [rf w 0, .int p1, .int x] [] M (G x M)) : ∀ (n : Nat) (s : Int32) (M : Mm), Sim KM w Z 49 [rf w 0, .int p1, .int s] [] M (itr (B_X12_isRule_49 N p1 G) n s M) := by
  have n2 : 2 < Z.2.2.1 := by rw [e2]; decide
  refine r_itr (Lf := fun (s : Int32) => [rf w 0, .int p1, .int s]) (fun rec hr s M => ?_)
  unfold B_X12_isRule_49
  refine r_aload_n (pc' := 50) g dX12_isRule_49 rfl rfl ?_
  refine r_callVi (pc' := 53) (As := []) (rest := []) g dX12_isRule_50 rfl ml_X12_166 mw_X12_sign mv_X12_sign (Nat.le_of_ble_eq_true rfl) (c_X12_sign _ w N  M) rfl lM_0 (eM_0 w _ _) rfl rfl (Nat.le_of_ble_eq_true rfl) (fun r6 M7 => ?_)
  refine r_bipush (pc' := 55) (v := 41) g dX12_isRule_53 rfl rfl ?_
  refine r_cne (pc' := 58) (tgt := 78) g dX12_isRule_55 rfl rfl ?_ ?_
  · skip
    exact r_weak (Ls2 (Ls2 (Ls2 Ls0))) (kG s M7)
  · skip
    refine r_iload_n (pc' := 59) g dX12_isRule_58 rfl rfl ?_
    refine r_ifle (pc' := 62) (tgt := 78) g dX12_isRule_59 rfl rfl ?_ ?_
    · skip
      exact r_weak (Ls2 (Ls2 (Ls2 Ls0))) (kG s M7)
    · skip
      refine r_iincn (pc' := 65) (b := -1) (L' := fun x8 => [rf w 0, .int p1, .int x8]) g dX12_isRule_62 rfl rfl rfl n2 rfl (fun _ => rfl) (fun x8 => ?_)
      refine r_aload_n (pc' := 66) g dX12_isRule_65 rfl rfl ?_
      refine r_dupa (pc' := 67) g dX12_isRule_66 rfl ?_
      refine r_get (pc' := 70) g dX12_isRule_67 rfl fl_X12_163 lM_0 (eM_0 w _ _) rfl ?_
      refine r_iconst (pc' := 71) (v := 1) g dX12_isRule_70 rfl rfl ?_
      refine r_iadd (pc' := 72) g dX12_isRule_71 rfl ?_
      refine r_put (pc' := 75) g dX12_isRule_72 rfl fl_X12_163 rfl lM_0 (eM_0 w _ _) (Nat.le_of_ble_eq_true rfl) (sM_0_16 w _ _ _) ?_
      refine r_ltM (fun M9 => ?_)
      refine r_goto (tgt := 49) g dX12_isRule_75 rfl ?_
      exact r_weak (Ls2 (Ls2 (Ls2 Ls0))) (hr x8 M9)
set_option maxHeartbeats 4000000 in
set_option maxRecDepth 100000 in
theorem s_X12_isRule_7 {w : W0} {Z : Zx} (g : Good KM w Z cX12_isRule RX12 3) (e2 : Z.2.2.1 = 3) (e3 : Z.2.2.2 = (some .boolean)) (N : Nat) (p1 : Int32) : ∀ (n : Nat) (s : Int32) (M : Mm), Sim KM w Z 7 [rf w 0, .int p1, .int s] [] M (itr (B_X12_isRule_7 N p1) n s M) := by
  have n2 : 2 < Z.2.2.1 := by rw [e2]; decide
  refine r_itr (Lf := fun (s : Int32) => [rf w 0, .int p1, .int s]) (fun rec hr s M => ?_)
  unfold B_X12_isRule_7
  refine r_aload_n (pc' := 8) g dX12_isRule_7 rfl rfl ?_
  refine r_callVi (pc' := 11) (As := []) (rest := []) g dX12_isRule_8 rfl ml_X12_166 mw_X12_sign mv_X12_sign (Nat.le_of_ble_eq_true rfl) (c_X12_sign _ w N  M) rfl lM_0 (eM_0 w _ _) rfl rfl (Nat.le_of_ble_eq_true rfl) (fun r2 M3 => ?_)
  refine r_bipush (pc' := 13) (v := 40) g dX12_isRule_11 rfl rfl ?_
  refine r_cne (pc' := 16) (tgt := 39) g dX12_isRule_13 rfl rfl ?_ ?_
  · skip
    refine r_aload_n (pc' := 40) g dX12_isRule_39 rfl rfl ?_
    refine r_iload_n (pc' := 41) g dX12_isRule_40 rfl rfl ?_
    refine r_callVi (pc' := 44) (As := [.int p1]) (rest := []) g dX12_isRule_41 rfl ml_X12_192 mw_X12_unit mv_X12_unit (Nat.le_of_ble_eq_true rfl) (c_X12_unit _ w N p1 M3) rfl lM_0 (eM_0 w _ _) rfl rfl (Nat.le_of_ble_eq_true rfl) (fun r4 M5 => ?_)
    refine r_ifne (pc' := 47) (tgt := 49) g dX12_isRule_44 rfl rfl ?_ ?_
    · skip
      refine r_weak (Ls2 (Ls2 (Ls2 Ls0))) (s_X12_isRule_49 g e2 e3 N p1 _ (fun z10 M11 => ?_) N s M5)
      refine r_aload_n (pc' := 79) g dX12_isRule_78 rfl rfl ?_
      refine r_callVi (pc' := 82) (As := []) (rest := []) g dX12_isRule_79 rfl ml_X12_166 mw_X12_sign mv_X12_sign (Nat.le_of_ble_eq_true rfl) (c_X12_sign _ w N  M11) rfl lM_0 (eM_0 w _ _) rfl rfl (Nat.le_of_ble_eq_true rfl) (fun r12 M13 => ?_)
      refine r_iconst (pc' := 83) (v := -1) g dX12_isRule_82 rfl rfl ?_
      refine r_jn (pj := 92) (Lj := fun (s14 : Unit) => [rf w 0, .int p1, .int z10]) (stj := fun (s14 : Unit) => []) (fun s14 M15 => ?_) (fun jn16 hjn16 => ?_)
      · skip
        refine r_aload_n (pc' := 93) g dX12_isRule_92 rfl rfl ?_
        refine r_callVi (pc' := 96) (As := []) (rest := []) g dX12_isRule_93 rfl ml_X12_166 mw_X12_sign mv_X12_sign (Nat.le_of_ble_eq_true rfl) (c_X12_sign _ w N  M15) rfl lM_0 (eM_0 w _ _) rfl rfl (Nat.le_of_ble_eq_true rfl) (fun r17 M18 => ?_)
        refine r_bipush (pc' := 98) (v := 43) g dX12_isRule_96 rfl rfl ?_
        refine r_ceq (pc' := 101) (tgt := 121) g dX12_isRule_98 rfl rfl ?_ ?_
        · skip
          refine r_aload_n (pc' := 122) g dX12_isRule_121 rfl rfl ?_
          refine r_dupa (pc' := 123) g dX12_isRule_122 rfl ?_
          refine r_get (pc' := 126) g dX12_isRule_123 rfl fl_X12_163 lM_0 (eM_0 w _ _) rfl ?_
          refine r_iconst (pc' := 127) (v := 1) g dX12_isRule_126 rfl rfl ?_
          refine r_iadd (pc' := 128) g dX12_isRule_127 rfl ?_
          refine r_put (pc' := 131) g dX12_isRule_128 rfl fl_X12_163 rfl lM_0 (eM_0 w _ _) (Nat.le_of_ble_eq_true rfl) (sM_0_16 w _ _ _) ?_
          refine r_ltM (fun M19 => ?_)
          refine r_goto (tgt := 7) g dX12_isRule_131 rfl ?_
          exact r_weak (Ls2 (Ls2 (Ls2 Ls0))) (hr z10 M19)
        · skip
          refine r_aload_n (pc' := 102) g dX12_isRule_101 rfl rfl ?_
          refine r_callVi (pc' := 105) (As := []) (rest := []) g dX12_isRule_102 rfl ml_X12_166 mw_X12_sign mv_X12_sign (Nat.le_of_ble_eq_true rfl) (c_X12_sign _ w N  M18) rfl lM_0 (eM_0 w _ _) rfl rfl (Nat.le_of_ble_eq_true rfl) (fun r20 M21 => ?_)
          refine r_bipush (pc' := 107) (v := 45) g dX12_isRule_105 rfl rfl ?_
          refine r_ceq (pc' := 110) (tgt := 121) g dX12_isRule_107 rfl rfl ?_ ?_
          · skip
            refine r_aload_n (pc' := 122) g dX12_isRule_121 rfl rfl ?_
            refine r_dupa (pc' := 123) g dX12_isRule_122 rfl ?_
            refine r_get (pc' := 126) g dX12_isRule_123 rfl fl_X12_163 lM_0 (eM_0 w _ _) rfl ?_
            refine r_iconst (pc' := 127) (v := 1) g dX12_isRule_126 rfl rfl ?_
            refine r_iadd (pc' := 128) g dX12_isRule_127 rfl ?_
            refine r_put (pc' := 131) g dX12_isRule_128 rfl fl_X12_163 rfl lM_0 (eM_0 w _ _) (Nat.le_of_ble_eq_true rfl) (sM_0_16 w _ _ _) ?_
            refine r_ltM (fun M22 => ?_)
            refine r_goto (tgt := 7) g dX12_isRule_131 rfl ?_
            exact r_weak (Ls2 (Ls2 (Ls2 Ls0))) (hr z10 M22)
          · skip
            refine r_aload_n (pc' := 111) g dX12_isRule_110 rfl rfl ?_
            refine r_callVi (pc' := 114) (As := []) (rest := []) g dX12_isRule_111 rfl ml_X12_166 mw_X12_sign mv_X12_sign (Nat.le_of_ble_eq_true rfl) (c_X12_sign _ w N  M21) rfl lM_0 (eM_0 w _ _) rfl rfl (Nat.le_of_ble_eq_true rfl) (fun r23 M24 => ?_)
            refine r_bipush (pc' := 116) (v := 42) g dX12_isRule_114 rfl rfl ?_
            refine r_ceq (pc' := 119) (tgt := 121) g dX12_isRule_116 rfl rfl ?_ ?_
            · skip
              refine r_aload_n (pc' := 122) g dX12_isRule_121 rfl rfl ?_
              refine r_dupa (pc' := 123) g dX12_isRule_122 rfl ?_
              refine r_get (pc' := 126) g dX12_isRule_123 rfl fl_X12_163 lM_0 (eM_0 w _ _) rfl ?_
              refine r_iconst (pc' := 127) (v := 1) g dX12_isRule_126 rfl rfl ?_
              refine r_iadd (pc' := 128) g dX12_isRule_127 rfl ?_
              refine r_put (pc' := 131) g dX12_isRule_128 rfl fl_X12_163 rfl lM_0 (eM_0 w _ _) (Nat.le_of_ble_eq_true rfl) (sM_0_16 w _ _ _) ?_
              refine r_ltM (fun M25 => ?_)
              refine r_goto (tgt := 7) g dX12_isRule_131 rfl ?_
              exact r_weak (Ls2 (Ls2 (Ls2 Ls0))) (hr z10 M25)
            · skip
              refine r_iconst (pc' := 120) (v := 0) g dX12_isRule_119 rfl rfl ?_
              exact r_zretc g e3 rfl dX12_isRule_120
      refine r_cne (pc' := 86) (tgt := 92) g dX12_isRule_83 rfl rfl ?_ ?_
      · skip
        exact r_weak (Ls2 (Ls2 (Ls2 Ls0))) (hjn16 () M13)
      · skip
        refine r_iload_n (pc' := 87) g dX12_isRule_86 rfl rfl ?_
        refine r_ifne (pc' := 90) (tgt := 92) g dX12_isRule_87 rfl rfl ?_ ?_
        · skip
          exact r_weak (Ls2 (Ls2 (Ls2 Ls0))) (hjn16 () M13)
        · skip
          refine r_iconst (pc' := 91) (v := 1) g dX12_isRule_90 rfl rfl ?_
          exact r_zretc g e3 rfl dX12_isRule_91
    · skip
      refine r_iconst (pc' := 48) (v := 0) g dX12_isRule_47 rfl rfl ?_
      exact r_zretc g e3 rfl dX12_isRule_48
  · skip
    refine r_iload_n (pc' := 17) g dX12_isRule_16 rfl rfl ?_
    refine r_iconst (pc' := 18) (v := 4) g dX12_isRule_17 rfl rfl ?_
    refine r_cne (pc' := 21) (tgt := 23) g dX12_isRule_18 rfl rfl ?_ ?_
    · skip
      refine r_iinc (pc' := 26) (b := 1) (L' := [rf w 0, .int p1, .int (s + 1)]) g dX12_isRule_23 rfl rfl rfl n2 rfl rfl ?_
      refine r_aload_n (pc' := 27) g dX12_isRule_26 rfl rfl ?_
      refine r_dupa (pc' := 28) g dX12_isRule_27 rfl ?_
      refine r_get (pc' := 31) g dX12_isRule_28 rfl fl_X12_163 lM_0 (eM_0 w _ _) rfl ?_
      refine r_iconst (pc' := 32) (v := 1) g dX12_isRule_31 rfl rfl ?_
      refine r_iadd (pc' := 33) g dX12_isRule_32 rfl ?_
      refine r_put (pc' := 36) g dX12_isRule_33 rfl fl_X12_163 rfl lM_0 (eM_0 w _ _) (Nat.le_of_ble_eq_true rfl) (sM_0_16 w _ _ _) ?_
      refine r_ltM (fun M26 => ?_)
      refine r_goto (tgt := 7) g dX12_isRule_36 rfl ?_
      exact r_weak (Ls2 (Ls2 (Ls2 Ls0))) (hr (s + 1) M26)
    · skip
      refine r_iconst (pc' := 22) (v := 0) g dX12_isRule_21 rfl rfl ?_
      exact r_zretc g e3 rfl dX12_isRule_22
set_option maxHeartbeats 4000000 in
set_option maxRecDepth 100000 in
theorem c_X12_isRule (l : Launch) (w : W0) (N : Nat) (a1 : Int32) (M : Mm) : Ct l KM w 3 yX12_isRule cX12_isRule 3 (some .boolean) [rf w 0, .int a1] M (f_X12_isRule N a1 M) := by
  refine ct_of [rf w 0, .int a1, .null] (by decide) (Nat.le_of_ble_eq_true rfl) rfl (fun Z e1 e2 e3 g => ?_)
  have g : Good KM w Z cX12_isRule RX12 3 := g
  unfold f_X12_isRule
  have n2 : 2 < Z.2.2.1 := by rw [e2]; decide
  refine r_aload_n (pc' := 1) g dX12_isRule_0 rfl rfl ?_
  refine r_iconst (pc' := 2) (v := 0) g dX12_isRule_1 rfl rfl ?_
  refine r_put (pc' := 5) g dX12_isRule_2 rfl fl_X12_163 rfl lM_0 (eM_0 w _ _) (Nat.le_of_ble_eq_true rfl) (sM_0_16 w _ _ _) ?_
  refine r_ltM (fun M1 => ?_)
  refine r_iconst (pc' := 6) (v := 0) g dX12_isRule_5 rfl rfl ?_
  refine r_istore_n (pc' := 7) (L' := [rf w 0, .int a1, .int 0]) g dX12_isRule_6 rfl n2 rfl rfl ?_
  exact r_weak (Ls2 (Ls2 (Ls2 Ls0))) (s_X12_isRule_7 g e2 e3 N a1 N 0 M1)
def B_X12_rule_68 (N : Nat) (p1 : Int32) (p5 : Int32) (G : Unit → Mm → Rs) (rec : Int32 → Mm → Rs) (s : Int32) (M : Mm) : Rs :=
  if s < p5 then
      (if inb s 40 then
      (if inb ((40 * p1) + s) 160 then
      (lt' (wI M 8 (ix ((40 * p1) + s)) (M.1 5 (ix s))) fun M8 =>
      (rec (s + 1) M8)) else none) else none)
    else
      (G () M)

def f_X12_rule (N : Nat) (a1 : Int32) (a2 : Int32) (M : Mm) : Rs :=
  bd (f_X12_isThere N a1 M) fun r1 M2 =>
  (if r1 = 0 then
    (bd (f_X12_no N (-1) M2) fun r15 M16 =>
    (some (r15, M16)))
  else
    (bd (f_X12_outOf N a2.toInt64 0 9 M2) fun r3 M4 =>
    (if r3 = 0 then
      (bd (f_X12_isRule N a2 M4) fun r5 M6 =>
      (lt' (wI M6 0 14 0) fun M7 =>
      (if r5 = 0 then
        (some ((-20) - (M7.1 0 16), M7))
      else
        (itr (B_X12_rule_68 N a1 (M6.1 0 14) fun z9 M10 =>
        (if inb a1 4 then
        (lt' (wI M10 9 (ix a1) (M6.1 0 14)) fun M11 =>
        (if inb a1 4 then
        (lt' (wI M11 12 (ix a1) (zn 1)) fun M12 =>
        (some (1, M12))) else none)) else none)) N 0 M7))))
    else
      (bd (f_X12_no N r3 M4) fun r13 M14 =>
      (some (r13, M14))))))

set_option maxHeartbeats 4000000 in
set_option maxRecDepth 100000 in
theorem s_X12_rule_68 {w : W0} {Z : Zx} (g : Good KM w Z cX12_rule RX12 4) (e2 : Z.2.2.1 = 7) (e3 : Z.2.2.2 = (some .int)) (N : Nat) (p1 : Int32) (p5 : Int32) (G : Unit → Mm → Rs) (kG : ∀ (x : Unit) (M : Mm), Sim KM w Z 100 [rf w 0, .int p1, .null, .null, .null, .int p5, .null] [] M (G x M)) : ∀ (n : Nat) (s : Int32) (M : Mm), Sim KM w Z 68 [rf w 0, .int p1, .null, .null, .null, .int p5, .int s] [] M (itr (B_X12_rule_68 N p1 p5 G) n s M) := by
  have n6 : 6 < Z.2.2.1 := by rw [e2]; decide
  refine r_itr (Lf := fun (s : Int32) => [rf w 0, .int p1, .null, .null, .null, .int p5, .int s]) (fun rec hr s M => ?_)
  unfold B_X12_rule_68
  refine r_iload (pc' := 70) g dX12_rule_68 rfl rfl ?_
  refine r_iload (pc' := 72) g dX12_rule_70 rfl rfl ?_
  refine r_cge (pc' := 75) (tgt := 100) g dX12_rule_72 rfl rfl ?_ ?_
  · skip
    exact r_weak (Ls2 (Ls2 (Ls1 (Ls1 (Ls1 (Ls2 (Ls1 Ls0))))))) (kG () M)
  · skip
    refine r_aload_n (pc' := 76) g dX12_rule_75 rfl rfl ?_
    refine r_get (pc' := 79) g dX12_rule_76 rfl fl_X12_31 lM_0 (eM_0 w _ _) rfl ?_
    refine r_bipush (pc' := 81) (v := 40) g dX12_rule_79 rfl rfl ?_
    refine r_iload_n (pc' := 82) g dX12_rule_81 rfl rfl ?_
    refine r_imul (pc' := 83) g dX12_rule_82 rfl ?_
    refine r_iload (pc' := 85) g dX12_rule_83 rfl rfl ?_
    refine r_iadd (pc' := 86) g dX12_rule_85 rfl ?_
    refine r_aload_n (pc' := 87) g dX12_rule_86 rfl rfl ?_
    refine r_get (pc' := 90) g dX12_rule_87 rfl fl_X12_22 lM_0 (eM_0 w _ _) rfl ?_
    refine r_iload (pc' := 92) g dX12_rule_90 rfl rfl ?_
    refine r_iald (pc' := 93) g dX12_rule_92 rfl lM_5 (eM_5 w _ _) ?_
    refine r_iast (pc' := 94) g dX12_rule_93 rfl lM_8 (fun m => eM_8 w m _) ?_
    refine r_ltM (fun M8 => ?_)
    refine r_iinc (pc' := 97) (b := 1) (L' := [rf w 0, .int p1, .null, .null, .null, .int p5, .int (s + 1)]) g dX12_rule_94 rfl rfl rfl n6 rfl rfl ?_
    refine r_goto (tgt := 68) g dX12_rule_97 rfl ?_
    exact r_weak (Ls2 (Ls2 (Ls1 (Ls1 (Ls1 (Ls2 (Ls2 Ls0))))))) (hr (s + 1) M8)
set_option maxHeartbeats 4000000 in
set_option maxRecDepth 100000 in
theorem c_X12_rule (l : Launch) (w : W0) (N : Nat) (a1 : Int32) (a2 : Int32) (M : Mm) : Ct l KM w 4 yX12_rule cX12_rule 7 (some .int) [rf w 0, .int a1, .int a2] M (f_X12_rule N a1 a2 M) := by
  refine ct_of [rf w 0, .int a1, .int a2, .null, .null, .null, .null] (by decide) (Nat.le_of_ble_eq_true rfl) rfl (fun Z e1 e2 e3 g => ?_)
  have g : Good KM w Z cX12_rule RX12 4 := g
  unfold f_X12_rule
  have n3 : 3 < Z.2.2.1 := by rw [e2]; decide
  have n4 : 4 < Z.2.2.1 := by rw [e2]; decide
  have n5 : 5 < Z.2.2.1 := by rw [e2]; decide
  have n6 : 6 < Z.2.2.1 := by rw [e2]; decide
  refine r_aload_n (pc' := 1) g dX12_rule_0 rfl rfl ?_
  refine r_iload_n (pc' := 2) g dX12_rule_1 rfl rfl ?_
  refine r_callVi (pc' := 5) (As := [.int a1]) (rest := []) g dX12_rule_2 rfl ml_X12_117 mw_X12_isThere mv_X12_isThere (Nat.le_of_ble_eq_true rfl) (c_X12_isThere _ w N a1 M) rfl lM_0 (eM_0 w _ _) rfl rfl (Nat.le_of_ble_eq_true rfl) (fun r1 M2 => ?_)
  refine r_ifne (pc' := 8) (tgt := 14) g dX12_rule_5 rfl rfl ?_ ?_
  · skip
    refine r_iload_n (pc' := 15) g dX12_rule_14 rfl rfl ?_
    refine r_i2l (pc' := 16) g dX12_rule_15 rfl ?_
    refine r_lconst (pc' := 17) (v := 0) g dX12_rule_16 rfl rfl ?_
    refine r_ldc2 (pc' := 20) g dX12_rule_17 rfl kc_X12_133 ?_
    refine r_callSi (pc' := 23) (As := [.long a2.toInt64, .long 0, .long 9]) (rest := []) g dX12_rule_20 rfl ml_X12_137 mw_X12_outOf ms_X12_outOf (Nat.le_of_ble_eq_true rfl) (c_X12_outOf _ w N a2.toInt64 0 9 M2) rfl rfl (Nat.le_of_ble_eq_true rfl) (fun r3 M4 => ?_)
    refine r_istore_n (pc' := 24) (L' := [rf w 0, .int a1, .int a2, .int r3, .null, .null, .null]) g dX12_rule_23 rfl n3 rfl rfl ?_
    refine r_iload_n (pc' := 25) g dX12_rule_24 rfl rfl ?_
    refine r_ifeq (pc' := 28) (tgt := 34) g dX12_rule_25 rfl rfl ?_ ?_
    · skip
      refine r_aload_n (pc' := 35) g dX12_rule_34 rfl rfl ?_
      refine r_iload_n (pc' := 36) g dX12_rule_35 rfl rfl ?_
      refine r_callVi (pc' := 39) (As := [.int a2]) (rest := []) g dX12_rule_36 rfl ml_X12_195 mw_X12_isRule mv_X12_isRule (Nat.le_of_ble_eq_true rfl) (c_X12_isRule _ w N a2 M4) rfl lM_0 (eM_0 w _ _) rfl rfl (Nat.le_of_ble_eq_true rfl) (fun r5 M6 => ?_)
      refine r_istore (pc' := 41) (L' := [rf w 0, .int a1, .int a2, .int r3, .int r5, .null, .null]) g dX12_rule_39 rfl n4 rfl rfl ?_
      refine r_aload_n (pc' := 42) g dX12_rule_41 rfl rfl ?_
      refine r_get (pc' := 45) g dX12_rule_42 rfl fl_X12_160 lM_0 (eM_0 w _ _) rfl ?_
      refine r_istore (pc' := 47) (L' := [rf w 0, .int a1, .int a2, .int r3, .int r5, .int (M6.1 0 14), .null]) g dX12_rule_45 rfl n5 rfl rfl ?_
      refine r_aload_n (pc' := 48) g dX12_rule_47 rfl rfl ?_
      refine r_iconst (pc' := 49) (v := 0) g dX12_rule_48 rfl rfl ?_
      refine r_put (pc' := 52) g dX12_rule_49 rfl fl_X12_160 rfl lM_0 (eM_0 w _ _) (Nat.le_of_ble_eq_true rfl) (sM_0_14 w _ _ _) ?_
      refine r_ltM (fun M7 => ?_)
      refine r_iload (pc' := 54) g dX12_rule_52 rfl rfl ?_
      refine r_ifne (pc' := 57) (tgt := 65) g dX12_rule_54 rfl rfl ?_ ?_
      · skip
        refine r_iconst (pc' := 66) (v := 0) g dX12_rule_65 rfl rfl ?_
        refine r_istore (pc' := 68) (L' := [rf w 0, .int a1, .int a2, .int r3, .int r5, .int (M6.1 0 14), .int 0]) g dX12_rule_66 rfl n6 rfl rfl ?_
        refine r_weak (Ls2 (Ls2 (Ls1 (Ls1 (Ls1 (Ls2 (Ls2 Ls0))))))) (s_X12_rule_68 g e2 e3 N a1 (M6.1 0 14) _ (fun z9 M10 => ?_) N 0 M7)
        refine r_aload_n (pc' := 101) g dX12_rule_100 rfl rfl ?_
        refine r_get (pc' := 104) g dX12_rule_101 rfl fl_X12_34 lM_0 (eM_0 w _ _) rfl ?_
        refine r_iload_n (pc' := 105) g dX12_rule_104 rfl rfl ?_
        refine r_iload (pc' := 107) g dX12_rule_105 rfl rfl ?_
        refine r_iast (pc' := 108) g dX12_rule_107 rfl lM_9 (fun m => eM_9 w m _) ?_
        refine r_ltM (fun M11 => ?_)
        refine r_aload_n (pc' := 109) g dX12_rule_108 rfl rfl ?_
        refine r_get (pc' := 112) g dX12_rule_109 rfl fl_X12_44 lM_0 (eM_0 w _ _) rfl ?_
        refine r_iload_n (pc' := 113) g dX12_rule_112 rfl rfl ?_
        refine r_iconst (pc' := 114) (v := 1) g dX12_rule_113 rfl rfl ?_
        refine r_zast (pc' := 115) g dX12_rule_114 rfl lM_12 (fun m => eM_12 w m _) ?_
        refine r_ltM (fun M12 => ?_)
        refine r_iconst (pc' := 116) (v := 1) g dX12_rule_115 rfl rfl ?_
        exact r_iret g e3 dX12_rule_116
      · skip
        refine r_bipush (pc' := 59) (v := -20) g dX12_rule_57 rfl rfl ?_
        refine r_aload_n (pc' := 60) g dX12_rule_59 rfl rfl ?_
        refine r_get (pc' := 63) g dX12_rule_60 rfl fl_X12_163 lM_0 (eM_0 w _ _) rfl ?_
        refine r_isub (pc' := 64) g dX12_rule_63 rfl ?_
        exact r_iret g e3 dX12_rule_64
    · skip
      refine r_aload_n (pc' := 29) g dX12_rule_28 rfl rfl ?_
      refine r_iload_n (pc' := 30) g dX12_rule_29 rfl rfl ?_
      refine r_callVi (pc' := 33) (As := [.int r3]) (rest := []) g dX12_rule_30 rfl ml_X12_113 mw_X12_no mv_X12_no (Nat.le_of_ble_eq_true rfl) (c_X12_no _ w N r3 M4) rfl lM_0 (eM_0 w _ _) rfl rfl (Nat.le_of_ble_eq_true rfl) (fun r13 M14 => ?_)
      exact r_iret g e3 dX12_rule_33
  · skip
    refine r_aload_n (pc' := 9) g dX12_rule_8 rfl rfl ?_
    refine r_iconst (pc' := 10) (v := -1) g dX12_rule_9 rfl rfl ?_
    refine r_callVi (pc' := 13) (As := [.int (-1)]) (rest := []) g dX12_rule_10 rfl ml_X12_113 mw_X12_no mv_X12_no (Nat.le_of_ble_eq_true rfl) (c_X12_no _ w N (-1) M2) rfl lM_0 (eM_0 w _ _) rfl rfl (Nat.le_of_ble_eq_true rfl) (fun r15 M16 => ?_)
    exact r_iret g e3 dX12_rule_13
def f_X12_unrule (N : Nat) (a1 : Int32) (M : Mm) : Rs :=
  bd (f_X12_isThere N a1 M) fun r1 M2 =>
  (if r1 = 0 then
    (bd (f_X12_no N (-1) M2) fun r7 M8 =>
    (some (r7, M8)))
  else
    (if inb a1 4 then
    (lt' (fun (s3 : Int32) (M4 : Mm) =>
      ((if inb a1 4 then
      (lt' (wI M4 12 (ix a1) (zn 0)) fun M6 =>
      (some (s3, M6))) else none) : Rs)) fun jn5 =>
    (if (M2.1 12 (ix a1)) = 0 then
      (jn5 0 M2)
    else
      (jn5 1 M2))) else none))

set_option maxHeartbeats 4000000 in
set_option maxRecDepth 100000 in
theorem c_X12_unrule (l : Launch) (w : W0) (N : Nat) (a1 : Int32) (M : Mm) : Ct l KM w 1 yX12_unrule cX12_unrule 3 (some .int) [rf w 0, .int a1] M (f_X12_unrule N a1 M) := by
  refine ct_of [rf w 0, .int a1, .null] (by decide) (Nat.le_of_ble_eq_true rfl) rfl (fun Z e1 e2 e3 g => ?_)
  have g : Good KM w Z cX12_unrule RX12 1 := g
  unfold f_X12_unrule
  have n2 : 2 < Z.2.2.1 := by rw [e2]; decide
  refine r_aload_n (pc' := 1) g dX12_unrule_0 rfl rfl ?_
  refine r_iload_n (pc' := 2) g dX12_unrule_1 rfl rfl ?_
  refine r_callVi (pc' := 5) (As := [.int a1]) (rest := []) g dX12_unrule_2 rfl ml_X12_117 mw_X12_isThere mv_X12_isThere (Nat.le_of_ble_eq_true rfl) (c_X12_isThere _ w N a1 M) rfl lM_0 (eM_0 w _ _) rfl rfl (Nat.le_of_ble_eq_true rfl) (fun r1 M2 => ?_)
  refine r_ifne (pc' := 8) (tgt := 14) g dX12_unrule_5 rfl rfl ?_ ?_
  · skip
    refine r_aload_n (pc' := 15) g dX12_unrule_14 rfl rfl ?_
    refine r_get (pc' := 18) g dX12_unrule_15 rfl fl_X12_44 lM_0 (eM_0 w _ _) rfl ?_
    refine r_iload_n (pc' := 19) g dX12_unrule_18 rfl rfl ?_
    refine r_zald (pc' := 20) g dX12_unrule_19 rfl lM_12 (eM_12 w _ _) ?_
    refine r_jn (pj := 28) (Lj := fun (s3 : Int32) => [rf w 0, .int a1, .null]) (stj := fun (s3 : Int32) => [.int s3]) (fun s3 M4 => ?_) (fun jn5 hjn5 => ?_)
    · skip
      refine r_istore_n (pc' := 29) (L' := [rf w 0, .int a1, .int s3]) g dX12_unrule_28 rfl n2 rfl rfl ?_
      refine r_aload_n (pc' := 30) g dX12_unrule_29 rfl rfl ?_
      refine r_get (pc' := 33) g dX12_unrule_30 rfl fl_X12_44 lM_0 (eM_0 w _ _) rfl ?_
      refine r_iload_n (pc' := 34) g dX12_unrule_33 rfl rfl ?_
      refine r_iconst (pc' := 35) (v := 0) g dX12_unrule_34 rfl rfl ?_
      refine r_zast (pc' := 36) g dX12_unrule_35 rfl lM_12 (fun m => eM_12 w m _) ?_
      refine r_ltM (fun M6 => ?_)
      refine r_iload_n (pc' := 37) g dX12_unrule_36 rfl rfl ?_
      exact r_iret g e3 dX12_unrule_37
    refine r_ifeq (pc' := 23) (tgt := 27) g dX12_unrule_20 rfl rfl ?_ ?_
    · skip
      refine r_iconst (pc' := 28) (v := 0) g dX12_unrule_27 rfl rfl ?_
      exact r_weak (Ls2 (Ls2 (Ls1 Ls0))) (hjn5 0 M2)
    · skip
      refine r_iconst (pc' := 24) (v := 1) g dX12_unrule_23 rfl rfl ?_
      refine r_goto (tgt := 28) g dX12_unrule_24 rfl ?_
      exact r_weak (Ls2 (Ls2 (Ls1 Ls0))) (hjn5 1 M2)
  · skip
    refine r_aload_n (pc' := 9) g dX12_unrule_8 rfl rfl ?_
    refine r_iconst (pc' := 10) (v := -1) g dX12_unrule_9 rfl rfl ?_
    refine r_callVi (pc' := 13) (As := [.int (-1)]) (rest := []) g dX12_unrule_10 rfl ml_X12_113 mw_X12_no mv_X12_no (Nat.le_of_ble_eq_true rfl) (c_X12_no _ w N (-1) M2) rfl lM_0 (eM_0 w _ _) rfl rfl (Nat.le_of_ble_eq_true rfl) (fun r7 M8 => ?_)
    exact r_iret g e3 dX12_unrule_13
def f_X12_lawSign (N : Nat) (a1 : Int32) (M : Mm) : Rs :=
  if inb a1 12 then
  (if (M.1 0 22) < (M.1 7 (ix a1)) then
    (if inb ((40 * a1) + (M.1 0 22)) 480 then
    (some (M.1 6 (ix ((40 * a1) + (M.1 0 22))), M)) else none)
  else
    (some ((-1), M))) else none

set_option maxHeartbeats 4000000 in
set_option maxRecDepth 100000 in
theorem c_X12_lawSign (l : Launch) (w : W0) (N : Nat) (a1 : Int32) (M : Mm) : Ct l KM w 0 yX12_lawSign cX12_lawSign 2 (some .int) [rf w 0, .int a1] M (f_X12_lawSign N a1 M) := by
  refine ct_of [rf w 0, .int a1] (by decide) (Nat.le_of_ble_eq_true rfl) rfl (fun Z e1 e2 e3 g => ?_)
  have g : Good KM w Z cX12_lawSign RX12 0 := g
  unfold f_X12_lawSign
  refine r_aload_n (pc' := 1) g dX12_lawSign_0 rfl rfl ?_
  refine r_get (pc' := 4) g dX12_lawSign_1 rfl fl_X12_204 lM_0 (eM_0 w _ _) rfl ?_
  refine r_aload_n (pc' := 5) g dX12_lawSign_4 rfl rfl ?_
  refine r_get (pc' := 8) g dX12_lawSign_5 rfl fl_X12_28 lM_0 (eM_0 w _ _) rfl ?_
  refine r_iload_n (pc' := 9) g dX12_lawSign_8 rfl rfl ?_
  refine r_iald (pc' := 10) g dX12_lawSign_9 rfl lM_7 (eM_7 w _ _) ?_
  refine r_cge (pc' := 13) (tgt := 30) g dX12_lawSign_10 rfl rfl ?_ ?_
  · skip
    refine r_iconst (pc' := 31) (v := -1) g dX12_lawSign_30 rfl rfl ?_
    exact r_iret g e3 dX12_lawSign_31
  · skip
    refine r_aload_n (pc' := 14) g dX12_lawSign_13 rfl rfl ?_
    refine r_get (pc' := 17) g dX12_lawSign_14 rfl fl_X12_25 lM_0 (eM_0 w _ _) rfl ?_
    refine r_bipush (pc' := 19) (v := 40) g dX12_lawSign_17 rfl rfl ?_
    refine r_iload_n (pc' := 20) g dX12_lawSign_19 rfl rfl ?_
    refine r_imul (pc' := 21) g dX12_lawSign_20 rfl ?_
    refine r_aload_n (pc' := 22) g dX12_lawSign_21 rfl rfl ?_
    refine r_get (pc' := 25) g dX12_lawSign_22 rfl fl_X12_204 lM_0 (eM_0 w _ _) rfl ?_
    refine r_iadd (pc' := 26) g dX12_lawSign_25 rfl ?_
    refine r_iald (pc' := 27) g dX12_lawSign_26 rfl lM_6 (eM_6 w _ _) ?_
    refine r_goto (tgt := 31) g dX12_lawSign_27 rfl ?_
    exact r_iret g e3 dX12_lawSign_31
def B_X12_bits_4 (N : Nat) (p0 : Int32) (G : Int32 → Mm → Rs) (rec : (Int32 × Int32) → Mm → Rs) (s : Int32 × Int32) (M : Mm) : Rs :=
  if s.2 < 31 then
      (lt' (s.1 + ((p0 >>> (s.2 &&& 31)) &&& 1)) fun x1 =>
      (rec (x1, s.2 + 1) M))
    else
      (G s.1 M)

def f_X12_bits (N : Nat) (a0 : Int32) (M : Mm) : Rs :=
  itr (B_X12_bits_4 N a0 fun z2 M3 =>
  (some (z2, M3))) N (0, 0) M

set_option maxHeartbeats 4000000 in
set_option maxRecDepth 100000 in
theorem s_X12_bits_4 {w : W0} {Z : Zx} (g : Good KM w Z cX12_bits RX12 0) (e2 : Z.2.2.1 = 3) (e3 : Z.2.2.2 = (some .int)) (N : Nat) (p0 : Int32) (G : Int32 → Mm → Rs) (kG : ∀ (x : Int32) (M : Mm), Sim KM w Z 24 [.null, .int x, .null] [] M (G x M)) : ∀ (n : Nat) (s : Int32 × Int32) (M : Mm), Sim KM w Z 4 [.int p0, .int s.1, .int s.2] [] M (itr (B_X12_bits_4 N p0 G) n s M) := by
  have n1 : 1 < Z.2.2.1 := by rw [e2]; decide
  have n2 : 2 < Z.2.2.1 := by rw [e2]; decide
  refine r_itr (Lf := fun (s : Int32 × Int32) => [.int p0, .int s.1, .int s.2]) (fun rec hr s M => ?_)
  unfold B_X12_bits_4
  refine r_iload_n (pc' := 5) g dX12_bits_4 rfl rfl ?_
  refine r_bipush (pc' := 7) (v := 31) g dX12_bits_5 rfl rfl ?_
  refine r_cge (pc' := 10) (tgt := 24) g dX12_bits_7 rfl rfl ?_ ?_
  · skip
    exact r_weak (Ls1 (Ls2 (Ls1 Ls0))) (kG s.1 M)
  · skip
    refine r_iload_n (pc' := 11) g dX12_bits_10 rfl rfl ?_
    refine r_iload_n (pc' := 12) g dX12_bits_11 rfl rfl ?_
    refine r_iload_n (pc' := 13) g dX12_bits_12 rfl rfl ?_
    refine r_ishr (pc' := 14) g dX12_bits_13 rfl ?_
    refine r_iconst (pc' := 15) (v := 1) g dX12_bits_14 rfl rfl ?_
    refine r_iand (pc' := 16) g dX12_bits_15 rfl ?_
    refine r_iadd (pc' := 17) g dX12_bits_16 rfl ?_
    refine r_ltI (fun x1 => ?_)
    refine r_istore_n (pc' := 18) (L' := [.int p0, .int x1, .int s.2]) g dX12_bits_17 rfl n1 rfl rfl ?_
    refine r_iinc (pc' := 21) (b := 1) (L' := [.int p0, .int x1, .int (s.2 + 1)]) g dX12_bits_18 rfl rfl rfl n2 rfl rfl ?_
    refine r_goto (tgt := 4) g dX12_bits_21 rfl ?_
    exact r_weak (Ls2 (Ls2 (Ls2 Ls0))) (hr (x1, s.2 + 1) M)
set_option maxHeartbeats 4000000 in
set_option maxRecDepth 100000 in
theorem c_X12_bits (l : Launch) (w : W0) (N : Nat) (a0 : Int32) (M : Mm) : Ct l KM w 0 yX12_bits cX12_bits 3 (some .int) [.int a0] M (f_X12_bits N a0 M) := by
  refine ct_of [.int a0, .null, .null] (by decide) (Nat.le_of_ble_eq_true rfl) rfl (fun Z e1 e2 e3 g => ?_)
  have g : Good KM w Z cX12_bits RX12 0 := g
  unfold f_X12_bits
  have n1 : 1 < Z.2.2.1 := by rw [e2]; decide
  have n2 : 2 < Z.2.2.1 := by rw [e2]; decide
  refine r_iconst (pc' := 1) (v := 0) g dX12_bits_0 rfl rfl ?_
  refine r_istore_n (pc' := 2) (L' := [.int a0, .int 0, .null]) g dX12_bits_1 rfl n1 rfl rfl ?_
  refine r_iconst (pc' := 3) (v := 0) g dX12_bits_2 rfl rfl ?_
  refine r_istore_n (pc' := 4) (L' := [.int a0, .int 0, .int 0]) g dX12_bits_3 rfl n2 rfl rfl ?_
  refine r_weak (Ls2 (Ls2 (Ls2 Ls0))) (s_X12_bits_4 g e2 e3 N a0 _ (fun z2 M3 => ?_) N (0, 0) M)
  refine r_iload_n (pc' := 25) g dX12_bits_24 rfl rfl ?_
  exact r_iret g e3 dX12_bits_25
def f_X12_compared (N : Nat) (a1 : Int32) (a2 : Int32) (M : Mm) : Rs :=
  bd (f_X12_lawSign N a1 M) fun r1 M2 =>
  (lt' (wI M2 0 22 ((M2.1 0 22) + 1)) fun M3 =>
  (if r1 = 98 then
    (bd (f_X12_lawSign N a1 M3) fun r10 M11 =>
    (lt' (r10 - 48) fun x12 =>
    (lt' (wI M11 0 22 ((M11.1 0 22) + 1)) fun M13 =>
    (if x12 < 4 then
      (some ((a2 >>> (x12 &&& 31)) &&& 1, M13))
    else
      (some (0, M13))))))
  else
    (bd (f_X12_lawSign N a1 M3) fun r4 M5 =>
    (if inb (((40 * a1) + (M5.1 0 22)) + 1) 480 then
    (lt' ((M5.1 6 (ix (((40 * a1) + (M5.1 0 22)) + 1))) - 48) fun x6 =>
    (lt' (wI M5 0 22 ((M5.1 0 22) + 2)) fun M7 =>
    (bd (f_X12_bits N a2 M7) fun r8 M9 =>
    (if r4 = 60 then
      (if r8 < x6 then
        (some (1, M9))
      else
        (some (0, M9)))
    else
      (if r4 = 62 then
        (if x6 < r8 then
          (some (1, M9))
        else
          (some (0, M9)))
      else
        (if r8 = x6 then
          (some (1, M9))
        else
          (some (0, M9)))))))) else none))))

set_option maxHeartbeats 4000000 in
set_option maxRecDepth 100000 in
theorem c_X12_compared (l : Launch) (w : W0) (N : Nat) (a1 : Int32) (a2 : Int32) (M : Mm) : Ct l KM w 1 yX12_compared cX12_compared 7 (some .int) [rf w 0, .int a1, .int a2] M (f_X12_compared N a1 a2 M) := by
  refine ct_of [rf w 0, .int a1, .int a2, .null, .null, .null, .null] (by decide) (Nat.le_of_ble_eq_true rfl) rfl (fun Z e1 e2 e3 g => ?_)
  have g : Good KM w Z cX12_compared RX12 1 := g
  unfold f_X12_compared
  have n3 : 3 < Z.2.2.1 := by rw [e2]; decide
  have n4 : 4 < Z.2.2.1 := by rw [e2]; decide
  have n5 : 5 < Z.2.2.1 := by rw [e2]; decide
  have n6 : 6 < Z.2.2.1 := by rw [e2]; decide
  refine r_aload_n (pc' := 1) g dX12_compared_0 rfl rfl ?_
  refine r_iload_n (pc' := 2) g dX12_compared_1 rfl rfl ?_
  refine r_callVi (pc' := 5) (As := [.int a1]) (rest := []) g dX12_compared_2 rfl ml_X12_210 mw_X12_lawSign mv_X12_lawSign (Nat.le_of_ble_eq_true rfl) (c_X12_lawSign _ w N a1 M) rfl lM_0 (eM_0 w _ _) rfl rfl (Nat.le_of_ble_eq_true rfl) (fun r1 M2 => ?_)
  refine r_istore_n (pc' := 6) (L' := [rf w 0, .int a1, .int a2, .int r1, .null, .null, .null]) g dX12_compared_5 rfl n3 rfl rfl ?_
  refine r_aload_n (pc' := 7) g dX12_compared_6 rfl rfl ?_
  refine r_dupa (pc' := 8) g dX12_compared_7 rfl ?_
  refine r_get (pc' := 11) g dX12_compared_8 rfl fl_X12_204 lM_0 (eM_0 w _ _) rfl ?_
  refine r_iconst (pc' := 12) (v := 1) g dX12_compared_11 rfl rfl ?_
  refine r_iadd (pc' := 13) g dX12_compared_12 rfl ?_
  refine r_put (pc' := 16) g dX12_compared_13 rfl fl_X12_204 rfl lM_0 (eM_0 w _ _) (Nat.le_of_ble_eq_true rfl) (sM_0_22 w _ _ _) ?_
  refine r_ltM (fun M3 => ?_)
  refine r_iload_n (pc' := 17) g dX12_compared_16 rfl rfl ?_
  refine r_bipush (pc' := 19) (v := 98) g dX12_compared_17 rfl rfl ?_
  refine r_cne (pc' := 22) (tgt := 59) g dX12_compared_19 rfl rfl ?_ ?_
  · skip
    refine r_aload_n (pc' := 60) g dX12_compared_59 rfl rfl ?_
    refine r_iload_n (pc' := 61) g dX12_compared_60 rfl rfl ?_
    refine r_callVi (pc' := 64) (As := [.int a1]) (rest := []) g dX12_compared_61 rfl ml_X12_210 mw_X12_lawSign mv_X12_lawSign (Nat.le_of_ble_eq_true rfl) (c_X12_lawSign _ w N a1 M3) rfl lM_0 (eM_0 w _ _) rfl rfl (Nat.le_of_ble_eq_true rfl) (fun r4 M5 => ?_)
    refine r_istore (pc' := 66) (L' := [rf w 0, .int a1, .int a2, .int r1, .int r4, .null, .null]) g dX12_compared_64 rfl n4 rfl rfl ?_
    refine r_aload_n (pc' := 67) g dX12_compared_66 rfl rfl ?_
    refine r_get (pc' := 70) g dX12_compared_67 rfl fl_X12_25 lM_0 (eM_0 w _ _) rfl ?_
    refine r_bipush (pc' := 72) (v := 40) g dX12_compared_70 rfl rfl ?_
    refine r_iload_n (pc' := 73) g dX12_compared_72 rfl rfl ?_
    refine r_imul (pc' := 74) g dX12_compared_73 rfl ?_
    refine r_aload_n (pc' := 75) g dX12_compared_74 rfl rfl ?_
    refine r_get (pc' := 78) g dX12_compared_75 rfl fl_X12_204 lM_0 (eM_0 w _ _) rfl ?_
    refine r_iadd (pc' := 79) g dX12_compared_78 rfl ?_
    refine r_iconst (pc' := 80) (v := 1) g dX12_compared_79 rfl rfl ?_
    refine r_iadd (pc' := 81) g dX12_compared_80 rfl ?_
    refine r_iald (pc' := 82) g dX12_compared_81 rfl lM_6 (eM_6 w _ _) ?_
    refine r_bipush (pc' := 84) (v := 48) g dX12_compared_82 rfl rfl ?_
    refine r_isub (pc' := 85) g dX12_compared_84 rfl ?_
    refine r_ltI (fun x6 => ?_)
    refine r_istore (pc' := 87) (L' := [rf w 0, .int a1, .int a2, .int r1, .int r4, .int x6, .null]) g dX12_compared_85 rfl n5 rfl rfl ?_
    refine r_aload_n (pc' := 88) g dX12_compared_87 rfl rfl ?_
    refine r_dupa (pc' := 89) g dX12_compared_88 rfl ?_
    refine r_get (pc' := 92) g dX12_compared_89 rfl fl_X12_204 lM_0 (eM_0 w _ _) rfl ?_
    refine r_iconst (pc' := 93) (v := 2) g dX12_compared_92 rfl rfl ?_
    refine r_iadd (pc' := 94) g dX12_compared_93 rfl ?_
    refine r_put (pc' := 97) g dX12_compared_94 rfl fl_X12_204 rfl lM_0 (eM_0 w _ _) (Nat.le_of_ble_eq_true rfl) (sM_0_22 w _ _ _) ?_
    refine r_ltM (fun M7 => ?_)
    refine r_iload_n (pc' := 98) g dX12_compared_97 rfl rfl ?_
    refine r_callSi (pc' := 101) (As := [.int a2]) (rest := []) g dX12_compared_98 rfl ml_X12_213 mw_X12_bits ms_X12_bits (Nat.le_of_ble_eq_true rfl) (c_X12_bits _ w N a2 M7) rfl rfl (Nat.le_of_ble_eq_true rfl) (fun r8 M9 => ?_)
    refine r_istore (pc' := 103) (L' := [rf w 0, .int a1, .int a2, .int r1, .int r4, .int x6, .int r8]) g dX12_compared_101 rfl n6 rfl rfl ?_
    refine r_iload (pc' := 105) g dX12_compared_103 rfl rfl ?_
    refine r_bipush (pc' := 107) (v := 60) g dX12_compared_105 rfl rfl ?_
    refine r_cne (pc' := 110) (tgt := 120) g dX12_compared_107 rfl rfl ?_ ?_
    · skip
      refine r_iload (pc' := 122) g dX12_compared_120 rfl rfl ?_
      refine r_bipush (pc' := 124) (v := 62) g dX12_compared_122 rfl rfl ?_
      refine r_cne (pc' := 127) (tgt := 137) g dX12_compared_124 rfl rfl ?_ ?_
      · skip
        refine r_iload (pc' := 139) g dX12_compared_137 rfl rfl ?_
        refine r_iload (pc' := 141) g dX12_compared_139 rfl rfl ?_
        refine r_cne (pc' := 144) (tgt := 148) g dX12_compared_141 rfl rfl ?_ ?_
        · skip
          refine r_iconst (pc' := 149) (v := 0) g dX12_compared_148 rfl rfl ?_
          exact r_iret g e3 dX12_compared_149
        · skip
          refine r_iconst (pc' := 145) (v := 1) g dX12_compared_144 rfl rfl ?_
          refine r_goto (tgt := 149) g dX12_compared_145 rfl ?_
          exact r_iret g e3 dX12_compared_149
      · skip
        refine r_iload (pc' := 129) g dX12_compared_127 rfl rfl ?_
        refine r_iload (pc' := 131) g dX12_compared_129 rfl rfl ?_
        refine r_cle (pc' := 134) (tgt := 148) g dX12_compared_131 rfl rfl ?_ ?_
        · skip
          refine r_iconst (pc' := 149) (v := 0) g dX12_compared_148 rfl rfl ?_
          exact r_iret g e3 dX12_compared_149
        · skip
          refine r_goto (tgt := 144) g dX12_compared_134 rfl ?_
          refine r_iconst (pc' := 145) (v := 1) g dX12_compared_144 rfl rfl ?_
          refine r_goto (tgt := 149) g dX12_compared_145 rfl ?_
          exact r_iret g e3 dX12_compared_149
    · skip
      refine r_iload (pc' := 112) g dX12_compared_110 rfl rfl ?_
      refine r_iload (pc' := 114) g dX12_compared_112 rfl rfl ?_
      refine r_cge (pc' := 117) (tgt := 148) g dX12_compared_114 rfl rfl ?_ ?_
      · skip
        refine r_iconst (pc' := 149) (v := 0) g dX12_compared_148 rfl rfl ?_
        exact r_iret g e3 dX12_compared_149
      · skip
        refine r_goto (tgt := 144) g dX12_compared_117 rfl ?_
        refine r_iconst (pc' := 145) (v := 1) g dX12_compared_144 rfl rfl ?_
        refine r_goto (tgt := 149) g dX12_compared_145 rfl ?_
        exact r_iret g e3 dX12_compared_149
  · skip
    refine r_aload_n (pc' := 23) g dX12_compared_22 rfl rfl ?_
    refine r_iload_n (pc' := 24) g dX12_compared_23 rfl rfl ?_
    refine r_callVi (pc' := 27) (As := [.int a1]) (rest := []) g dX12_compared_24 rfl ml_X12_210 mw_X12_lawSign mv_X12_lawSign (Nat.le_of_ble_eq_true rfl) (c_X12_lawSign _ w N a1 M3) rfl lM_0 (eM_0 w _ _) rfl rfl (Nat.le_of_ble_eq_true rfl) (fun r10 M11 => ?_)
    refine r_bipush (pc' := 29) (v := 48) g dX12_compared_27 rfl rfl ?_
    refine r_isub (pc' := 30) g dX12_compared_29 rfl ?_
    refine r_ltI (fun x12 => ?_)
    refine r_istore (pc' := 32) (L' := [rf w 0, .int a1, .int a2, .int r1, .int x12, .null, .null]) g dX12_compared_30 rfl n4 rfl rfl ?_
    refine r_aload_n (pc' := 33) g dX12_compared_32 rfl rfl ?_
    refine r_dupa (pc' := 34) g dX12_compared_33 rfl ?_
    refine r_get (pc' := 37) g dX12_compared_34 rfl fl_X12_204 lM_0 (eM_0 w _ _) rfl ?_
    refine r_iconst (pc' := 38) (v := 1) g dX12_compared_37 rfl rfl ?_
    refine r_iadd (pc' := 39) g dX12_compared_38 rfl ?_
    refine r_put (pc' := 42) g dX12_compared_39 rfl fl_X12_204 rfl lM_0 (eM_0 w _ _) (Nat.le_of_ble_eq_true rfl) (sM_0_22 w _ _ _) ?_
    refine r_ltM (fun M13 => ?_)
    refine r_iload (pc' := 44) g dX12_compared_42 rfl rfl ?_
    refine r_iconst (pc' := 45) (v := 4) g dX12_compared_44 rfl rfl ?_
    refine r_cge (pc' := 48) (tgt := 57) g dX12_compared_45 rfl rfl ?_ ?_
    · skip
      refine r_iconst (pc' := 58) (v := 0) g dX12_compared_57 rfl rfl ?_
      exact r_iret g e3 dX12_compared_58
    · skip
      refine r_iload_n (pc' := 49) g dX12_compared_48 rfl rfl ?_
      refine r_iload (pc' := 51) g dX12_compared_49 rfl rfl ?_
      refine r_ishr (pc' := 52) g dX12_compared_51 rfl ?_
      refine r_iconst (pc' := 53) (v := 1) g dX12_compared_52 rfl rfl ?_
      refine r_iand (pc' := 54) g dX12_compared_53 rfl ?_
      refine r_goto (tgt := 58) g dX12_compared_54 rfl ?_
      exact r_iret g e3 dX12_compared_58
def f_X12_push (N : Nat) (a1 : Int32) (M : Mm) : Rs :=
  if inb (M.1 0 21) 44 then
  (lt' (wI M 14 (ix (M.1 0 21)) a1) fun M1 =>
  (lt' (wI M1 0 21 ((M1.1 0 21) + 1)) fun M2 =>
  (some (0, M2)))) else none

set_option maxHeartbeats 4000000 in
set_option maxRecDepth 100000 in
theorem c_X12_push (l : Launch) (w : W0) (N : Nat) (a1 : Int32) (M : Mm) : Ct l KM w 0 yX12_push cX12_push 2 none [rf w 0, .int a1] M (f_X12_push N a1 M) := by
  refine ct_of [rf w 0, .int a1] (by decide) (Nat.le_of_ble_eq_true rfl) rfl (fun Z e1 e2 e3 g => ?_)
  have g : Good KM w Z cX12_push RX12 0 := g
  unfold f_X12_push
  refine r_aload_n (pc' := 1) g dX12_push_0 rfl rfl ?_
  refine r_get (pc' := 4) g dX12_push_1 rfl fl_X12_50 lM_0 (eM_0 w _ _) rfl ?_
  refine r_aload_n (pc' := 5) g dX12_push_4 rfl rfl ?_
  refine r_get (pc' := 8) g dX12_push_5 rfl fl_X12_198 lM_0 (eM_0 w _ _) rfl ?_
  refine r_iload_n (pc' := 9) g dX12_push_8 rfl rfl ?_
  refine r_iast (pc' := 10) g dX12_push_9 rfl lM_14 (fun m => eM_14 w m _) ?_
  refine r_ltM (fun M1 => ?_)
  refine r_aload_n (pc' := 11) g dX12_push_10 rfl rfl ?_
  refine r_dupa (pc' := 12) g dX12_push_11 rfl ?_
  refine r_get (pc' := 15) g dX12_push_12 rfl fl_X12_198 lM_0 (eM_0 w _ _) rfl ?_
  refine r_iconst (pc' := 16) (v := 1) g dX12_push_15 rfl rfl ?_
  refine r_iadd (pc' := 17) g dX12_push_16 rfl ?_
  refine r_put (pc' := 20) g dX12_push_17 rfl fl_X12_198 rfl lM_0 (eM_0 w _ _) (Nat.le_of_ble_eq_true rfl) (sM_0_21 w _ _ _) ?_
  refine r_ltM (fun M2 => ?_)
  exact r_vret g e3 dX12_push_20
def f_X12_rank (N : Nat) (a0 : Int32) (M : Mm) : Rs :=
  if a0 = 40 then
    (some (0, M))
  else
    (if a0 = 124 then
      (some (1, M))
    else
      (if a0 = 38 then
        (some (2, M))
      else
        (if a0 = 33 then
          (some (3, M))
        else
          (if a0 = 42 then
            (some (5, M))
          else
            (some (4, M))))))

set_option maxHeartbeats 4000000 in
set_option maxRecDepth 100000 in
theorem c_X12_rank (l : Launch) (w : W0) (N : Nat) (a0 : Int32) (M : Mm) : Ct l KM w 0 yX12_rank cX12_rank 1 (some .int) [.int a0] M (f_X12_rank N a0 M) := by
  refine ct_of [.int a0] (by decide) (Nat.le_of_ble_eq_true rfl) rfl (fun Z e1 e2 e3 g => ?_)
  have g : Good KM w Z cX12_rank RX12 0 := g
  unfold f_X12_rank
  refine r_iload_n (pc' := 1) g dX12_rank_0 rfl rfl ?_
  refine r_bipush (pc' := 3) (v := 40) g dX12_rank_1 rfl rfl ?_
  refine r_cne (pc' := 6) (tgt := 10) g dX12_rank_3 rfl rfl ?_ ?_
  · skip
    refine r_iload_n (pc' := 11) g dX12_rank_10 rfl rfl ?_
    refine r_bipush (pc' := 13) (v := 124) g dX12_rank_11 rfl rfl ?_
    refine r_cne (pc' := 16) (tgt := 20) g dX12_rank_13 rfl rfl ?_ ?_
    · skip
      refine r_iload_n (pc' := 21) g dX12_rank_20 rfl rfl ?_
      refine r_bipush (pc' := 23) (v := 38) g dX12_rank_21 rfl rfl ?_
      refine r_cne (pc' := 26) (tgt := 30) g dX12_rank_23 rfl rfl ?_ ?_
      · skip
        refine r_iload_n (pc' := 31) g dX12_rank_30 rfl rfl ?_
        refine r_bipush (pc' := 33) (v := 33) g dX12_rank_31 rfl rfl ?_
        refine r_cne (pc' := 36) (tgt := 40) g dX12_rank_33 rfl rfl ?_ ?_
        · skip
          refine r_iload_n (pc' := 41) g dX12_rank_40 rfl rfl ?_
          refine r_bipush (pc' := 43) (v := 42) g dX12_rank_41 rfl rfl ?_
          refine r_cne (pc' := 46) (tgt := 50) g dX12_rank_43 rfl rfl ?_ ?_
          · skip
            refine r_iconst (pc' := 51) (v := 4) g dX12_rank_50 rfl rfl ?_
            exact r_iret g e3 dX12_rank_51
          · skip
            refine r_iconst (pc' := 47) (v := 5) g dX12_rank_46 rfl rfl ?_
            refine r_goto (tgt := 51) g dX12_rank_47 rfl ?_
            exact r_iret g e3 dX12_rank_51
        · skip
          refine r_iconst (pc' := 37) (v := 3) g dX12_rank_36 rfl rfl ?_
          refine r_goto (tgt := 51) g dX12_rank_37 rfl ?_
          exact r_iret g e3 dX12_rank_51
      · skip
        refine r_iconst (pc' := 27) (v := 2) g dX12_rank_26 rfl rfl ?_
        refine r_goto (tgt := 51) g dX12_rank_27 rfl ?_
        exact r_iret g e3 dX12_rank_51
    · skip
      refine r_iconst (pc' := 17) (v := 1) g dX12_rank_16 rfl rfl ?_
      refine r_goto (tgt := 51) g dX12_rank_17 rfl ?_
      exact r_iret g e3 dX12_rank_51
  · skip
    refine r_iconst (pc' := 7) (v := 0) g dX12_rank_6 rfl rfl ?_
    refine r_goto (tgt := 51) g dX12_rank_7 rfl ?_
    exact r_iret g e3 dX12_rank_51
def B_X12_works_0 (N : Nat) (p1 : Int32) (G : Unit → Mm → Rs) (rec : Unit → Mm → Rs) (s : Unit) (M : Mm) : Rs :=
  if 0 < (M.1 0 20) then
      (if inb ((M.1 0 20) - 1) 44 then
      (bd (f_X12_rank N (M.1 13 (ix ((M.1 0 20) - 1))) M) fun r1 M2 =>
      (if r1 < p1 then
        (G () M2)
      else
        (lt' (wI M2 0 20 ((M2.1 0 20) - 1)) fun M3 =>
        (if inb (M3.1 0 20) 44 then
        (if (M3.1 13 (ix (M3.1 0 20))) = 33 then
          (if inb ((M3.1 0 21) - 1) 44 then
          (if inb ((M3.1 0 21) - 1) 44 then
          (lt' (wI M3 14 (ix ((M3.1 0 21) - 1)) (1 - (M3.1 14 (ix ((M3.1 0 21) - 1))))) fun M11 =>
          (rec () M11)) else none) else none)
        else
          (lt' (wI M3 0 21 ((M3.1 0 21) - 1)) fun M4 =>
          (if inb ((M4.1 0 21) - 1) 44 then
          (lt' (M4.1 14 (ix ((M4.1 0 21) - 1))) fun x5 =>
          (if inb (M4.1 0 21) 44 then
          (if (M3.1 13 (ix (M3.1 0 20))) = 124 then
            (if inb ((M4.1 0 21) - 1) 44 then
            (lt' (wI M4 14 (ix ((M4.1 0 21) - 1)) (x5 ||| (M4.1 14 (ix (M4.1 0 21))))) fun M10 =>
            (rec () M10)) else none)
          else
            (if (M3.1 13 (ix (M3.1 0 20))) = 38 then
              (if inb ((M4.1 0 21) - 1) 44 then
              (lt' (wI M4 14 (ix ((M4.1 0 21) - 1)) (x5 &&& (M4.1 14 (ix (M4.1 0 21))))) fun M9 =>
              (rec () M9)) else none)
            else
              (if (M3.1 13 (ix (M3.1 0 20))) = 42 then
                (if inb ((M4.1 0 21) - 1) 44 then
                (lt' (wI M4 14 (ix ((M4.1 0 21) - 1)) (x5 * (M4.1 14 (ix (M4.1 0 21))))) fun M8 =>
                (rec () M8)) else none)
              else
                (if (M3.1 13 (ix (M3.1 0 20))) = 43 then
                  (if inb ((M4.1 0 21) - 1) 44 then
                  (lt' (wI M4 14 (ix ((M4.1 0 21) - 1)) (x5 + (M4.1 14 (ix (M4.1 0 21))))) fun M7 =>
                  (rec () M7)) else none)
                else
                  (if inb ((M4.1 0 21) - 1) 44 then
                  (lt' (wI M4 14 (ix ((M4.1 0 21) - 1)) (x5 - (M4.1 14 (ix (M4.1 0 21))))) fun M6 =>
                  (rec () M6)) else none))))) else none)) else none))) else none)))) else none)
    else
      (G () M)

def f_X12_works (N : Nat) (a1 : Int32) (M : Mm) : Rs :=
  itr (B_X12_works_0 N a1 fun z12 M13 =>
  (some (0, M13))) N () M

set_option maxHeartbeats 4000000 in
set_option maxRecDepth 100000 in
theorem s_X12_works_0 {w : W0} {Z : Zx} (g : Good KM w Z cX12_works RX12 1) (e2 : Z.2.2.1 = 5) (e3 : Z.2.2.2 = none) (N : Nat) (p1 : Int32) (G : Unit → Mm → Rs) (kG : ∀ (x : Unit) (M : Mm), Sim KM w Z 181 [.null, .null, .null, .null, .null] [] M (G x M)) : ∀ (n : Nat) (s : Unit) (M : Mm), Sim KM w Z 0 [rf w 0, .int p1, .null, .null, .null] [] M (itr (B_X12_works_0 N p1 G) n s M) := by
  have n2 : 2 < Z.2.2.1 := by rw [e2]; decide
  have n3 : 3 < Z.2.2.1 := by rw [e2]; decide
  have n4 : 4 < Z.2.2.1 := by rw [e2]; decide
  refine r_itr (Lf := fun (s : Unit) => [rf w 0, .int p1, .null, .null, .null]) (fun rec hr s M => ?_)
  unfold B_X12_works_0
  refine r_aload_n (pc' := 1) g dX12_works_0 rfl rfl ?_
  refine r_get (pc' := 4) g dX12_works_1 rfl fl_X12_201 lM_0 (eM_0 w _ _) rfl ?_
  refine r_ifle (pc' := 7) (tgt := 181) g dX12_works_4 rfl rfl ?_ ?_
  · skip
    exact r_weak (Ls1 (Ls1 (Ls1 (Ls1 (Ls1 Ls0))))) (kG () M)
  · skip
    refine r_aload_n (pc' := 8) g dX12_works_7 rfl rfl ?_
    refine r_get (pc' := 11) g dX12_works_8 rfl fl_X12_47 lM_0 (eM_0 w _ _) rfl ?_
    refine r_aload_n (pc' := 12) g dX12_works_11 rfl rfl ?_
    refine r_get (pc' := 15) g dX12_works_12 rfl fl_X12_201 lM_0 (eM_0 w _ _) rfl ?_
    refine r_iconst (pc' := 16) (v := 1) g dX12_works_15 rfl rfl ?_
    refine r_isub (pc' := 17) g dX12_works_16 rfl ?_
    refine r_iald (pc' := 18) g dX12_works_17 rfl lM_13 (eM_13 w _ _) ?_
    refine r_callSi (pc' := 21) (As := [.int (M.1 13 (ix ((M.1 0 20) - 1)))]) (rest := []) g dX12_works_18 rfl ml_X12_207 mw_X12_rank ms_X12_rank (Nat.le_of_ble_eq_true rfl) (c_X12_rank _ w N (M.1 13 (ix ((M.1 0 20) - 1))) M) rfl rfl (Nat.le_of_ble_eq_true rfl) (fun r1 M2 => ?_)
    refine r_iload_n (pc' := 22) g dX12_works_21 rfl rfl ?_
    refine r_clt (pc' := 25) (tgt := 181) g dX12_works_22 rfl rfl ?_ ?_
    · skip
      exact r_weak (Ls1 (Ls1 (Ls1 (Ls1 (Ls1 Ls0))))) (kG () M2)
    · skip
      refine r_aload_n (pc' := 26) g dX12_works_25 rfl rfl ?_
      refine r_dupa (pc' := 27) g dX12_works_26 rfl ?_
      refine r_get (pc' := 30) g dX12_works_27 rfl fl_X12_201 lM_0 (eM_0 w _ _) rfl ?_
      refine r_iconst (pc' := 31) (v := 1) g dX12_works_30 rfl rfl ?_
      refine r_isub (pc' := 32) g dX12_works_31 rfl ?_
      refine r_put (pc' := 35) g dX12_works_32 rfl fl_X12_201 rfl lM_0 (eM_0 w _ _) (Nat.le_of_ble_eq_true rfl) (sM_0_20 w _ _ _) ?_
      refine r_ltM (fun M3 => ?_)
      refine r_aload_n (pc' := 36) g dX12_works_35 rfl rfl ?_
      refine r_get (pc' := 39) g dX12_works_36 rfl fl_X12_47 lM_0 (eM_0 w _ _) rfl ?_
      refine r_aload_n (pc' := 40) g dX12_works_39 rfl rfl ?_
      refine r_get (pc' := 43) g dX12_works_40 rfl fl_X12_201 lM_0 (eM_0 w _ _) rfl ?_
      refine r_iald (pc' := 44) g dX12_works_43 rfl lM_13 (eM_13 w _ _) ?_
      refine r_istore_n (pc' := 45) (L' := [rf w 0, .int p1, .int (M3.1 13 (ix (M3.1 0 20))), .null, .null]) g dX12_works_44 rfl n2 rfl rfl ?_
      refine r_iload_n (pc' := 46) g dX12_works_45 rfl rfl ?_
      refine r_bipush (pc' := 48) (v := 33) g dX12_works_46 rfl rfl ?_
      refine r_cne (pc' := 51) (tgt := 78) g dX12_works_48 rfl rfl ?_ ?_
      · skip
        refine r_aload_n (pc' := 79) g dX12_works_78 rfl rfl ?_
        refine r_dupa (pc' := 80) g dX12_works_79 rfl ?_
        refine r_get (pc' := 83) g dX12_works_80 rfl fl_X12_198 lM_0 (eM_0 w _ _) rfl ?_
        refine r_iconst (pc' := 84) (v := 1) g dX12_works_83 rfl rfl ?_
        refine r_isub (pc' := 85) g dX12_works_84 rfl ?_
        refine r_put (pc' := 88) g dX12_works_85 rfl fl_X12_198 rfl lM_0 (eM_0 w _ _) (Nat.le_of_ble_eq_true rfl) (sM_0_21 w _ _ _) ?_
        refine r_ltM (fun M4 => ?_)
        refine r_aload_n (pc' := 89) g dX12_works_88 rfl rfl ?_
        refine r_get (pc' := 92) g dX12_works_89 rfl fl_X12_50 lM_0 (eM_0 w _ _) rfl ?_
        refine r_aload_n (pc' := 93) g dX12_works_92 rfl rfl ?_
        refine r_get (pc' := 96) g dX12_works_93 rfl fl_X12_198 lM_0 (eM_0 w _ _) rfl ?_
        refine r_iconst (pc' := 97) (v := 1) g dX12_works_96 rfl rfl ?_
        refine r_isub (pc' := 98) g dX12_works_97 rfl ?_
        refine r_iald (pc' := 99) g dX12_works_98 rfl lM_14 (eM_14 w _ _) ?_
        refine r_ltI (fun x5 => ?_)
        refine r_istore_n (pc' := 100) (L' := [rf w 0, .int p1, .int (M3.1 13 (ix (M3.1 0 20))), .int x5, .null]) g dX12_works_99 rfl n3 rfl rfl ?_
        refine r_aload_n (pc' := 101) g dX12_works_100 rfl rfl ?_
        refine r_get (pc' := 104) g dX12_works_101 rfl fl_X12_50 lM_0 (eM_0 w _ _) rfl ?_
        refine r_aload_n (pc' := 105) g dX12_works_104 rfl rfl ?_
        refine r_get (pc' := 108) g dX12_works_105 rfl fl_X12_198 lM_0 (eM_0 w _ _) rfl ?_
        refine r_iald (pc' := 109) g dX12_works_108 rfl lM_14 (eM_14 w _ _) ?_
        refine r_istore (pc' := 111) (L' := [rf w 0, .int p1, .int (M3.1 13 (ix (M3.1 0 20))), .int x5, .int (M4.1 14 (ix (M4.1 0 21)))]) g dX12_works_109 rfl n4 rfl rfl ?_
        refine r_aload_n (pc' := 112) g dX12_works_111 rfl rfl ?_
        refine r_get (pc' := 115) g dX12_works_112 rfl fl_X12_50 lM_0 (eM_0 w _ _) rfl ?_
        refine r_aload_n (pc' := 116) g dX12_works_115 rfl rfl ?_
        refine r_get (pc' := 119) g dX12_works_116 rfl fl_X12_198 lM_0 (eM_0 w _ _) rfl ?_
        refine r_iconst (pc' := 120) (v := 1) g dX12_works_119 rfl rfl ?_
        refine r_isub (pc' := 121) g dX12_works_120 rfl ?_
        refine r_iload_n (pc' := 122) g dX12_works_121 rfl rfl ?_
        refine r_bipush (pc' := 124) (v := 124) g dX12_works_122 rfl rfl ?_
        refine r_cne (pc' := 127) (tgt := 134) g dX12_works_124 rfl rfl ?_ ?_
        · skip
          refine r_iload_n (pc' := 135) g dX12_works_134 rfl rfl ?_
          refine r_bipush (pc' := 137) (v := 38) g dX12_works_135 rfl rfl ?_
          refine r_cne (pc' := 140) (tgt := 147) g dX12_works_137 rfl rfl ?_ ?_
          · skip
            refine r_iload_n (pc' := 148) g dX12_works_147 rfl rfl ?_
            refine r_bipush (pc' := 150) (v := 42) g dX12_works_148 rfl rfl ?_
            refine r_cne (pc' := 153) (tgt := 160) g dX12_works_150 rfl rfl ?_ ?_
            · skip
              refine r_iload_n (pc' := 161) g dX12_works_160 rfl rfl ?_
              refine r_bipush (pc' := 163) (v := 43) g dX12_works_161 rfl rfl ?_
              refine r_cne (pc' := 166) (tgt := 173) g dX12_works_163 rfl rfl ?_ ?_
              · skip
                refine r_iload_n (pc' := 174) g dX12_works_173 rfl rfl ?_
                refine r_iload (pc' := 176) g dX12_works_174 rfl rfl ?_
                refine r_isub (pc' := 177) g dX12_works_176 rfl ?_
                refine r_iast (pc' := 178) g dX12_works_177 rfl lM_14 (fun m => eM_14 w m _) ?_
                refine r_ltM (fun M6 => ?_)
                refine r_goto (tgt := 0) g dX12_works_178 rfl ?_
                exact r_weak (Ls2 (Ls2 (Ls1 (Ls1 (Ls1 Ls0))))) (hr () M6)
              · skip
                refine r_iload_n (pc' := 167) g dX12_works_166 rfl rfl ?_
                refine r_iload (pc' := 169) g dX12_works_167 rfl rfl ?_
                refine r_iadd (pc' := 170) g dX12_works_169 rfl ?_
                refine r_goto (tgt := 177) g dX12_works_170 rfl ?_
                refine r_iast (pc' := 178) g dX12_works_177 rfl lM_14 (fun m => eM_14 w m _) ?_
                refine r_ltM (fun M7 => ?_)
                refine r_goto (tgt := 0) g dX12_works_178 rfl ?_
                exact r_weak (Ls2 (Ls2 (Ls1 (Ls1 (Ls1 Ls0))))) (hr () M7)
            · skip
              refine r_iload_n (pc' := 154) g dX12_works_153 rfl rfl ?_
              refine r_iload (pc' := 156) g dX12_works_154 rfl rfl ?_
              refine r_imul (pc' := 157) g dX12_works_156 rfl ?_
              refine r_goto (tgt := 177) g dX12_works_157 rfl ?_
              refine r_iast (pc' := 178) g dX12_works_177 rfl lM_14 (fun m => eM_14 w m _) ?_
              refine r_ltM (fun M8 => ?_)
              refine r_goto (tgt := 0) g dX12_works_178 rfl ?_
              exact r_weak (Ls2 (Ls2 (Ls1 (Ls1 (Ls1 Ls0))))) (hr () M8)
          · skip
            refine r_iload_n (pc' := 141) g dX12_works_140 rfl rfl ?_
            refine r_iload (pc' := 143) g dX12_works_141 rfl rfl ?_
            refine r_iand (pc' := 144) g dX12_works_143 rfl ?_
            refine r_goto (tgt := 177) g dX12_works_144 rfl ?_
            refine r_iast (pc' := 178) g dX12_works_177 rfl lM_14 (fun m => eM_14 w m _) ?_
            refine r_ltM (fun M9 => ?_)
            refine r_goto (tgt := 0) g dX12_works_178 rfl ?_
            exact r_weak (Ls2 (Ls2 (Ls1 (Ls1 (Ls1 Ls0))))) (hr () M9)
        · skip
          refine r_iload_n (pc' := 128) g dX12_works_127 rfl rfl ?_
          refine r_iload (pc' := 130) g dX12_works_128 rfl rfl ?_
          refine r_ior (pc' := 131) g dX12_works_130 rfl ?_
          refine r_goto (tgt := 177) g dX12_works_131 rfl ?_
          refine r_iast (pc' := 178) g dX12_works_177 rfl lM_14 (fun m => eM_14 w m _) ?_
          refine r_ltM (fun M10 => ?_)
          refine r_goto (tgt := 0) g dX12_works_178 rfl ?_
          exact r_weak (Ls2 (Ls2 (Ls1 (Ls1 (Ls1 Ls0))))) (hr () M10)
      · skip
        refine r_aload_n (pc' := 52) g dX12_works_51 rfl rfl ?_
        refine r_get (pc' := 55) g dX12_works_52 rfl fl_X12_50 lM_0 (eM_0 w _ _) rfl ?_
        refine r_aload_n (pc' := 56) g dX12_works_55 rfl rfl ?_
        refine r_get (pc' := 59) g dX12_works_56 rfl fl_X12_198 lM_0 (eM_0 w _ _) rfl ?_
        refine r_iconst (pc' := 60) (v := 1) g dX12_works_59 rfl rfl ?_
        refine r_isub (pc' := 61) g dX12_works_60 rfl ?_
        refine r_iconst (pc' := 62) (v := 1) g dX12_works_61 rfl rfl ?_
        refine r_aload_n (pc' := 63) g dX12_works_62 rfl rfl ?_
        refine r_get (pc' := 66) g dX12_works_63 rfl fl_X12_50 lM_0 (eM_0 w _ _) rfl ?_
        refine r_aload_n (pc' := 67) g dX12_works_66 rfl rfl ?_
        refine r_get (pc' := 70) g dX12_works_67 rfl fl_X12_198 lM_0 (eM_0 w _ _) rfl ?_
        refine r_iconst (pc' := 71) (v := 1) g dX12_works_70 rfl rfl ?_
        refine r_isub (pc' := 72) g dX12_works_71 rfl ?_
        refine r_iald (pc' := 73) g dX12_works_72 rfl lM_14 (eM_14 w _ _) ?_
        refine r_isub (pc' := 74) g dX12_works_73 rfl ?_
        refine r_iast (pc' := 75) g dX12_works_74 rfl lM_14 (fun m => eM_14 w m _) ?_
        refine r_ltM (fun M11 => ?_)
        refine r_goto (tgt := 0) g dX12_works_75 rfl ?_
        exact r_weak (Ls2 (Ls2 (Ls1 (Ls1 (Ls1 Ls0))))) (hr () M11)
set_option maxHeartbeats 4000000 in
set_option maxRecDepth 100000 in
theorem c_X12_works (l : Launch) (w : W0) (N : Nat) (a1 : Int32) (M : Mm) : Ct l KM w 1 yX12_works cX12_works 5 none [rf w 0, .int a1] M (f_X12_works N a1 M) := by
  refine ct_of [rf w 0, .int a1, .null, .null, .null] (by decide) (Nat.le_of_ble_eq_true rfl) rfl (fun Z e1 e2 e3 g => ?_)
  have g : Good KM w Z cX12_works RX12 1 := g
  unfold f_X12_works
  refine r_weak (Ls2 (Ls2 (Ls1 (Ls1 (Ls1 Ls0))))) (s_X12_works_0 g e2 e3 N a1 _ (fun z12 M13 => ?_) N () M)
  exact r_vret g e3 dX12_works_181
def f_X12_waitsFor (N : Nat) (a1 : Int32) (M : Mm) : Rs :=
  if inb (M.1 0 20) 44 then
  (lt' (wI M 13 (ix (M.1 0 20)) a1) fun M1 =>
  (lt' (wI M1 0 20 ((M1.1 0 20) + 1)) fun M2 =>
  (some (0, M2)))) else none

set_option maxHeartbeats 4000000 in
set_option maxRecDepth 100000 in
theorem c_X12_waitsFor (l : Launch) (w : W0) (N : Nat) (a1 : Int32) (M : Mm) : Ct l KM w 0 yX12_waitsFor cX12_waitsFor 2 none [rf w 0, .int a1] M (f_X12_waitsFor N a1 M) := by
  refine ct_of [rf w 0, .int a1] (by decide) (Nat.le_of_ble_eq_true rfl) rfl (fun Z e1 e2 e3 g => ?_)
  have g : Good KM w Z cX12_waitsFor RX12 0 := g
  unfold f_X12_waitsFor
  refine r_aload_n (pc' := 1) g dX12_waitsFor_0 rfl rfl ?_
  refine r_get (pc' := 4) g dX12_waitsFor_1 rfl fl_X12_47 lM_0 (eM_0 w _ _) rfl ?_
  refine r_aload_n (pc' := 5) g dX12_waitsFor_4 rfl rfl ?_
  refine r_get (pc' := 8) g dX12_waitsFor_5 rfl fl_X12_201 lM_0 (eM_0 w _ _) rfl ?_
  refine r_iload_n (pc' := 9) g dX12_waitsFor_8 rfl rfl ?_
  refine r_iast (pc' := 10) g dX12_waitsFor_9 rfl lM_13 (fun m => eM_13 w m _) ?_
  refine r_ltM (fun M1 => ?_)
  refine r_aload_n (pc' := 11) g dX12_waitsFor_10 rfl rfl ?_
  refine r_dupa (pc' := 12) g dX12_waitsFor_11 rfl ?_
  refine r_get (pc' := 15) g dX12_waitsFor_12 rfl fl_X12_201 lM_0 (eM_0 w _ _) rfl ?_
  refine r_iconst (pc' := 16) (v := 1) g dX12_waitsFor_15 rfl rfl ?_
  refine r_iadd (pc' := 17) g dX12_waitsFor_16 rfl ?_
  refine r_put (pc' := 20) g dX12_waitsFor_17 rfl fl_X12_201 rfl lM_0 (eM_0 w _ _) (Nat.le_of_ble_eq_true rfl) (sM_0_20 w _ _ _) ?_
  refine r_ltM (fun M2 => ?_)
  exact r_vret g e3 dX12_waitsFor_20
def B_X12_letsBy_15 (N : Nat) (p1 : Int32) (p2 : Int32) (G : Unit → Mm → Rs) (rec : Unit → Mm → Rs) (s : Unit) (M : Mm) : Rs :=
  if inb p1 12 then
    (if (M.1 0 22) < (M.1 7 (ix p1)) then
      (bd (f_X12_lawSign N p1 M) fun r4 M5 =>
      (lt' (fun (s6 : Unit) (M7 : Mm) =>
        ((bd (f_X12_compared N p1 p2 M7) fun r9 M10 =>
        (bd (f_X12_push N r9 M10) fun r11 M12 =>
        (bd (f_X12_works N 3 M12) fun r13 M14 =>
        (rec () M14)))) : Rs)) fun jn8 =>
      (if r4 = 98 then
        (jn8 () M5)
      else
        (if r4 = 110 then
          (jn8 () M5)
        else
          (lt' (wI M5 0 22 ((M5.1 0 22) + 1)) fun M15 =>
          (if r4 = 41 then
            (bd (f_X12_works N 1 M15) fun r27 M28 =>
            (lt' (wI M28 0 20 ((M28.1 0 20) - 1)) fun M29 =>
            (bd (f_X12_works N 3 M29) fun r30 M31 =>
            (rec () M31))))
          else
            (lt' (fun (s16 : Unit) (M17 : Mm) =>
              ((bd (f_X12_rank N r4 M17) fun r19 M20 =>
              (bd (f_X12_works N r19 M20) fun r21 M22 =>
              (bd (f_X12_waitsFor N r4 M22) fun r23 M24 =>
              (rec () M24)))) : Rs)) fun jn18 =>
            (if r4 = 38 then
              (jn18 () M15)
            else
              (if r4 = 124 then
                (jn18 () M15)
              else
                (bd (f_X12_waitsFor N r4 M15) fun r25 M26 =>
                (rec () M26)))))))))))
    else
      (G () M)) else none

def f_X12_letsBy (N : Nat) (a1 : Int32) (a2 : Int32) (M : Mm) : Rs :=
  lt' (wI M 0 22 0) fun M1 =>
  (lt' (wI M1 0 20 0) fun M2 =>
  (lt' (wI M2 0 21 0) fun M3 =>
  (itr (B_X12_letsBy_15 N a1 a2 fun z32 M33 =>
  (bd (f_X12_works N 1 M33) fun r34 M35 =>
  (if (M35.1 14 (ix 0)) = 1 then
    (some (1, M35))
  else
    (some (0, M35))))) N () M3)))

set_option maxHeartbeats 4000000 in
set_option maxRecDepth 100000 in
theorem s_X12_letsBy_15 {w : W0} {Z : Zx} (g : Good KM w Z cX12_letsBy RX12 2) (e2 : Z.2.2.1 = 4) (e3 : Z.2.2.2 = (some .boolean)) (N : Nat) (p1 : Int32) (p2 : Int32) (G : Unit → Mm → Rs) (kG : ∀ (x : Unit) (M : Mm), Sim KM w Z 131 [rf w 0, .null, .null, .null] [] M (G x M)) : ∀ (n : Nat) (s : Unit) (M : Mm), Sim KM w Z 15 [rf w 0, .int p1, .int p2, .null] [] M (itr (B_X12_letsBy_15 N p1 p2 G) n s M) := by
  have n3 : 3 < Z.2.2.1 := by rw [e2]; decide
  refine r_itr (Lf := fun (s : Unit) => [rf w 0, .int p1, .int p2, .null]) (fun rec hr s M => ?_)
  unfold B_X12_letsBy_15
  refine r_aload_n (pc' := 16) g dX12_letsBy_15 rfl rfl ?_
  refine r_get (pc' := 19) g dX12_letsBy_16 rfl fl_X12_204 lM_0 (eM_0 w _ _) rfl ?_
  refine r_aload_n (pc' := 20) g dX12_letsBy_19 rfl rfl ?_
  refine r_get (pc' := 23) g dX12_letsBy_20 rfl fl_X12_28 lM_0 (eM_0 w _ _) rfl ?_
  refine r_iload_n (pc' := 24) g dX12_letsBy_23 rfl rfl ?_
  refine r_iald (pc' := 25) g dX12_letsBy_24 rfl lM_7 (eM_7 w _ _) ?_
  refine r_cge (pc' := 28) (tgt := 131) g dX12_letsBy_25 rfl rfl ?_ ?_
  · skip
    exact r_weak (Ls2 (Ls1 (Ls1 (Ls1 Ls0)))) (kG () M)
  · skip
    refine r_aload_n (pc' := 29) g dX12_letsBy_28 rfl rfl ?_
    refine r_iload_n (pc' := 30) g dX12_letsBy_29 rfl rfl ?_
    refine r_callVi (pc' := 33) (As := [.int p1]) (rest := []) g dX12_letsBy_30 rfl ml_X12_210 mw_X12_lawSign mv_X12_lawSign (Nat.le_of_ble_eq_true rfl) (c_X12_lawSign _ w N p1 M) rfl lM_0 (eM_0 w _ _) rfl rfl (Nat.le_of_ble_eq_true rfl) (fun r4 M5 => ?_)
    refine r_istore_n (pc' := 34) (L' := [rf w 0, .int p1, .int p2, .int r4]) g dX12_letsBy_33 rfl n3 rfl rfl ?_
    refine r_iload_n (pc' := 35) g dX12_letsBy_34 rfl rfl ?_
    refine r_bipush (pc' := 37) (v := 98) g dX12_letsBy_35 rfl rfl ?_
    refine r_jn (pj := 46) (Lj := fun (s6 : Unit) => [rf w 0, .int p1, .int p2, .null]) (stj := fun (s6 : Unit) => []) (fun s6 M7 => ?_) (fun jn8 hjn8 => ?_)
    · skip
      refine r_aload_n (pc' := 47) g dX12_letsBy_46 rfl rfl ?_
      refine r_aload_n (pc' := 48) g dX12_letsBy_47 rfl rfl ?_
      refine r_iload_n (pc' := 49) g dX12_letsBy_48 rfl rfl ?_
      refine r_iload_n (pc' := 50) g dX12_letsBy_49 rfl rfl ?_
      refine r_callVi (pc' := 53) (As := [.int p1, .int p2]) (rest := [rf w 0]) g dX12_letsBy_50 rfl ml_X12_216 mw_X12_compared mv_X12_compared (Nat.le_of_ble_eq_true rfl) (c_X12_compared _ w N p1 p2 M7) rfl lM_0 (eM_0 w _ _) rfl rfl (Nat.le_of_ble_eq_true rfl) (fun r9 M10 => ?_)
      refine r_callVv (pc' := 56) (As := [.int r9]) (rest := []) g dX12_letsBy_53 rfl ml_X12_219 mw_X12_push mv_X12_push (Nat.le_of_ble_eq_true rfl) (c_X12_push _ w N r9 M10) rfl lM_0 (eM_0 w _ _) rfl rfl (Nat.le_of_ble_eq_true rfl) (fun r11 M12 => ?_)
      refine r_aload_n (pc' := 57) g dX12_letsBy_56 rfl rfl ?_
      refine r_iconst (pc' := 58) (v := 3) g dX12_letsBy_57 rfl rfl ?_
      refine r_callVv (pc' := 61) (As := [.int 3]) (rest := []) g dX12_letsBy_58 rfl ml_X12_223 mw_X12_works mv_X12_works (Nat.le_of_ble_eq_true rfl) (c_X12_works _ w N 3 M12) rfl lM_0 (eM_0 w _ _) rfl rfl (Nat.le_of_ble_eq_true rfl) (fun r13 M14 => ?_)
      refine r_goto (tgt := 15) g dX12_letsBy_61 rfl ?_
      exact r_weak (Ls2 (Ls2 (Ls2 (Ls1 Ls0)))) (hr () M14)
    refine r_ceq (pc' := 40) (tgt := 46) g dX12_letsBy_37 rfl rfl ?_ ?_
    · skip
      exact r_weak (Ls2 (Ls2 (Ls2 (Ls1 Ls0)))) (hjn8 () M5)
    · skip
      refine r_iload_n (pc' := 41) g dX12_letsBy_40 rfl rfl ?_
      refine r_bipush (pc' := 43) (v := 110) g dX12_letsBy_41 rfl rfl ?_
      refine r_cne (pc' := 46) (tgt := 64) g dX12_letsBy_43 rfl rfl ?_ ?_
      · skip
        refine r_aload_n (pc' := 65) g dX12_letsBy_64 rfl rfl ?_
        refine r_dupa (pc' := 66) g dX12_letsBy_65 rfl ?_
        refine r_get (pc' := 69) g dX12_letsBy_66 rfl fl_X12_204 lM_0 (eM_0 w _ _) rfl ?_
        refine r_iconst (pc' := 70) (v := 1) g dX12_letsBy_69 rfl rfl ?_
        refine r_iadd (pc' := 71) g dX12_letsBy_70 rfl ?_
        refine r_put (pc' := 74) g dX12_letsBy_71 rfl fl_X12_204 rfl lM_0 (eM_0 w _ _) (Nat.le_of_ble_eq_true rfl) (sM_0_22 w _ _ _) ?_
        refine r_ltM (fun M15 => ?_)
        refine r_iload_n (pc' := 75) g dX12_letsBy_74 rfl rfl ?_
        refine r_bipush (pc' := 77) (v := 41) g dX12_letsBy_75 rfl rfl ?_
        refine r_cne (pc' := 80) (tgt := 103) g dX12_letsBy_77 rfl rfl ?_ ?_
        · skip
          refine r_iload_n (pc' := 104) g dX12_letsBy_103 rfl rfl ?_
          refine r_bipush (pc' := 106) (v := 38) g dX12_letsBy_104 rfl rfl ?_
          refine r_jn (pj := 115) (Lj := fun (s16 : Unit) => [rf w 0, .int p1, .int p2, .int r4]) (stj := fun (s16 : Unit) => []) (fun s16 M17 => ?_) (fun jn18 hjn18 => ?_)
          · skip
            refine r_aload_n (pc' := 116) g dX12_letsBy_115 rfl rfl ?_
            refine r_iload_n (pc' := 117) g dX12_letsBy_116 rfl rfl ?_
            refine r_callSi (pc' := 120) (As := [.int r4]) (rest := [rf w 0]) g dX12_letsBy_117 rfl ml_X12_207 mw_X12_rank ms_X12_rank (Nat.le_of_ble_eq_true rfl) (c_X12_rank _ w N r4 M17) rfl rfl (Nat.le_of_ble_eq_true rfl) (fun r19 M20 => ?_)
            refine r_callVv (pc' := 123) (As := [.int r19]) (rest := []) g dX12_letsBy_120 rfl ml_X12_223 mw_X12_works mv_X12_works (Nat.le_of_ble_eq_true rfl) (c_X12_works _ w N r19 M20) rfl lM_0 (eM_0 w _ _) rfl rfl (Nat.le_of_ble_eq_true rfl) (fun r21 M22 => ?_)
            refine r_aload_n (pc' := 124) g dX12_letsBy_123 rfl rfl ?_
            refine r_iload_n (pc' := 125) g dX12_letsBy_124 rfl rfl ?_
            refine r_callVv (pc' := 128) (As := [.int r4]) (rest := []) g dX12_letsBy_125 rfl ml_X12_226 mw_X12_waitsFor mv_X12_waitsFor (Nat.le_of_ble_eq_true rfl) (c_X12_waitsFor _ w N r4 M22) rfl lM_0 (eM_0 w _ _) rfl rfl (Nat.le_of_ble_eq_true rfl) (fun r23 M24 => ?_)
            refine r_goto (tgt := 15) g dX12_letsBy_128 rfl ?_
            exact r_weak (Ls2 (Ls2 (Ls2 (Ls1 Ls0)))) (hr () M24)
          refine r_ceq (pc' := 109) (tgt := 115) g dX12_letsBy_106 rfl rfl ?_ ?_
          · skip
            exact r_weak (Ls2 (Ls2 (Ls2 (Ls2 Ls0)))) (hjn18 () M15)
          · skip
            refine r_iload_n (pc' := 110) g dX12_letsBy_109 rfl rfl ?_
            refine r_bipush (pc' := 112) (v := 124) g dX12_letsBy_110 rfl rfl ?_
            refine r_cne (pc' := 115) (tgt := 123) g dX12_letsBy_112 rfl rfl ?_ ?_
            · skip
              refine r_aload_n (pc' := 124) g dX12_letsBy_123 rfl rfl ?_
              refine r_iload_n (pc' := 125) g dX12_letsBy_124 rfl rfl ?_
              refine r_callVv (pc' := 128) (As := [.int r4]) (rest := []) g dX12_letsBy_125 rfl ml_X12_226 mw_X12_waitsFor mv_X12_waitsFor (Nat.le_of_ble_eq_true rfl) (c_X12_waitsFor _ w N r4 M15) rfl lM_0 (eM_0 w _ _) rfl rfl (Nat.le_of_ble_eq_true rfl) (fun r25 M26 => ?_)
              refine r_goto (tgt := 15) g dX12_letsBy_128 rfl ?_
              exact r_weak (Ls2 (Ls2 (Ls2 (Ls1 Ls0)))) (hr () M26)
            · skip
              exact r_weak (Ls2 (Ls2 (Ls2 (Ls2 Ls0)))) (hjn18 () M15)
        · skip
          refine r_aload_n (pc' := 81) g dX12_letsBy_80 rfl rfl ?_
          refine r_iconst (pc' := 82) (v := 1) g dX12_letsBy_81 rfl rfl ?_
          refine r_callVv (pc' := 85) (As := [.int 1]) (rest := []) g dX12_letsBy_82 rfl ml_X12_223 mw_X12_works mv_X12_works (Nat.le_of_ble_eq_true rfl) (c_X12_works _ w N 1 M15) rfl lM_0 (eM_0 w _ _) rfl rfl (Nat.le_of_ble_eq_true rfl) (fun r27 M28 => ?_)
          refine r_aload_n (pc' := 86) g dX12_letsBy_85 rfl rfl ?_
          refine r_dupa (pc' := 87) g dX12_letsBy_86 rfl ?_
          refine r_get (pc' := 90) g dX12_letsBy_87 rfl fl_X12_201 lM_0 (eM_0 w _ _) rfl ?_
          refine r_iconst (pc' := 91) (v := 1) g dX12_letsBy_90 rfl rfl ?_
          refine r_isub (pc' := 92) g dX12_letsBy_91 rfl ?_
          refine r_put (pc' := 95) g dX12_letsBy_92 rfl fl_X12_201 rfl lM_0 (eM_0 w _ _) (Nat.le_of_ble_eq_true rfl) (sM_0_20 w _ _ _) ?_
          refine r_ltM (fun M29 => ?_)
          refine r_aload_n (pc' := 96) g dX12_letsBy_95 rfl rfl ?_
          refine r_iconst (pc' := 97) (v := 3) g dX12_letsBy_96 rfl rfl ?_
          refine r_callVv (pc' := 100) (As := [.int 3]) (rest := []) g dX12_letsBy_97 rfl ml_X12_223 mw_X12_works mv_X12_works (Nat.le_of_ble_eq_true rfl) (c_X12_works _ w N 3 M29) rfl lM_0 (eM_0 w _ _) rfl rfl (Nat.le_of_ble_eq_true rfl) (fun r30 M31 => ?_)
          refine r_goto (tgt := 128) g dX12_letsBy_100 rfl ?_
          refine r_goto (tgt := 15) g dX12_letsBy_128 rfl ?_
          exact r_weak (Ls2 (Ls2 (Ls2 (Ls1 Ls0)))) (hr () M31)
      · skip
        exact r_weak (Ls2 (Ls2 (Ls2 (Ls1 Ls0)))) (hjn8 () M5)
set_option maxHeartbeats 4000000 in
set_option maxRecDepth 100000 in
theorem c_X12_letsBy (l : Launch) (w : W0) (N : Nat) (a1 : Int32) (a2 : Int32) (M : Mm) : Ct l KM w 2 yX12_letsBy cX12_letsBy 4 (some .boolean) [rf w 0, .int a1, .int a2] M (f_X12_letsBy N a1 a2 M) := by
  refine ct_of [rf w 0, .int a1, .int a2, .null] (by decide) (Nat.le_of_ble_eq_true rfl) rfl (fun Z e1 e2 e3 g => ?_)
  have g : Good KM w Z cX12_letsBy RX12 2 := g
  unfold f_X12_letsBy
  refine r_aload_n (pc' := 1) g dX12_letsBy_0 rfl rfl ?_
  refine r_iconst (pc' := 2) (v := 0) g dX12_letsBy_1 rfl rfl ?_
  refine r_put (pc' := 5) g dX12_letsBy_2 rfl fl_X12_204 rfl lM_0 (eM_0 w _ _) (Nat.le_of_ble_eq_true rfl) (sM_0_22 w _ _ _) ?_
  refine r_ltM (fun M1 => ?_)
  refine r_aload_n (pc' := 6) g dX12_letsBy_5 rfl rfl ?_
  refine r_iconst (pc' := 7) (v := 0) g dX12_letsBy_6 rfl rfl ?_
  refine r_put (pc' := 10) g dX12_letsBy_7 rfl fl_X12_201 rfl lM_0 (eM_0 w _ _) (Nat.le_of_ble_eq_true rfl) (sM_0_20 w _ _ _) ?_
  refine r_ltM (fun M2 => ?_)
  refine r_aload_n (pc' := 11) g dX12_letsBy_10 rfl rfl ?_
  refine r_iconst (pc' := 12) (v := 0) g dX12_letsBy_11 rfl rfl ?_
  refine r_put (pc' := 15) g dX12_letsBy_12 rfl fl_X12_198 rfl lM_0 (eM_0 w _ _) (Nat.le_of_ble_eq_true rfl) (sM_0_21 w _ _ _) ?_
  refine r_ltM (fun M3 => ?_)
  refine r_weak (Ls2 (Ls2 (Ls2 (Ls1 Ls0)))) (s_X12_letsBy_15 g e2 e3 N a1 a2 _ (fun z32 M33 => ?_) N () M3)
  refine r_aload_n (pc' := 132) g dX12_letsBy_131 rfl rfl ?_
  refine r_iconst (pc' := 133) (v := 1) g dX12_letsBy_132 rfl rfl ?_
  refine r_callVv (pc' := 136) (As := [.int 1]) (rest := []) g dX12_letsBy_133 rfl ml_X12_223 mw_X12_works mv_X12_works (Nat.le_of_ble_eq_true rfl) (c_X12_works _ w N 1 M33) rfl lM_0 (eM_0 w _ _) rfl rfl (Nat.le_of_ble_eq_true rfl) (fun r34 M35 => ?_)
  refine r_aload_n (pc' := 137) g dX12_letsBy_136 rfl rfl ?_
  refine r_get (pc' := 140) g dX12_letsBy_137 rfl fl_X12_50 lM_0 (eM_0 w _ _) rfl ?_
  refine r_iconst (pc' := 141) (v := 0) g dX12_letsBy_140 rfl rfl ?_
  refine r_ialdc (pc' := 142) g dX12_letsBy_141 rfl lM_14 (eM_14 w _ _) rfl ?_
  refine r_iconst (pc' := 143) (v := 1) g dX12_letsBy_142 rfl rfl ?_
  refine r_cne (pc' := 146) (tgt := 150) g dX12_letsBy_143 rfl rfl ?_ ?_
  · skip
    refine r_iconst (pc' := 151) (v := 0) g dX12_letsBy_150 rfl rfl ?_
    exact r_zretc g e3 rfl dX12_letsBy_151
  · skip
    refine r_iconst (pc' := 147) (v := 1) g dX12_letsBy_146 rfl rfl ?_
    refine r_goto (tgt := 151) g dX12_letsBy_147 rfl ?_
    exact r_zretc g e3 rfl dX12_letsBy_151
def B_X12_isWorld_16 (N : Nat) (p1 : Int32) (G : Unit → Mm → Rs) (rec : Int32 → Mm → Rs) (s : Int32) (M : Mm) : Rs :=
  if s < 4 then
      (if ((p1 >>> (s &&& 31)) &&& 1) = 1 then
        (bd (f_X12_isThere N s M) fun r3 M4 =>
        (if r3 = 0 then
          (some (0, M4))
        else
          (rec (s + 1) M4)))
      else
        (rec (s + 1) M))
    else
      (G () M)

def f_X12_isWorld (N : Nat) (a1 : Int32) (M : Mm) : Rs :=
  bd (f_X12_isIn N a1.toInt64 0 15 M) fun r1 M2 =>
  (if r1 = 0 then
    (some (0, M2))
  else
    (itr (B_X12_isWorld_16 N a1 fun z5 M6 =>
    (some (1, M6))) N 0 M2))

set_option maxHeartbeats 4000000 in
set_option maxRecDepth 100000 in
theorem s_X12_isWorld_16 {w : W0} {Z : Zx} (g : Good KM w Z cX12_isWorld RX12 1) (e2 : Z.2.2.1 = 3) (e3 : Z.2.2.2 = (some .boolean)) (N : Nat) (p1 : Int32) (G : Unit → Mm → Rs) (kG : ∀ (x : Unit) (M : Mm), Sim KM w Z 46 [.null, .null, .null] [] M (G x M)) : ∀ (n : Nat) (s : Int32) (M : Mm), Sim KM w Z 16 [rf w 0, .int p1, .int s] [] M (itr (B_X12_isWorld_16 N p1 G) n s M) := by
  have n2 : 2 < Z.2.2.1 := by rw [e2]; decide
  refine r_itr (Lf := fun (s : Int32) => [rf w 0, .int p1, .int s]) (fun rec hr s M => ?_)
  unfold B_X12_isWorld_16
  refine r_iload_n (pc' := 17) g dX12_isWorld_16 rfl rfl ?_
  refine r_iconst (pc' := 18) (v := 4) g dX12_isWorld_17 rfl rfl ?_
  refine r_cge (pc' := 21) (tgt := 46) g dX12_isWorld_18 rfl rfl ?_ ?_
  · skip
    exact r_weak (Ls1 (Ls1 (Ls1 Ls0))) (kG () M)
  · skip
    refine r_iload_n (pc' := 22) g dX12_isWorld_21 rfl rfl ?_
    refine r_iload_n (pc' := 23) g dX12_isWorld_22 rfl rfl ?_
    refine r_ishr (pc' := 24) g dX12_isWorld_23 rfl ?_
    refine r_iconst (pc' := 25) (v := 1) g dX12_isWorld_24 rfl rfl ?_
    refine r_iand (pc' := 26) g dX12_isWorld_25 rfl ?_
    refine r_iconst (pc' := 27) (v := 1) g dX12_isWorld_26 rfl rfl ?_
    refine r_cne (pc' := 30) (tgt := 40) g dX12_isWorld_27 rfl rfl ?_ ?_
    · skip
      refine r_iinc (pc' := 43) (b := 1) (L' := [rf w 0, .int p1, .int (s + 1)]) g dX12_isWorld_40 rfl rfl rfl n2 rfl rfl ?_
      refine r_goto (tgt := 16) g dX12_isWorld_43 rfl ?_
      exact r_weak (Ls2 (Ls2 (Ls2 Ls0))) (hr (s + 1) M)
    · skip
      refine r_aload_n (pc' := 31) g dX12_isWorld_30 rfl rfl ?_
      refine r_iload_n (pc' := 32) g dX12_isWorld_31 rfl rfl ?_
      refine r_callVi (pc' := 35) (As := [.int s]) (rest := []) g dX12_isWorld_32 rfl ml_X12_117 mw_X12_isThere mv_X12_isThere (Nat.le_of_ble_eq_true rfl) (c_X12_isThere _ w N s M) rfl lM_0 (eM_0 w _ _) rfl rfl (Nat.le_of_ble_eq_true rfl) (fun r3 M4 => ?_)
      refine r_ifne (pc' := 38) (tgt := 40) g dX12_isWorld_35 rfl rfl ?_ ?_
      · skip
        refine r_iinc (pc' := 43) (b := 1) (L' := [rf w 0, .int p1, .int (s + 1)]) g dX12_isWorld_40 rfl rfl rfl n2 rfl rfl ?_
        refine r_goto (tgt := 16) g dX12_isWorld_43 rfl ?_
        exact r_weak (Ls2 (Ls2 (Ls2 Ls0))) (hr (s + 1) M4)
      · skip
        refine r_iconst (pc' := 39) (v := 0) g dX12_isWorld_38 rfl rfl ?_
        exact r_zretc g e3 rfl dX12_isWorld_39
set_option maxHeartbeats 4000000 in
set_option maxRecDepth 100000 in
theorem c_X12_isWorld (l : Launch) (w : W0) (N : Nat) (a1 : Int32) (M : Mm) : Ct l KM w 1 yX12_isWorld cX12_isWorld 3 (some .boolean) [rf w 0, .int a1] M (f_X12_isWorld N a1 M) := by
  refine ct_of [rf w 0, .int a1, .null] (by decide) (Nat.le_of_ble_eq_true rfl) rfl (fun Z e1 e2 e3 g => ?_)
  have g : Good KM w Z cX12_isWorld RX12 1 := g
  unfold f_X12_isWorld
  have n2 : 2 < Z.2.2.1 := by rw [e2]; decide
  refine r_iload_n (pc' := 1) g dX12_isWorld_0 rfl rfl ?_
  refine r_i2l (pc' := 2) g dX12_isWorld_1 rfl ?_
  refine r_lconst (pc' := 3) (v := 0) g dX12_isWorld_2 rfl rfl ?_
  refine r_ldc2 (pc' := 6) g dX12_isWorld_3 rfl kc_X12_151 ?_
  refine r_callSi (pc' := 9) (As := [.long a1.toInt64, .long 0, .long 15]) (rest := []) g dX12_isWorld_6 rfl ml_X12_109 mw_X12_isIn ms_X12_isIn (Nat.le_of_ble_eq_true rfl) (c_X12_isIn _ w N a1.toInt64 0 15 M) rfl rfl (Nat.le_of_ble_eq_true rfl) (fun r1 M2 => ?_)
  refine r_ifne (pc' := 12) (tgt := 14) g dX12_isWorld_9 rfl rfl ?_ ?_
  · skip
    refine r_iconst (pc' := 15) (v := 0) g dX12_isWorld_14 rfl rfl ?_
    refine r_istore_n (pc' := 16) (L' := [rf w 0, .int a1, .int 0]) g dX12_isWorld_15 rfl n2 rfl rfl ?_
    refine r_weak (Ls2 (Ls2 (Ls2 Ls0))) (s_X12_isWorld_16 g e2 e3 N a1 _ (fun z5 M6 => ?_) N 0 M2)
    refine r_iconst (pc' := 47) (v := 1) g dX12_isWorld_46 rfl rfl ?_
    exact r_zretc g e3 rfl dX12_isWorld_47
  · skip
    refine r_iconst (pc' := 13) (v := 0) g dX12_isWorld_12 rfl rfl ?_
    exact r_zretc g e3 rfl dX12_isWorld_13
def B_X12_lets_2 (N : Nat) (p1 : Int32) (G : Unit → Mm → Rs) (rec : Int32 → Mm → Rs) (s : Int32) (M : Mm) : Rs :=
  if s < (M.1 0 15) then
      (if inb s 12 then
      (if (M.1 11 (ix s)) = 0 then
        (bd (f_X12_letsBy N s p1 M) fun r1 M2 =>
        (if r1 = 0 then
          (some (0, M2))
        else
          (rec (s + 1) M2)))
      else
        (rec (s + 1) M)) else none)
    else
      (G () M)

def f_X12_lets (N : Nat) (a1 : Int32) (M : Mm) : Rs :=
  itr (B_X12_lets_2 N a1 fun z3 M4 =>
  (bd (f_X12_isWorld N a1 M4) fun r5 M6 =>
  (if bz r5 then some (r5, M6) else none))) N 0 M

set_option maxHeartbeats 4000000 in
set_option maxRecDepth 100000 in
theorem s_X12_lets_2 {w : W0} {Z : Zx} (g : Good KM w Z cX12_lets RX12 3) (e2 : Z.2.2.1 = 3) (e3 : Z.2.2.2 = (some .boolean)) (N : Nat) (p1 : Int32) (G : Unit → Mm → Rs) (kG : ∀ (x : Unit) (M : Mm), Sim KM w Z 36 [rf w 0, .int p1, .null] [] M (G x M)) : ∀ (n : Nat) (s : Int32) (M : Mm), Sim KM w Z 2 [rf w 0, .int p1, .int s] [] M (itr (B_X12_lets_2 N p1 G) n s M) := by
  have n2 : 2 < Z.2.2.1 := by rw [e2]; decide
  refine r_itr (Lf := fun (s : Int32) => [rf w 0, .int p1, .int s]) (fun rec hr s M => ?_)
  unfold B_X12_lets_2
  refine r_iload_n (pc' := 3) g dX12_lets_2 rfl rfl ?_
  refine r_aload_n (pc' := 4) g dX12_lets_3 rfl rfl ?_
  refine r_get (pc' := 7) g dX12_lets_4 rfl fl_X12_186 lM_0 (eM_0 w _ _) rfl ?_
  refine r_cge (pc' := 10) (tgt := 36) g dX12_lets_7 rfl rfl ?_ ?_
  · skip
    exact r_weak (Ls2 (Ls2 (Ls1 Ls0))) (kG () M)
  · skip
    refine r_aload_n (pc' := 11) g dX12_lets_10 rfl rfl ?_
    refine r_get (pc' := 14) g dX12_lets_11 rfl fl_X12_40 lM_0 (eM_0 w _ _) rfl ?_
    refine r_iload_n (pc' := 15) g dX12_lets_14 rfl rfl ?_
    refine r_zald (pc' := 16) g dX12_lets_15 rfl lM_11 (eM_11 w _ _) ?_
    refine r_ifne (pc' := 19) (tgt := 30) g dX12_lets_16 rfl rfl ?_ ?_
    · skip
      refine r_iinc (pc' := 33) (b := 1) (L' := [rf w 0, .int p1, .int (s + 1)]) g dX12_lets_30 rfl rfl rfl n2 rfl rfl ?_
      refine r_goto (tgt := 2) g dX12_lets_33 rfl ?_
      exact r_weak (Ls2 (Ls2 (Ls2 Ls0))) (hr (s + 1) M)
    · skip
      refine r_aload_n (pc' := 20) g dX12_lets_19 rfl rfl ?_
      refine r_iload_n (pc' := 21) g dX12_lets_20 rfl rfl ?_
      refine r_iload_n (pc' := 22) g dX12_lets_21 rfl rfl ?_
      refine r_callVi (pc' := 25) (As := [.int s, .int p1]) (rest := []) g dX12_lets_22 rfl ml_X12_260 mw_X12_letsBy mv_X12_letsBy (Nat.le_of_ble_eq_true rfl) (c_X12_letsBy _ w N s p1 M) rfl lM_0 (eM_0 w _ _) rfl rfl (Nat.le_of_ble_eq_true rfl) (fun r1 M2 => ?_)
      refine r_ifne (pc' := 28) (tgt := 30) g dX12_lets_25 rfl rfl ?_ ?_
      · skip
        refine r_iinc (pc' := 33) (b := 1) (L' := [rf w 0, .int p1, .int (s + 1)]) g dX12_lets_30 rfl rfl rfl n2 rfl rfl ?_
        refine r_goto (tgt := 2) g dX12_lets_33 rfl ?_
        exact r_weak (Ls2 (Ls2 (Ls2 Ls0))) (hr (s + 1) M2)
      · skip
        refine r_iconst (pc' := 29) (v := 0) g dX12_lets_28 rfl rfl ?_
        exact r_zretc g e3 rfl dX12_lets_29
set_option maxHeartbeats 4000000 in
set_option maxRecDepth 100000 in
theorem c_X12_lets (l : Launch) (w : W0) (N : Nat) (a1 : Int32) (M : Mm) : Ct l KM w 3 yX12_lets cX12_lets 3 (some .boolean) [rf w 0, .int a1] M (f_X12_lets N a1 M) := by
  refine ct_of [rf w 0, .int a1, .null] (by decide) (Nat.le_of_ble_eq_true rfl) rfl (fun Z e1 e2 e3 g => ?_)
  have g : Good KM w Z cX12_lets RX12 3 := g
  unfold f_X12_lets
  have n2 : 2 < Z.2.2.1 := by rw [e2]; decide
  refine r_iconst (pc' := 1) (v := 0) g dX12_lets_0 rfl rfl ?_
  refine r_istore_n (pc' := 2) (L' := [rf w 0, .int a1, .int 0]) g dX12_lets_1 rfl n2 rfl rfl ?_
  refine r_weak (Ls2 (Ls2 (Ls2 Ls0))) (s_X12_lets_2 g e2 e3 N a1 _ (fun z3 M4 => ?_) N 0 M)
  refine r_aload_n (pc' := 37) g dX12_lets_36 rfl rfl ?_
  refine r_iload_n (pc' := 38) g dX12_lets_37 rfl rfl ?_
  refine r_callVi (pc' := 41) (As := [.int a1]) (rest := []) g dX12_lets_38 rfl ml_X12_264 mw_X12_isWorld mv_X12_isWorld (Nat.le_of_ble_eq_true rfl) (c_X12_isWorld _ w N a1 M4) rfl lM_0 (eM_0 w _ _) rfl rfl (Nat.le_of_ble_eq_true rfl) (fun r5 M6 => ?_)
  exact r_zret g e3 dX12_lets_41
def f_X12_ferries (N : Nat) (a0 : Int32) (a1 : Int32) (M : Mm) : Rs :=
  some ((a0 >>> ((2 * a1) &&& 31)) &&& 3, M)

set_option maxHeartbeats 4000000 in
set_option maxRecDepth 100000 in
theorem c_X12_ferries (l : Launch) (w : W0) (N : Nat) (a0 : Int32) (a1 : Int32) (M : Mm) : Ct l KM w 0 yX12_ferries cX12_ferries 2 (some .int) [.int a0, .int a1] M (f_X12_ferries N a0 a1 M) := by
  refine ct_of [.int a0, .int a1] (by decide) (Nat.le_of_ble_eq_true rfl) rfl (fun Z e1 e2 e3 g => ?_)
  have g : Good KM w Z cX12_ferries RX12 0 := g
  unfold f_X12_ferries
  refine r_iload_n (pc' := 1) g dX12_ferries_0 rfl rfl ?_
  refine r_iconst (pc' := 2) (v := 2) g dX12_ferries_1 rfl rfl ?_
  refine r_iload_n (pc' := 3) g dX12_ferries_2 rfl rfl ?_
  refine r_imul (pc' := 4) g dX12_ferries_3 rfl ?_
  refine r_ishr (pc' := 5) g dX12_ferries_4 rfl ?_
  refine r_iconst (pc' := 6) (v := 3) g dX12_ferries_5 rfl rfl ?_
  refine r_iand (pc' := 7) g dX12_ferries_6 rfl ?_
  exact r_iret g e3 dX12_ferries_7
def B_X12_isPlan_16 (N : Nat) (p1 : Int32) (G : Unit → Mm → Rs) (rec : Int32 → Mm → Rs) (s : Int32) (M : Mm) : Rs :=
  if s < 4 then
      (bd (f_X12_ferries N p1 s M) fun r3 M4 =>
      (if 0 < r3 then
        (bd (f_X12_isThere N s M4) fun r5 M6 =>
        (if r5 = 0 then
          (some (0, M6))
        else
          (rec (s + 1) M6)))
      else
        (rec (s + 1) M4)))
    else
      (G () M)

def f_X12_isPlan (N : Nat) (a1 : Int32) (M : Mm) : Rs :=
  bd (f_X12_isIn N a1.toInt64 0 255 M) fun r1 M2 =>
  (if r1 = 0 then
    (some (0, M2))
  else
    (itr (B_X12_isPlan_16 N a1 fun z7 M8 =>
    (some (1, M8))) N 0 M2))

set_option maxHeartbeats 4000000 in
set_option maxRecDepth 100000 in
theorem s_X12_isPlan_16 {w : W0} {Z : Zx} (g : Good KM w Z cX12_isPlan RX12 1) (e2 : Z.2.2.1 = 3) (e3 : Z.2.2.2 = (some .boolean)) (N : Nat) (p1 : Int32) (G : Unit → Mm → Rs) (kG : ∀ (x : Unit) (M : Mm), Sim KM w Z 45 [.null, .null, .null] [] M (G x M)) : ∀ (n : Nat) (s : Int32) (M : Mm), Sim KM w Z 16 [rf w 0, .int p1, .int s] [] M (itr (B_X12_isPlan_16 N p1 G) n s M) := by
  have n2 : 2 < Z.2.2.1 := by rw [e2]; decide
  refine r_itr (Lf := fun (s : Int32) => [rf w 0, .int p1, .int s]) (fun rec hr s M => ?_)
  unfold B_X12_isPlan_16
  refine r_iload_n (pc' := 17) g dX12_isPlan_16 rfl rfl ?_
  refine r_iconst (pc' := 18) (v := 4) g dX12_isPlan_17 rfl rfl ?_
  refine r_cge (pc' := 21) (tgt := 45) g dX12_isPlan_18 rfl rfl ?_ ?_
  · skip
    exact r_weak (Ls1 (Ls1 (Ls1 Ls0))) (kG () M)
  · skip
    refine r_iload_n (pc' := 22) g dX12_isPlan_21 rfl rfl ?_
    refine r_iload_n (pc' := 23) g dX12_isPlan_22 rfl rfl ?_
    refine r_callSi (pc' := 26) (As := [.int p1, .int s]) (rest := []) g dX12_isPlan_23 rfl ml_X12_155 mw_X12_ferries ms_X12_ferries (Nat.le_of_ble_eq_true rfl) (c_X12_ferries _ w N p1 s M) rfl rfl (Nat.le_of_ble_eq_true rfl) (fun r3 M4 => ?_)
    refine r_ifle (pc' := 29) (tgt := 39) g dX12_isPlan_26 rfl rfl ?_ ?_
    · skip
      refine r_iinc (pc' := 42) (b := 1) (L' := [rf w 0, .int p1, .int (s + 1)]) g dX12_isPlan_39 rfl rfl rfl n2 rfl rfl ?_
      refine r_goto (tgt := 16) g dX12_isPlan_42 rfl ?_
      exact r_weak (Ls2 (Ls2 (Ls2 Ls0))) (hr (s + 1) M4)
    · skip
      refine r_aload_n (pc' := 30) g dX12_isPlan_29 rfl rfl ?_
      refine r_iload_n (pc' := 31) g dX12_isPlan_30 rfl rfl ?_
      refine r_callVi (pc' := 34) (As := [.int s]) (rest := []) g dX12_isPlan_31 rfl ml_X12_117 mw_X12_isThere mv_X12_isThere (Nat.le_of_ble_eq_true rfl) (c_X12_isThere _ w N s M4) rfl lM_0 (eM_0 w _ _) rfl rfl (Nat.le_of_ble_eq_true rfl) (fun r5 M6 => ?_)
      refine r_ifne (pc' := 37) (tgt := 39) g dX12_isPlan_34 rfl rfl ?_ ?_
      · skip
        refine r_iinc (pc' := 42) (b := 1) (L' := [rf w 0, .int p1, .int (s + 1)]) g dX12_isPlan_39 rfl rfl rfl n2 rfl rfl ?_
        refine r_goto (tgt := 16) g dX12_isPlan_42 rfl ?_
        exact r_weak (Ls2 (Ls2 (Ls2 Ls0))) (hr (s + 1) M6)
      · skip
        refine r_iconst (pc' := 38) (v := 0) g dX12_isPlan_37 rfl rfl ?_
        exact r_zretc g e3 rfl dX12_isPlan_38
set_option maxHeartbeats 4000000 in
set_option maxRecDepth 100000 in
theorem c_X12_isPlan (l : Launch) (w : W0) (N : Nat) (a1 : Int32) (M : Mm) : Ct l KM w 1 yX12_isPlan cX12_isPlan 3 (some .boolean) [rf w 0, .int a1] M (f_X12_isPlan N a1 M) := by
  refine ct_of [rf w 0, .int a1, .null] (by decide) (Nat.le_of_ble_eq_true rfl) rfl (fun Z e1 e2 e3 g => ?_)
  have g : Good KM w Z cX12_isPlan RX12 1 := g
  unfold f_X12_isPlan
  have n2 : 2 < Z.2.2.1 := by rw [e2]; decide
  refine r_iload_n (pc' := 1) g dX12_isPlan_0 rfl rfl ?_
  refine r_i2l (pc' := 2) g dX12_isPlan_1 rfl ?_
  refine r_lconst (pc' := 3) (v := 0) g dX12_isPlan_2 rfl rfl ?_
  refine r_ldc2 (pc' := 6) g dX12_isPlan_3 rfl kc_X12_153 ?_
  refine r_callSi (pc' := 9) (As := [.long a1.toInt64, .long 0, .long 255]) (rest := []) g dX12_isPlan_6 rfl ml_X12_109 mw_X12_isIn ms_X12_isIn (Nat.le_of_ble_eq_true rfl) (c_X12_isIn _ w N a1.toInt64 0 255 M) rfl rfl (Nat.le_of_ble_eq_true rfl) (fun r1 M2 => ?_)
  refine r_ifne (pc' := 12) (tgt := 14) g dX12_isPlan_9 rfl rfl ?_ ?_
  · skip
    refine r_iconst (pc' := 15) (v := 0) g dX12_isPlan_14 rfl rfl ?_
    refine r_istore_n (pc' := 16) (L' := [rf w 0, .int a1, .int 0]) g dX12_isPlan_15 rfl n2 rfl rfl ?_
    refine r_weak (Ls2 (Ls2 (Ls2 Ls0))) (s_X12_isPlan_16 g e2 e3 N a1 _ (fun z7 M8 => ?_) N 0 M2)
    refine r_iconst (pc' := 46) (v := 1) g dX12_isPlan_45 rfl rfl ?_
    exact r_zretc g e3 rfl dX12_isPlan_46
  · skip
    refine r_iconst (pc' := 13) (v := 0) g dX12_isPlan_12 rfl rfl ?_
    exact r_zretc g e3 rfl dX12_isPlan_13
def B_X12_hired_4 (N : Nat) (p1 : Int32) (G : Int32 → Mm → Rs) (rec : (Int32 × Int32) → Mm → Rs) (s : Int32 × Int32) (M : Mm) : Rs :=
  if s.2 < 4 then
      (bd (f_X12_ferries N p1 s.2 M) fun r1 M2 =>
      (if inb ((6 * s.2) + 2) 47 then
      (lt' (s.1 + (r1 * (M2.1 2 (ix ((6 * s.2) + 2))))) fun x3 =>
      (rec (x3, s.2 + 1) M2)) else none))
    else
      (G s.1 M)

def f_X12_hired (N : Nat) (a1 : Int32) (M : Mm) : Rs :=
  itr (B_X12_hired_4 N a1 fun z4 M5 =>
  (some (z4, M5))) N (0, 0) M

set_option maxHeartbeats 4000000 in
set_option maxRecDepth 100000 in
theorem s_X12_hired_4 {w : W0} {Z : Zx} (g : Good KM w Z cX12_hired RX12 1) (e2 : Z.2.2.1 = 4) (e3 : Z.2.2.2 = (some .int)) (N : Nat) (p1 : Int32) (G : Int32 → Mm → Rs) (kG : ∀ (x : Int32) (M : Mm), Sim KM w Z 35 [.null, .null, .int x, .null] [] M (G x M)) : ∀ (n : Nat) (s : Int32 × Int32) (M : Mm), Sim KM w Z 4 [rf w 0, .int p1, .int s.1, .int s.2] [] M (itr (B_X12_hired_4 N p1 G) n s M) := by
  have n2 : 2 < Z.2.2.1 := by rw [e2]; decide
  have n3 : 3 < Z.2.2.1 := by rw [e2]; decide
  refine r_itr (Lf := fun (s : Int32 × Int32) => [rf w 0, .int p1, .int s.1, .int s.2]) (fun rec hr s M => ?_)
  unfold B_X12_hired_4
  refine r_iload_n (pc' := 5) g dX12_hired_4 rfl rfl ?_
  refine r_iconst (pc' := 6) (v := 4) g dX12_hired_5 rfl rfl ?_
  refine r_cge (pc' := 9) (tgt := 35) g dX12_hired_6 rfl rfl ?_ ?_
  · skip
    exact r_weak (Ls1 (Ls1 (Ls2 (Ls1 Ls0)))) (kG s.1 M)
  · skip
    refine r_iload_n (pc' := 10) g dX12_hired_9 rfl rfl ?_
    refine r_iload_n (pc' := 11) g dX12_hired_10 rfl rfl ?_
    refine r_iload_n (pc' := 12) g dX12_hired_11 rfl rfl ?_
    refine r_callSi (pc' := 15) (As := [.int p1, .int s.2]) (rest := [.int s.1]) g dX12_hired_12 rfl ml_X12_155 mw_X12_ferries ms_X12_ferries (Nat.le_of_ble_eq_true rfl) (c_X12_ferries _ w N p1 s.2 M) rfl rfl (Nat.le_of_ble_eq_true rfl) (fun r1 M2 => ?_)
    refine r_aload_n (pc' := 16) g dX12_hired_15 rfl rfl ?_
    refine r_get (pc' := 19) g dX12_hired_16 rfl fl_X12_13 lM_0 (eM_0 w _ _) rfl ?_
    refine r_bipush (pc' := 21) (v := 6) g dX12_hired_19 rfl rfl ?_
    refine r_iload_n (pc' := 22) g dX12_hired_21 rfl rfl ?_
    refine r_imul (pc' := 23) g dX12_hired_22 rfl ?_
    refine r_iconst (pc' := 24) (v := 2) g dX12_hired_23 rfl rfl ?_
    refine r_iadd (pc' := 25) g dX12_hired_24 rfl ?_
    refine r_iald (pc' := 26) g dX12_hired_25 rfl lM_2 (eM_2 w _ _) ?_
    refine r_imul (pc' := 27) g dX12_hired_26 rfl ?_
    refine r_iadd (pc' := 28) g dX12_hired_27 rfl ?_
    refine r_ltI (fun x3 => ?_)
    refine r_istore_n (pc' := 29) (L' := [rf w 0, .int p1, .int x3, .int s.2]) g dX12_hired_28 rfl n2 rfl rfl ?_
    refine r_iinc (pc' := 32) (b := 1) (L' := [rf w 0, .int p1, .int x3, .int (s.2 + 1)]) g dX12_hired_29 rfl rfl rfl n3 rfl rfl ?_
    refine r_goto (tgt := 4) g dX12_hired_32 rfl ?_
    exact r_weak (Ls2 (Ls2 (Ls2 (Ls2 Ls0)))) (hr (x3, s.2 + 1) M2)
set_option maxHeartbeats 4000000 in
set_option maxRecDepth 100000 in
theorem c_X12_hired (l : Launch) (w : W0) (N : Nat) (a1 : Int32) (M : Mm) : Ct l KM w 1 yX12_hired cX12_hired 4 (some .int) [rf w 0, .int a1] M (f_X12_hired N a1 M) := by
  refine ct_of [rf w 0, .int a1, .null, .null] (by decide) (Nat.le_of_ble_eq_true rfl) rfl (fun Z e1 e2 e3 g => ?_)
  have g : Good KM w Z cX12_hired RX12 1 := g
  unfold f_X12_hired
  have n2 : 2 < Z.2.2.1 := by rw [e2]; decide
  have n3 : 3 < Z.2.2.1 := by rw [e2]; decide
  refine r_iconst (pc' := 1) (v := 0) g dX12_hired_0 rfl rfl ?_
  refine r_istore_n (pc' := 2) (L' := [rf w 0, .int a1, .int 0, .null]) g dX12_hired_1 rfl n2 rfl rfl ?_
  refine r_iconst (pc' := 3) (v := 0) g dX12_hired_2 rfl rfl ?_
  refine r_istore_n (pc' := 4) (L' := [rf w 0, .int a1, .int 0, .int 0]) g dX12_hired_3 rfl n3 rfl rfl ?_
  refine r_weak (Ls2 (Ls2 (Ls2 (Ls2 Ls0)))) (s_X12_hired_4 g e2 e3 N a1 _ (fun z4 M5 => ?_) N (0, 0) M)
  refine r_iload_n (pc' := 36) g dX12_hired_35 rfl rfl ?_
  exact r_iret g e3 dX12_hired_36
def B_X12_findLacks_2 (N : Nat) (p1 : Int32) (p2 : Int32) (G : Unit → Mm → Rs) (rec : Int32 → Mm → Rs) (s : Int32) (M : Mm) : Rs :=
  if s < 4 then
      (bd (f_X12_isThere N s M) fun r1 M2 =>
      (lt' (fun (s3 : Int32) (M4 : Mm) =>
        ((lt' (fun (s6 : Int32) (M7 : Mm) =>
          ((if inb s 4 then
          (lt' (wI M7 15 (ix s) s6) fun M9 =>
          (if s3 < 0 then
            (if inb s 4 then
            (lt' (wI M9 16 (ix s) (-s3)) fun M11 =>
            (rec (s + 1) M11)) else none)
          else
            (if inb s 4 then
            (lt' (wI M9 16 (ix s) 0) fun M10 =>
            (rec (s + 1) M10)) else none))) else none) : Rs)) fun jn8 =>
        (if 0 < s3 then
          (jn8 s3 M4)
        else
          (jn8 0 M4))) : Rs)) fun jn5 =>
      (if r1 = 0 then
        (jn5 0 M2)
      else
        (bd (f_X12_ferries N p1 s M2) fun r12 M13 =>
        (if inb (6 * s) 47 then
        (if inb ((6 * s) + 1) 47 then
        (jn5 (((r12 * (M13.1 2 (ix 40))) - (M13.1 2 (ix (6 * s)))) - (((p2 >>> (s &&& 31)) &&& 1) * (M13.1 2 (ix ((6 * s) + 1))))) M13) else none) else none)))))
    else
      (G () M)

def f_X12_findLacks (N : Nat) (a1 : Int32) (a2 : Int32) (M : Mm) : Rs :=
  itr (B_X12_findLacks_2 N a1 a2 fun z14 M15 =>
  (some (0, M15))) N 0 M

set_option maxHeartbeats 4000000 in
set_option maxRecDepth 100000 in
theorem s_X12_findLacks_2 {w : W0} {Z : Zx} (g : Good KM w Z cX12_findLacks RX12 1) (e2 : Z.2.2.1 = 5) (e3 : Z.2.2.2 = none) (N : Nat) (p1 : Int32) (p2 : Int32) (G : Unit → Mm → Rs) (kG : ∀ (x : Unit) (M : Mm), Sim KM w Z 103 [.null, .null, .null, .null, .null] [] M (G x M)) : ∀ (n : Nat) (s : Int32) (M : Mm), Sim KM w Z 2 [rf w 0, .int p1, .int p2, .int s, .null] [] M (itr (B_X12_findLacks_2 N p1 p2 G) n s M) := by
  have n3 : 3 < Z.2.2.1 := by rw [e2]; decide
  have n4 : 4 < Z.2.2.1 := by rw [e2]; decide
  refine r_itr (Lf := fun (s : Int32) => [rf w 0, .int p1, .int p2, .int s, .null]) (fun rec hr s M => ?_)
  unfold B_X12_findLacks_2
  refine r_iload_n (pc' := 3) g dX12_findLacks_2 rfl rfl ?_
  refine r_iconst (pc' := 4) (v := 4) g dX12_findLacks_3 rfl rfl ?_
  refine r_cge (pc' := 7) (tgt := 103) g dX12_findLacks_4 rfl rfl ?_ ?_
  · skip
    exact r_weak (Ls1 (Ls1 (Ls1 (Ls1 (Ls1 Ls0))))) (kG () M)
  · skip
    refine r_aload_n (pc' := 8) g dX12_findLacks_7 rfl rfl ?_
    refine r_iload_n (pc' := 9) g dX12_findLacks_8 rfl rfl ?_
    refine r_callVi (pc' := 12) (As := [.int s]) (rest := []) g dX12_findLacks_9 rfl ml_X12_117 mw_X12_isThere mv_X12_isThere (Nat.le_of_ble_eq_true rfl) (c_X12_isThere _ w N s M) rfl lM_0 (eM_0 w _ _) rfl rfl (Nat.le_of_ble_eq_true rfl) (fun r1 M2 => ?_)
    refine r_jn (pj := 60) (Lj := fun (s3 : Int32) => [rf w 0, .int p1, .int p2, .int s, .null]) (stj := fun (s3 : Int32) => [.int s3]) (fun s3 M4 => ?_) (fun jn5 hjn5 => ?_)
    · skip
      refine r_istore (pc' := 62) (L' := [rf w 0, .int p1, .int p2, .int s, .int s3]) g dX12_findLacks_60 rfl n4 rfl rfl ?_
      refine r_aload_n (pc' := 63) g dX12_findLacks_62 rfl rfl ?_
      refine r_get (pc' := 66) g dX12_findLacks_63 rfl fl_X12_53 lM_0 (eM_0 w _ _) rfl ?_
      refine r_iload_n (pc' := 67) g dX12_findLacks_66 rfl rfl ?_
      refine r_iload (pc' := 69) g dX12_findLacks_67 rfl rfl ?_
      refine r_jn (pj := 78) (Lj := fun (s6 : Int32) => [rf w 0, .int p1, .int p2, .int s, .int s3]) (stj := fun (s6 : Int32) => [.int s6, .int s, rf w 15]) (fun s6 M7 => ?_) (fun jn8 hjn8 => ?_)
      · skip
        refine r_iast (pc' := 79) g dX12_findLacks_78 rfl lM_15 (fun m => eM_15 w m _) ?_
        refine r_ltM (fun M9 => ?_)
        refine r_aload_n (pc' := 80) g dX12_findLacks_79 rfl rfl ?_
        refine r_get (pc' := 83) g dX12_findLacks_80 rfl fl_X12_56 lM_0 (eM_0 w _ _) rfl ?_
        refine r_iload_n (pc' := 84) g dX12_findLacks_83 rfl rfl ?_
        refine r_iload (pc' := 86) g dX12_findLacks_84 rfl rfl ?_
        refine r_ifge (pc' := 89) (tgt := 95) g dX12_findLacks_86 rfl rfl ?_ ?_
        · skip
          refine r_iconst (pc' := 96) (v := 0) g dX12_findLacks_95 rfl rfl ?_
          refine r_iast (pc' := 97) g dX12_findLacks_96 rfl lM_16 (fun m => eM_16 w m _) ?_
          refine r_ltM (fun M10 => ?_)
          refine r_iinc (pc' := 100) (b := 1) (L' := [rf w 0, .int p1, .int p2, .int (s + 1), .int s3]) g dX12_findLacks_97 rfl rfl rfl n3 rfl rfl ?_
          refine r_goto (tgt := 2) g dX12_findLacks_100 rfl ?_
          exact r_weak (Ls2 (Ls2 (Ls2 (Ls2 (Ls1 Ls0))))) (hr (s + 1) M10)
        · skip
          refine r_iload (pc' := 91) g dX12_findLacks_89 rfl rfl ?_
          refine r_ineg (pc' := 92) g dX12_findLacks_91 rfl ?_
          refine r_goto (tgt := 96) g dX12_findLacks_92 rfl ?_
          refine r_iast (pc' := 97) g dX12_findLacks_96 rfl lM_16 (fun m => eM_16 w m _) ?_
          refine r_ltM (fun M11 => ?_)
          refine r_iinc (pc' := 100) (b := 1) (L' := [rf w 0, .int p1, .int p2, .int (s + 1), .int s3]) g dX12_findLacks_97 rfl rfl rfl n3 rfl rfl ?_
          refine r_goto (tgt := 2) g dX12_findLacks_100 rfl ?_
          exact r_weak (Ls2 (Ls2 (Ls2 (Ls2 (Ls1 Ls0))))) (hr (s + 1) M11)
      refine r_ifle (pc' := 72) (tgt := 77) g dX12_findLacks_69 rfl rfl ?_ ?_
      · skip
        refine r_iconst (pc' := 78) (v := 0) g dX12_findLacks_77 rfl rfl ?_
        exact r_weak (Ls2 (Ls2 (Ls2 (Ls2 (Ls2 Ls0))))) (hjn8 0 M4)
      · skip
        refine r_iload (pc' := 74) g dX12_findLacks_72 rfl rfl ?_
        refine r_goto (tgt := 78) g dX12_findLacks_74 rfl ?_
        exact r_weak (Ls2 (Ls2 (Ls2 (Ls2 (Ls2 Ls0))))) (hjn8 s3 M4)
    refine r_ifeq (pc' := 15) (tgt := 59) g dX12_findLacks_12 rfl rfl ?_ ?_
    · skip
      refine r_iconst (pc' := 60) (v := 0) g dX12_findLacks_59 rfl rfl ?_
      exact r_weak (Ls2 (Ls2 (Ls2 (Ls2 (Ls1 Ls0))))) (hjn5 0 M2)
    · skip
      refine r_iload_n (pc' := 16) g dX12_findLacks_15 rfl rfl ?_
      refine r_iload_n (pc' := 17) g dX12_findLacks_16 rfl rfl ?_
      refine r_callSi (pc' := 20) (As := [.int p1, .int s]) (rest := []) g dX12_findLacks_17 rfl ml_X12_155 mw_X12_ferries ms_X12_ferries (Nat.le_of_ble_eq_true rfl) (c_X12_ferries _ w N p1 s M2) rfl rfl (Nat.le_of_ble_eq_true rfl) (fun r12 M13 => ?_)
      refine r_aload_n (pc' := 21) g dX12_findLacks_20 rfl rfl ?_
      refine r_get (pc' := 24) g dX12_findLacks_21 rfl fl_X12_13 lM_0 (eM_0 w _ _) rfl ?_
      refine r_bipush (pc' := 26) (v := 40) g dX12_findLacks_24 rfl rfl ?_
      refine r_ialdc (pc' := 27) g dX12_findLacks_26 rfl lM_2 (eM_2 w _ _) rfl ?_
      refine r_imul (pc' := 28) g dX12_findLacks_27 rfl ?_
      refine r_aload_n (pc' := 29) g dX12_findLacks_28 rfl rfl ?_
      refine r_get (pc' := 32) g dX12_findLacks_29 rfl fl_X12_13 lM_0 (eM_0 w _ _) rfl ?_
      refine r_bipush (pc' := 34) (v := 6) g dX12_findLacks_32 rfl rfl ?_
      refine r_iload_n (pc' := 35) g dX12_findLacks_34 rfl rfl ?_
      refine r_imul (pc' := 36) g dX12_findLacks_35 rfl ?_
      refine r_iald (pc' := 37) g dX12_findLacks_36 rfl lM_2 (eM_2 w _ _) ?_
      refine r_isub (pc' := 38) g dX12_findLacks_37 rfl ?_
      refine r_iload_n (pc' := 39) g dX12_findLacks_38 rfl rfl ?_
      refine r_iload_n (pc' := 40) g dX12_findLacks_39 rfl rfl ?_
      refine r_ishr (pc' := 41) g dX12_findLacks_40 rfl ?_
      refine r_iconst (pc' := 42) (v := 1) g dX12_findLacks_41 rfl rfl ?_
      refine r_iand (pc' := 43) g dX12_findLacks_42 rfl ?_
      refine r_aload_n (pc' := 44) g dX12_findLacks_43 rfl rfl ?_
      refine r_get (pc' := 47) g dX12_findLacks_44 rfl fl_X12_13 lM_0 (eM_0 w _ _) rfl ?_
      refine r_bipush (pc' := 49) (v := 6) g dX12_findLacks_47 rfl rfl ?_
      refine r_iload_n (pc' := 50) g dX12_findLacks_49 rfl rfl ?_
      refine r_imul (pc' := 51) g dX12_findLacks_50 rfl ?_
      refine r_iconst (pc' := 52) (v := 1) g dX12_findLacks_51 rfl rfl ?_
      refine r_iadd (pc' := 53) g dX12_findLacks_52 rfl ?_
      refine r_iald (pc' := 54) g dX12_findLacks_53 rfl lM_2 (eM_2 w _ _) ?_
      refine r_imul (pc' := 55) g dX12_findLacks_54 rfl ?_
      refine r_isub (pc' := 56) g dX12_findLacks_55 rfl ?_
      refine r_goto (tgt := 60) g dX12_findLacks_56 rfl ?_
      exact r_weak (Ls2 (Ls2 (Ls2 (Ls2 (Ls1 Ls0))))) (hjn5 (((r12 * (M13.1 2 (ix 40))) - (M13.1 2 (ix (6 * s)))) - (((p2 >>> (s &&& 31)) &&& 1) * (M13.1 2 (ix ((6 * s) + 1))))) M13)
set_option maxHeartbeats 4000000 in
set_option maxRecDepth 100000 in
theorem c_X12_findLacks (l : Launch) (w : W0) (N : Nat) (a1 : Int32) (a2 : Int32) (M : Mm) : Ct l KM w 1 yX12_findLacks cX12_findLacks 5 none [rf w 0, .int a1, .int a2] M (f_X12_findLacks N a1 a2 M) := by
  refine ct_of [rf w 0, .int a1, .int a2, .null, .null] (by decide) (Nat.le_of_ble_eq_true rfl) rfl (fun Z e1 e2 e3 g => ?_)
  have g : Good KM w Z cX12_findLacks RX12 1 := g
  unfold f_X12_findLacks
  have n3 : 3 < Z.2.2.1 := by rw [e2]; decide
  refine r_iconst (pc' := 1) (v := 0) g dX12_findLacks_0 rfl rfl ?_
  refine r_istore_n (pc' := 2) (L' := [rf w 0, .int a1, .int a2, .int 0, .null]) g dX12_findLacks_1 rfl n3 rfl rfl ?_
  refine r_weak (Ls2 (Ls2 (Ls2 (Ls2 (Ls1 Ls0))))) (s_X12_findLacks_2 g e2 e3 N a1 a2 _ (fun z14 M15 => ?_) N 0 M)
  exact r_vret g e3 dX12_findLacks_103
