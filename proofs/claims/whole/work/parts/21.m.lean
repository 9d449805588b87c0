def f_X12_harbours (N : Nat) (M : Mm) : Rs :=
  some ((((M.1 2 (ix 43)) + (M.1 2 (ix 44))) + (M.1 2 (ix 45))) + (M.1 2 (ix 46)), M)

set_option maxHeartbeats 4000000 in
set_option maxRecDepth 100000 in
theorem c_X12_harbours (l : Launch) (w : W0) (N : Nat) (M : Mm) : Ct l KM w 0 yX12_harbours cX12_harbours 1 (some .int) [rf w 0] M (f_X12_harbours N M) := by
  refine ct_of [rf w 0] (by decide) (Nat.le_of_ble_eq_true rfl) rfl (fun Z e1 e2 e3 g => ?_)
  have g : Good KM w Z cX12_harbours RX12 0 := g
  unfold f_X12_harbours
  refine r_aload_n (pc' := 1) g dX12_harbours_0 rfl rfl ?_
  refine r_get (pc' := 4) g dX12_harbours_1 rfl fl_X12_13 lM_0 (eM_0 w _ _) rfl ?_
  refine r_bipush (pc' := 6) (v := 43) g dX12_harbours_4 rfl rfl ?_
  refine r_ialdc (pc' := 7) g dX12_harbours_6 rfl lM_2 (eM_2 w _ _) rfl ?_
  refine r_aload_n (pc' := 8) g dX12_harbours_7 rfl rfl ?_
  refine r_get (pc' := 11) g dX12_harbours_8 rfl fl_X12_13 lM_0 (eM_0 w _ _) rfl ?_
  refine r_bipush (pc' := 13) (v := 44) g dX12_harbours_11 rfl rfl ?_
  refine r_ialdc (pc' := 14) g dX12_harbours_13 rfl lM_2 (eM_2 w _ _) rfl ?_
  refine r_iadd (pc' := 15) g dX12_harbours_14 rfl ?_
  refine r_aload_n (pc' := 16) g dX12_harbours_15 rfl rfl ?_
  refine r_get (pc' := 19) g dX12_harbours_16 rfl fl_X12_13 lM_0 (eM_0 w _ _) rfl ?_
  refine r_bipush (pc' := 21) (v := 45) g dX12_harbours_19 rfl rfl ?_
  refine r_ialdc (pc' := 22) g dX12_harbours_21 rfl lM_2 (eM_2 w _ _) rfl ?_
  refine r_iadd (pc' := 23) g dX12_harbours_22 rfl ?_
  refine r_aload_n (pc' := 24) g dX12_harbours_23 rfl rfl ?_
  refine r_get (pc' := 27) g dX12_harbours_24 rfl fl_X12_13 lM_0 (eM_0 w _ _) rfl ?_
  refine r_bipush (pc' := 29) (v := 46) g dX12_harbours_27 rfl rfl ?_
  refine r_ialdc (pc' := 30) g dX12_harbours_29 rfl lM_2 (eM_2 w _ _) rfl ?_
  refine r_iadd (pc' := 31) g dX12_harbours_30 rfl ?_
  exact r_iret g e3 dX12_harbours_31
def B_X12_image_7 (N : Nat) (G : Unit → Mm → Rs) (rec : Int32 → Mm → Rs) (s : Int32) (M : Mm) : Rs :=
  if s < 47 then
      (if inb s 47 then
      (if inb s 47 then
      (lt' (wI M 25 (ix s) (M.1 2 (ix s))) fun M2 =>
      (rec (s + 1) M2)) else none) else none)
    else
      (G () M)

def B_X12_image_33 (N : Nat) (G : Unit → Mm → Rs) (rec : Int32 → Mm → Rs) (s : Int32) (M : Mm) : Rs :=
  if s < 480 then
      (if inb s 480 then
      (if inb s 480 then
      (lt' (wI M 26 (ix s) (M.1 6 (ix s))) fun M5 =>
      (rec (s + 1) M5)) else none) else none)
    else
      (G () M)

def B_X12_image_60 (N : Nat) (G : Unit → Mm → Rs) (rec : Int32 → Mm → Rs) (s : Int32) (M : Mm) : Rs :=
  if s < 12 then
      (if inb s 12 then
      (if inb s 12 then
      (lt' (wI M 27 (ix s) (M.1 7 (ix s))) fun M8 =>
      (if inb s 12 then
      (if inb s 12 then
      (lt' (wI M8 31 (ix s) (zn (M8.1 11 (ix s)))) fun M9 =>
      (rec (s + 1) M9)) else none) else none)) else none) else none)
    else
      (G () M)

def B_X12_image_98 (N : Nat) (G : Unit → Mm → Rs) (rec : Int32 → Mm → Rs) (s : Int32) (M : Mm) : Rs :=
  if s < 160 then
      (if inb s 160 then
      (if inb s 160 then
      (lt' (wI M 28 (ix s) (M.1 8 (ix s))) fun M12 =>
      (rec (s + 1) M12)) else none) else none)
    else
      (G () M)

def B_X12_image_125 (N : Nat) (G : Unit → Mm → Rs) (rec : Int32 → Mm → Rs) (s : Int32) (M : Mm) : Rs :=
  if s < 4 then
      (if inb s 4 then
      (if inb s 4 then
      (lt' (wI M 29 (ix s) (M.1 9 (ix s))) fun M15 =>
      (if inb s 4 then
      (if inb s 4 then
      (lt' (wI M15 32 (ix s) (zn (M15.1 12 (ix s)))) fun M16 =>
      (rec (s + 1) M16)) else none) else none)) else none) else none)
    else
      (G () M)

def B_X12_image_162 (N : Nat) (G : Unit → Mm → Rs) (rec : Int32 → Mm → Rs) (s : Int32) (M : Mm) : Rs :=
  if s < 60 then
      (if inb s 60 then
      (if inb s 60 then
      (lt' (wI M 30 (ix s) (M.1 24 (ix s))) fun M19 =>
      (rec (s + 1) M19)) else none) else none)
    else
      (G () M)

def f_X12_image (N : Nat) (M : Mm) : Rs :=
  lt' (wI M 0 50 1) fun M1 =>
  (itr (B_X12_image_7 N fun z3 M4 =>
  (itr (B_X12_image_33 N fun z6 M7 =>
  (itr (B_X12_image_60 N fun z10 M11 =>
  (itr (B_X12_image_98 N fun z13 M14 =>
  (itr (B_X12_image_125 N fun z17 M18 =>
  (itr (B_X12_image_162 N fun z20 M21 =>
  (lt' (wI M21 0 48 (M21.1 0 15)) fun M22 =>
  (lt' (wI M22 0 49 (M22.1 0 39)) fun M23 =>
  (bd (f_X12_harbours N  M23) fun r24 M25 =>
  (some (r24, M25)))))) N 0 M18)) N 0 M14)) N 0 M11)) N 0 M7)) N 0 M4)) N 0 M1)

set_option maxHeartbeats 4000000 in
set_option maxRecDepth 100000 in
theorem s_X12_image_7 {w : W0} {Z : Zx} (g : Good KM w Z cX12_image RX12 1) (e2 : Z.2.2.1 = 2) (e3 : Z.2.2.2 = (some .int)) (N : Nat) (G : Unit → Mm → Rs) (kG : ∀ (x : Unit) (M : Mm), Sim KM w Z 31 [rf w 0, .null] [] M (G x M)) : ∀ (n : Nat) (s : Int32) (M : Mm), Sim KM w Z 7 [rf w 0, .int s] [] M (itr (B_X12_image_7 N G) n s M) := by
  have n1 : 1 < Z.2.2.1 := by rw [e2]; decide
  refine r_itr (Lf := fun (s : Int32) => [rf w 0, .int s]) (fun rec hr s M => ?_)
  unfold B_X12_image_7
  refine r_iload_n (pc' := 8) g dX12_image_7 rfl rfl ?_
  refine r_bipush (pc' := 10) (v := 47) g dX12_image_8 rfl rfl ?_
  refine r_cge (pc' := 13) (tgt := 31) g dX12_image_10 rfl rfl ?_ ?_
  · skip
    exact r_weak (Ls2 (Ls1 Ls0)) (kG () M)
  · skip
    refine r_aload_n (pc' := 14) g dX12_image_13 rfl rfl ?_
    refine r_get (pc' := 17) g dX12_image_14 rfl fl_X12_83 lM_0 (eM_0 w _ _) rfl ?_
    refine r_iload_n (pc' := 18) g dX12_image_17 rfl rfl ?_
    refine r_aload_n (pc' := 19) g dX12_image_18 rfl rfl ?_
    refine r_get (pc' := 22) g dX12_image_19 rfl fl_X12_13 lM_0 (eM_0 w _ _) rfl ?_
    refine r_iload_n (pc' := 23) g dX12_image_22 rfl rfl ?_
    refine r_iald (pc' := 24) g dX12_image_23 rfl lM_2 (eM_2 w _ _) ?_
    refine r_iast (pc' := 25) g dX12_image_24 rfl lM_25 (fun m => eM_25 w m _) ?_
    refine r_ltM (fun M2 => ?_)
    refine r_iinc (pc' := 28) (b := 1) (L' := [rf w 0, .int (s + 1)]) g dX12_image_25 rfl rfl rfl n1 rfl rfl ?_
    refine r_goto (tgt := 7) g dX12_image_28 rfl ?_
    exact r_weak (Ls2 (Ls2 Ls0)) (hr (s + 1) M2)
set_option maxHeartbeats 4000000 in
set_option maxRecDepth 100000 in
theorem s_X12_image_33 {w : W0} {Z : Zx} (g : Good KM w Z cX12_image RX12 1) (e2 : Z.2.2.1 = 2) (e3 : Z.2.2.2 = (some .int)) (N : Nat) (G : Unit → Mm → Rs) (kG : ∀ (x : Unit) (M : Mm), Sim KM w Z 58 [rf w 0, .null] [] M (G x M)) : ∀ (n : Nat) (s : Int32) (M : Mm), Sim KM w Z 33 [rf w 0, .int s] [] M (itr (B_X12_image_33 N G) n s M) := by
  have n1 : 1 < Z.2.2.1 := by rw [e2]; decide
  refine r_itr (Lf := fun (s : Int32) => [rf w 0, .int s]) (fun rec hr s M => ?_)
  unfold B_X12_image_33
  refine r_iload_n (pc' := 34) g dX12_image_33 rfl rfl ?_
  refine r_sipush (pc' := 37) (v := 480) g dX12_image_34 rfl rfl ?_
  refine r_cge (pc' := 40) (tgt := 58) g dX12_image_37 rfl rfl ?_ ?_
  · skip
    exact r_weak (Ls2 (Ls1 Ls0)) (kG () M)
  · skip
    refine r_aload_n (pc' := 41) g dX12_image_40 rfl rfl ?_
    refine r_get (pc' := 44) g dX12_image_41 rfl fl_X12_86 lM_0 (eM_0 w _ _) rfl ?_
    refine r_iload_n (pc' := 45) g dX12_image_44 rfl rfl ?_
    refine r_aload_n (pc' := 46) g dX12_image_45 rfl rfl ?_
    refine r_get (pc' := 49) g dX12_image_46 rfl fl_X12_25 lM_0 (eM_0 w _ _) rfl ?_
    refine r_iload_n (pc' := 50) g dX12_image_49 rfl rfl ?_
    refine r_iald (pc' := 51) g dX12_image_50 rfl lM_6 (eM_6 w _ _) ?_
    refine r_iast (pc' := 52) g dX12_image_51 rfl lM_26 (fun m => eM_26 w m _) ?_
    refine r_ltM (fun M5 => ?_)
    refine r_iinc (pc' := 55) (b := 1) (L' := [rf w 0, .int (s + 1)]) g dX12_image_52 rfl rfl rfl n1 rfl rfl ?_
    refine r_goto (tgt := 33) g dX12_image_55 rfl ?_
    exact r_weak (Ls2 (Ls2 Ls0)) (hr (s + 1) M5)
set_option maxHeartbeats 4000000 in
set_option maxRecDepth 100000 in
theorem s_X12_image_60 {w : W0} {Z : Zx} (g : Good KM w Z cX12_image RX12 1) (e2 : Z.2.2.1 = 2) (e3 : Z.2.2.2 = (some .int)) (N : Nat) (G : Unit → Mm → Rs) (kG : ∀ (x : Unit) (M : Mm), Sim KM w Z 96 [rf w 0, .null] [] M (G x M)) : ∀ (n : Nat) (s : Int32) (M : Mm), Sim KM w Z 60 [rf w 0, .int s] [] M (itr (B_X12_image_60 N G) n s M) := by
  have n1 : 1 < Z.2.2.1 := by rw [e2]; decide
  refine r_itr (Lf := fun (s : Int32) => [rf w 0, .int s]) (fun rec hr s M => ?_)
  unfold B_X12_image_60
  refine r_iload_n (pc' := 61) g dX12_image_60 rfl rfl ?_
  refine r_bipush (pc' := 63) (v := 12) g dX12_image_61 rfl rfl ?_
  refine r_cge (pc' := 66) (tgt := 96) g dX12_image_63 rfl rfl ?_ ?_
  · skip
    exact r_weak (Ls2 (Ls1 Ls0)) (kG () M)
  · skip
    refine r_aload_n (pc' := 67) g dX12_image_66 rfl rfl ?_
    refine r_get (pc' := 70) g dX12_image_67 rfl fl_X12_89 lM_0 (eM_0 w _ _) rfl ?_
    refine r_iload_n (pc' := 71) g dX12_image_70 rfl rfl ?_
    refine r_aload_n (pc' := 72) g dX12_image_71 rfl rfl ?_
    refine r_get (pc' := 75) g dX12_image_72 rfl fl_X12_28 lM_0 (eM_0 w _ _) rfl ?_
    refine r_iload_n (pc' := 76) g dX12_image_75 rfl rfl ?_
    refine r_iald (pc' := 77) g dX12_image_76 rfl lM_7 (eM_7 w _ _) ?_
    refine r_iast (pc' := 78) g dX12_image_77 rfl lM_27 (fun m => eM_27 w m _) ?_
    refine r_ltM (fun M8 => ?_)
    refine r_aload_n (pc' := 79) g dX12_image_78 rfl rfl ?_
    refine r_get (pc' := 82) g dX12_image_79 rfl fl_X12_101 lM_0 (eM_0 w _ _) rfl ?_
    refine r_iload_n (pc' := 83) g dX12_image_82 rfl rfl ?_
    refine r_aload_n (pc' := 84) g dX12_image_83 rfl rfl ?_
    refine r_get (pc' := 87) g dX12_image_84 rfl fl_X12_40 lM_0 (eM_0 w _ _) rfl ?_
    refine r_iload_n (pc' := 88) g dX12_image_87 rfl rfl ?_
    refine r_zald (pc' := 89) g dX12_image_88 rfl lM_11 (eM_11 w _ _) ?_
    refine r_zast (pc' := 90) g dX12_image_89 rfl lM_31 (fun m => eM_31 w m _) ?_
    refine r_ltM (fun M9 => ?_)
    refine r_iinc (pc' := 93) (b := 1) (L' := [rf w 0, .int (s + 1)]) g dX12_image_90 rfl rfl rfl n1 rfl rfl ?_
    refine r_goto (tgt := 60) g dX12_image_93 rfl ?_
    exact r_weak (Ls2 (Ls2 Ls0)) (hr (s + 1) M9)
set_option maxHeartbeats 4000000 in
set_option maxRecDepth 100000 in
theorem s_X12_image_98 {w : W0} {Z : Zx} (g : Good KM w Z cX12_image RX12 1) (e2 : Z.2.2.1 = 2) (e3 : Z.2.2.2 = (some .int)) (N : Nat) (G : Unit → Mm → Rs) (kG : ∀ (x : Unit) (M : Mm), Sim KM w Z 123 [rf w 0, .null] [] M (G x M)) : ∀ (n : Nat) (s : Int32) (M : Mm), Sim KM w Z 98 [rf w 0, .int s] [] M (itr (B_X12_image_98 N G) n s M) := by
  have n1 : 1 < Z.2.2.1 := by rw [e2]; decide
  refine r_itr (Lf := fun (s : Int32) => [rf w 0, .int s]) (fun rec hr s M => ?_)
  unfold B_X12_image_98
  refine r_iload_n (pc' := 99) g dX12_image_98 rfl rfl ?_
  refine r_sipush (pc' := 102) (v := 160) g dX12_image_99 rfl rfl ?_
  refine r_cge (pc' := 105) (tgt := 123) g dX12_image_102 rfl rfl ?_ ?_
  · skip
    exact r_weak (Ls2 (Ls1 Ls0)) (kG () M)
  · skip
    refine r_aload_n (pc' := 106) g dX12_image_105 rfl rfl ?_
    refine r_get (pc' := 109) g dX12_image_106 rfl fl_X12_92 lM_0 (eM_0 w _ _) rfl ?_
    refine r_iload_n (pc' := 110) g dX12_image_109 rfl rfl ?_
    refine r_aload_n (pc' := 111) g dX12_image_110 rfl rfl ?_
    refine r_get (pc' := 114) g dX12_image_111 rfl fl_X12_31 lM_0 (eM_0 w _ _) rfl ?_
    refine r_iload_n (pc' := 115) g dX12_image_114 rfl rfl ?_
    refine r_iald (pc' := 116) g dX12_image_115 rfl lM_8 (eM_8 w _ _) ?_
    refine r_iast (pc' := 117) g dX12_image_116 rfl lM_28 (fun m => eM_28 w m _) ?_
    refine r_ltM (fun M12 => ?_)
    refine r_iinc (pc' := 120) (b := 1) (L' := [rf w 0, .int (s + 1)]) g dX12_image_117 rfl rfl rfl n1 rfl rfl ?_
    refine r_goto (tgt := 98) g dX12_image_120 rfl ?_
    exact r_weak (Ls2 (Ls2 Ls0)) (hr (s + 1) M12)
set_option maxHeartbeats 4000000 in
set_option maxRecDepth 100000 in
theorem s_X12_image_125 {w : W0} {Z : Zx} (g : Good KM w Z cX12_image RX12 1) (e2 : Z.2.2.1 = 2) (e3 : Z.2.2.2 = (some .int)) (N : Nat) (G : Unit → Mm → Rs) (kG : ∀ (x : Unit) (M : Mm), Sim KM w Z 160 [rf w 0, .null] [] M (G x M)) : ∀ (n : Nat) (s : Int32) (M : Mm), Sim KM w Z 125 [rf w 0, .int s] [] M (itr (B_X12_image_125 N G) n s M) := by
  have n1 : 1 < Z.2.2.1 := by rw [e2]; decide
  refine r_itr (Lf := fun (s : Int32) => [rf w 0, .int s]) (fun rec hr s M => ?_)
  unfold B_X12_image_125
  refine r_iload_n (pc' := 126) g dX12_image_125 rfl rfl ?_
  refine r_iconst (pc' := 127) (v := 4) g dX12_image_126 rfl rfl ?_
  refine r_cge (pc' := 130) (tgt := 160) g dX12_image_127 rfl rfl ?_ ?_
  · skip
    exact r_weak (Ls2 (Ls1 Ls0)) (kG () M)
  · skip
    refine r_aload_n (pc' := 131) g dX12_image_130 rfl rfl ?_
    refine r_get (pc' := 134) g dX12_image_131 rfl fl_X12_95 lM_0 (eM_0 w _ _) rfl ?_
    refine r_iload_n (pc' := 135) g dX12_image_134 rfl rfl ?_
    refine r_aload_n (pc' := 136) g dX12_image_135 rfl rfl ?_
    refine r_get (pc' := 139) g dX12_image_136 rfl fl_X12_34 lM_0 (eM_0 w _ _) rfl ?_
    refine r_iload_n (pc' := 140) g dX12_image_139 rfl rfl ?_
    refine r_iald (pc' := 141) g dX12_image_140 rfl lM_9 (eM_9 w _ _) ?_
    refine r_iast (pc' := 142) g dX12_image_141 rfl lM_29 (fun m => eM_29 w m _) ?_
    refine r_ltM (fun M15 => ?_)
    refine r_aload_n (pc' := 143) g dX12_image_142 rfl rfl ?_
    refine r_get (pc' := 146) g dX12_image_143 rfl fl_X12_104 lM_0 (eM_0 w _ _) rfl ?_
    refine r_iload_n (pc' := 147) g dX12_image_146 rfl rfl ?_
    refine r_aload_n (pc' := 148) g dX12_image_147 rfl rfl ?_
    refine r_get (pc' := 151) g dX12_image_148 rfl fl_X12_44 lM_0 (eM_0 w _ _) rfl ?_
    refine r_iload_n (pc' := 152) g dX12_image_151 rfl rfl ?_
    refine r_zald (pc' := 153) g dX12_image_152 rfl lM_12 (eM_12 w _ _) ?_
    refine r_zast (pc' := 154) g dX12_image_153 rfl lM_32 (fun m => eM_32 w m _) ?_
    refine r_ltM (fun M16 => ?_)
    refine r_iinc (pc' := 157) (b := 1) (L' := [rf w 0, .int (s + 1)]) g dX12_image_154 rfl rfl rfl n1 rfl rfl ?_
    refine r_goto (tgt := 125) g dX12_image_157 rfl ?_
    exact r_weak (Ls2 (Ls2 Ls0)) (hr (s + 1) M16)
set_option maxHeartbeats 4000000 in
set_option maxRecDepth 100000 in
theorem s_X12_image_162 {w : W0} {Z : Zx} (g : Good KM w Z cX12_image RX12 1) (e2 : Z.2.2.1 = 2) (e3 : Z.2.2.2 = (some .int)) (N : Nat) (G : Unit → Mm → Rs) (kG : ∀ (x : Unit) (M : Mm), Sim KM w Z 186 [rf w 0, .null] [] M (G x M)) : ∀ (n : Nat) (s : Int32) (M : Mm), Sim KM w Z 162 [rf w 0, .int s] [] M (itr (B_X12_image_162 N G) n s M) := by
  have n1 : 1 < Z.2.2.1 := by rw [e2]; decide
  refine r_itr (Lf := fun (s : Int32) => [rf w 0, .int s]) (fun rec hr s M => ?_)
  unfold B_X12_image_162
  refine r_iload_n (pc' := 163) g dX12_image_162 rfl rfl ?_
  refine r_bipush (pc' := 165) (v := 60) g dX12_image_163 rfl rfl ?_
  refine r_cge (pc' := 168) (tgt := 186) g dX12_image_165 rfl rfl ?_ ?_
  · skip
    exact r_weak (Ls2 (Ls1 Ls0)) (kG () M)
  · skip
    refine r_aload_n (pc' := 169) g dX12_image_168 rfl rfl ?_
    refine r_get (pc' := 172) g dX12_image_169 rfl fl_X12_98 lM_0 (eM_0 w _ _) rfl ?_
    refine r_iload_n (pc' := 173) g dX12_image_172 rfl rfl ?_
    refine r_aload_n (pc' := 174) g dX12_image_173 rfl rfl ?_
    refine r_get (pc' := 177) g dX12_image_174 rfl fl_X12_80 lM_0 (eM_0 w _ _) rfl ?_
    refine r_iload_n (pc' := 178) g dX12_image_177 rfl rfl ?_
    refine r_iald (pc' := 179) g dX12_image_178 rfl lM_24 (eM_24 w _ _) ?_
    refine r_iast (pc' := 180) g dX12_image_179 rfl lM_30 (fun m => eM_30 w m _) ?_
    refine r_ltM (fun M19 => ?_)
    refine r_iinc (pc' := 183) (b := 1) (L' := [rf w 0, .int (s + 1)]) g dX12_image_180 rfl rfl rfl n1 rfl rfl ?_
    refine r_goto (tgt := 162) g dX12_image_183 rfl ?_
    exact r_weak (Ls2 (Ls2 Ls0)) (hr (s + 1) M19)
set_option maxHeartbeats 4000000 in
set_option maxRecDepth 100000 in
theorem c_X12_image (l : Launch) (w : W0) (N : Nat) (M : Mm) : Ct l KM w 1 yX12_image cX12_image 2 (some .int) [rf w 0] M (f_X12_image N M) := by
  refine ct_of [rf w 0, .null] (by decide) (Nat.le_of_ble_eq_true rfl) rfl (fun Z e1 e2 e3 g => ?_)
  have g : Good KM w Z cX12_image RX12 1 := g
  unfold f_X12_image
  have n1 : 1 < Z.2.2.1 := by rw [e2]; decide
  refine r_aload_n (pc' := 1) g dX12_image_0 rfl rfl ?_
  refine r_iconst (pc' := 2) (v := 1) g dX12_image_1 rfl rfl ?_
  refine r_putz (pc' := 5) g dX12_image_2 rfl fl_X12_335 rfl rfl lM_0 (eM_0 w _ _) (Nat.le_of_ble_eq_true rfl) (sM_0_50 w _ _ _) ?_
  refine r_ltM (fun M1 => ?_)
  refine r_iconst (pc' := 6) (v := 0) g dX12_image_5 rfl rfl ?_
  refine r_istore_n (pc' := 7) (L' := [rf w 0, .int 0]) g dX12_image_6 rfl n1 rfl rfl ?_
  refine r_weak (Ls2 (Ls2 Ls0)) (s_X12_image_7 g e2 e3 N _ (fun z3 M4 => ?_) N 0 M1)
  refine r_iconst (pc' := 32) (v := 0) g dX12_image_31 rfl rfl ?_
  refine r_istore_n (pc' := 33) (L' := [rf w 0, .int 0]) g dX12_image_32 rfl n1 rfl rfl ?_
  refine r_weak (Ls2 (Ls2 Ls0)) (s_X12_image_33 g e2 e3 N _ (fun z6 M7 => ?_) N 0 M4)
  refine r_iconst (pc' := 59) (v := 0) g dX12_image_58 rfl rfl ?_
  refine r_istore_n (pc' := 60) (L' := [rf w 0, .int 0]) g dX12_image_59 rfl n1 rfl rfl ?_
  refine r_weak (Ls2 (Ls2 Ls0)) (s_X12_image_60 g e2 e3 N _ (fun z10 M11 => ?_) N 0 M7)
  refine r_iconst (pc' := 97) (v := 0) g dX12_image_96 rfl rfl ?_
  refine r_istore_n (pc' := 98) (L' := [rf w 0, .int 0]) g dX12_image_97 rfl n1 rfl rfl ?_
  refine r_weak (Ls2 (Ls2 Ls0)) (s_X12_image_98 g e2 e3 N _ (fun z13 M14 => ?_) N 0 M11)
  refine r_iconst (pc' := 124) (v := 0) g dX12_image_123 rfl rfl ?_
  refine r_istore_n (pc' := 125) (L' := [rf w 0, .int 0]) g dX12_image_124 rfl n1 rfl rfl ?_
  refine r_weak (Ls2 (Ls2 Ls0)) (s_X12_image_125 g e2 e3 N _ (fun z17 M18 => ?_) N 0 M14)
  refine r_iconst (pc' := 161) (v := 0) g dX12_image_160 rfl rfl ?_
  refine r_istore_n (pc' := 162) (L' := [rf w 0, .int 0]) g dX12_image_161 rfl n1 rfl rfl ?_
  refine r_weak (Ls2 (Ls2 Ls0)) (s_X12_image_162 g e2 e3 N _ (fun z20 M21 => ?_) N 0 M18)
  refine r_aload_n (pc' := 187) g dX12_image_186 rfl rfl ?_
  refine r_aload_n (pc' := 188) g dX12_image_187 rfl rfl ?_
  refine r_get (pc' := 191) g dX12_image_188 rfl fl_X12_186 lM_0 (eM_0 w _ _) rfl ?_
  refine r_put (pc' := 194) g dX12_image_191 rfl fl_X12_338 rfl lM_0 (eM_0 w _ _) (Nat.le_of_ble_eq_true rfl) (sM_0_48 w _ _ _) ?_
  refine r_ltM (fun M22 => ?_)
  refine r_aload_n (pc' := 195) g dX12_image_194 rfl rfl ?_
  refine r_aload_n (pc' := 196) g dX12_image_195 rfl rfl ?_
  refine r_get (pc' := 199) g dX12_image_196 rfl fl_X12_330 lM_0 (eM_0 w _ _) rfl ?_
  refine r_put (pc' := 202) g dX12_image_199 rfl fl_X12_341 rfl lM_0 (eM_0 w _ _) (Nat.le_of_ble_eq_true rfl) (sM_0_49 w _ _ _) ?_
  refine r_ltM (fun M23 => ?_)
  refine r_aload_n (pc' := 203) g dX12_image_202 rfl rfl ?_
  refine r_callVi (pc' := 206) (As := []) (rest := []) g dX12_image_203 rfl ml_X12_344 mw_X12_harbours mv_X12_harbours (Nat.le_of_ble_eq_true rfl) (c_X12_harbours _ w N  M23) rfl lM_0 (eM_0 w _ _) rfl rfl (Nat.le_of_ble_eq_true rfl) (fun r24 M25 => ?_)
  exact r_iret g e3 dX12_image_206
def B_X12_restore_16 (N : Nat) (G : Unit → Mm → Rs) (rec : Int32 → Mm → Rs) (s : Int32) (M : Mm) : Rs :=
  if s < 47 then
      (if inb s 47 then
      (if inb s 47 then
      (lt' (wI M 2 (ix s) (M.1 25 (ix s))) fun M1 =>
      (rec (s + 1) M1)) else none) else none)
    else
      (G () M)

def B_X12_restore_42 (N : Nat) (G : Unit → Mm → Rs) (rec : Int32 → Mm → Rs) (s : Int32) (M : Mm) : Rs :=
  if s < 480 then
      (if inb s 480 then
      (if inb s 480 then
      (lt' (wI M 6 (ix s) (M.1 26 (ix s))) fun M4 =>
      (rec (s + 1) M4)) else none) else none)
    else
      (G () M)

def B_X12_restore_69 (N : Nat) (G : Unit → Mm → Rs) (rec : Int32 → Mm → Rs) (s : Int32) (M : Mm) : Rs :=
  if s < 12 then
      (if inb s 12 then
      (if inb s 12 then
      (lt' (wI M 7 (ix s) (M.1 27 (ix s))) fun M7 =>
      (if inb s 12 then
      (if inb s 12 then
      (lt' (wI M7 11 (ix s) (zn (M7.1 31 (ix s)))) fun M8 =>
      (rec (s + 1) M8)) else none) else none)) else none) else none)
    else
      (G () M)

def B_X12_restore_107 (N : Nat) (G : Unit → Mm → Rs) (rec : Int32 → Mm → Rs) (s : Int32) (M : Mm) : Rs :=
  if s < 160 then
      (if inb s 160 then
      (if inb s 160 then
      (lt' (wI M 8 (ix s) (M.1 28 (ix s))) fun M11 =>
      (rec (s + 1) M11)) else none) else none)
    else
      (G () M)

def B_X12_restore_134 (N : Nat) (G : Unit → Mm → Rs) (rec : Int32 → Mm → Rs) (s : Int32) (M : Mm) : Rs :=
  if s < 4 then
      (if inb s 4 then
      (if inb s 4 then
      (lt' (wI M 9 (ix s) (M.1 29 (ix s))) fun M14 =>
      (if inb s 4 then
      (if inb s 4 then
      (lt' (wI M14 12 (ix s) (zn (M14.1 32 (ix s)))) fun M15 =>
      (rec (s + 1) M15)) else none) else none)) else none) else none)
    else
      (G () M)

def B_X12_restore_171 (N : Nat) (G : Unit → Mm → Rs) (rec : Int32 → Mm → Rs) (s : Int32) (M : Mm) : Rs :=
  if s < 60 then
      (if inb s 60 then
      (if inb s 60 then
      (lt' (wI M 24 (ix s) (M.1 30 (ix s))) fun M18 =>
      (rec (s + 1) M18)) else none) else none)
    else
      (G () M)

def f_X12_restore (N : Nat) (M : Mm) : Rs :=
  if (M.1 0 50) = 0 then
    (bd (f_X12_no N (-3) M) fun r27 M28 =>
    (some (r27, M28)))
  else
    (itr (B_X12_restore_16 N fun z2 M3 =>
    (itr (B_X12_restore_42 N fun z5 M6 =>
    (itr (B_X12_restore_69 N fun z9 M10 =>
    (itr (B_X12_restore_107 N fun z12 M13 =>
    (itr (B_X12_restore_134 N fun z16 M17 =>
    (itr (B_X12_restore_171 N fun z19 M20 =>
    (lt' (wI M20 0 15 (M20.1 0 48)) fun M21 =>
    (lt' (wI M21 0 39 (M21.1 0 49)) fun M22 =>
    (lt' (wI M22 0 5 0) fun M23 =>
    (lt' (wI M23 0 2 0) fun M24 =>
    (bd (f_X12_harbours N  M24) fun r25 M26 =>
    (some (r25, M26)))))))) N 0 M17)) N 0 M13)) N 0 M10)) N 0 M6)) N 0 M3)) N 0 M)

set_option maxHeartbeats 4000000 in
set_option maxRecDepth 100000 in
theorem s_X12_restore_16 {w : W0} {Z : Zx} (g : Good KM w Z cX12_restore RX12 1) (e2 : Z.2.2.1 = 2) (e3 : Z.2.2.2 = (some .int)) (N : Nat) (G : Unit → Mm → Rs) (kG : ∀ (x : Unit) (M : Mm), Sim KM w Z 40 [rf w 0, .null] [] M (G x M)) : ∀ (n : Nat) (s : Int32) (M : Mm), Sim KM w Z 16 [rf w 0, .int s] [] M (itr (B_X12_restore_16 N G) n s M) := by
  have n1 : 1 < Z.2.2.1 := by rw [e2]; decide
  refine r_itr (Lf := fun (s : Int32) => [rf w 0, .int s]) (fun rec hr s M => ?_)
  unfold B_X12_restore_16
  refine r_iload_n (pc' := 17) g dX12_restore_16 rfl rfl ?_
  refine r_bipush (pc' := 19) (v := 47) g dX12_restore_17 rfl rfl ?_
  refine r_cge (pc' := 22) (tgt := 40) g dX12_restore_19 rfl rfl ?_ ?_
  · skip
    exact r_weak (Ls2 (Ls1 Ls0)) (kG () M)
  · skip
    refine r_aload_n (pc' := 23) g dX12_restore_22 rfl rfl ?_
    refine r_get (pc' := 26) g dX12_restore_23 rfl fl_X12_13 lM_0 (eM_0 w _ _) rfl ?_
    refine r_iload_n (pc' := 27) g dX12_restore_26 rfl rfl ?_
    refine r_aload_n (pc' := 28) g dX12_restore_27 rfl rfl ?_
    refine r_get (pc' := 31) g dX12_restore_28 rfl fl_X12_83 lM_0 (eM_0 w _ _) rfl ?_
    refine r_iload_n (pc' := 32) g dX12_restore_31 rfl rfl ?_
    refine r_iald (pc' := 33) g dX12_restore_32 rfl lM_25 (eM_25 w _ _) ?_
    refine r_iast (pc' := 34) g dX12_restore_33 rfl lM_2 (fun m => eM_2 w m _) ?_
    refine r_ltM (fun M1 => ?_)
    refine r_iinc (pc' := 37) (b := 1) (L' := [rf w 0, .int (s + 1)]) g dX12_restore_34 rfl rfl rfl n1 rfl rfl ?_
    refine r_goto (tgt := 16) g dX12_restore_37 rfl ?_
    exact r_weak (Ls2 (Ls2 Ls0)) (hr (s + 1) M1)
set_option maxHeartbeats 4000000 in
set_option maxRecDepth 100000 in
theorem s_X12_restore_42 {w : W0} {Z : Zx} (g : Good KM w Z cX12_restore RX12 1) (e2 : Z.2.2.1 = 2) (e3 : Z.2.2.2 = (some .int)) (N : Nat) (G : Unit → Mm → Rs) (kG : ∀ (x : Unit) (M : Mm), Sim KM w Z 67 [rf w 0, .null] [] M (G x M)) : ∀ (n : Nat) (s : Int32) (M : Mm), Sim KM w Z 42 [rf w 0, .int s] [] M (itr (B_X12_restore_42 N G) n s M) := by
  have n1 : 1 < Z.2.2.1 := by rw [e2]; decide
  refine r_itr (Lf := fun (s : Int32) => [rf w 0, .int s]) (fun rec hr s M => ?_)
  unfold B_X12_restore_42
  refine r_iload_n (pc' := 43) g dX12_restore_42 rfl rfl ?_
  refine r_sipush (pc' := 46) (v := 480) g dX12_restore_43 rfl rfl ?_
  refine r_cge (pc' := 49) (tgt := 67) g dX12_restore_46 rfl rfl ?_ ?_
  · skip
    exact r_weak (Ls2 (Ls1 Ls0)) (kG () M)
  · skip
    refine r_aload_n (pc' := 50) g dX12_restore_49 rfl rfl ?_
    refine r_get (pc' := 53) g dX12_restore_50 rfl fl_X12_25 lM_0 (eM_0 w _ _) rfl ?_
    refine r_iload_n (pc' := 54) g dX12_restore_53 rfl rfl ?_
    refine r_aload_n (pc' := 55) g dX12_restore_54 rfl rfl ?_
    refine r_get (pc' := 58) g dX12_restore_55 rfl fl_X12_86 lM_0 (eM_0 w _ _) rfl ?_
    refine r_iload_n (pc' := 59) g dX12_restore_58 rfl rfl ?_
    refine r_iald (pc' := 60) g dX12_restore_59 rfl lM_26 (eM_26 w _ _) ?_
    refine r_iast (pc' := 61) g dX12_restore_60 rfl lM_6 (fun m => eM_6 w m _) ?_
    refine r_ltM (fun M4 => ?_)
    refine r_iinc (pc' := 64) (b := 1) (L' := [rf w 0, .int (s + 1)]) g dX12_restore_61 rfl rfl rfl n1 rfl rfl ?_
    refine r_goto (tgt := 42) g dX12_restore_64 rfl ?_
    exact r_weak (Ls2 (Ls2 Ls0)) (hr (s + 1) M4)
set_option maxHeartbeats 4000000 in
set_option maxRecDepth 100000 in
theorem s_X12_restore_69 {w : W0} {Z : Zx} (g : Good KM w Z cX12_restore RX12 1) (e2 : Z.2.2.1 = 2) (e3 : Z.2.2.2 = (some .int)) (N : Nat) (G : Unit → Mm → Rs) (kG : ∀ (x : Unit) (M : Mm), Sim KM w Z 105 [rf w 0, .null] [] M (G x M)) : ∀ (n : Nat) (s : Int32) (M : Mm), Sim KM w Z 69 [rf w 0, .int s] [] M (itr (B_X12_restore_69 N G) n s M) := by
  have n1 : 1 < Z.2.2.1 := by rw [e2]; decide
  refine r_itr (Lf := fun (s : Int32) => [rf w 0, .int s]) (fun rec hr s M => ?_)
  unfold B_X12_restore_69
  refine r_iload_n (pc' := 70) g dX12_restore_69 rfl rfl ?_
  refine r_bipush (pc' := 72) (v := 12) g dX12_restore_70 rfl rfl ?_
  refine r_cge (pc' := 75) (tgt := 105) g dX12_restore_72 rfl rfl ?_ ?_
  · skip
    exact r_weak (Ls2 (Ls1 Ls0)) (kG () M)
  · skip
    refine r_aload_n (pc' := 76) g dX12_restore_75 rfl rfl ?_
    refine r_get (pc' := 79) g dX12_restore_76 rfl fl_X12_28 lM_0 (eM_0 w _ _) rfl ?_
    refine r_iload_n (pc' := 80) g dX12_restore_79 rfl rfl ?_
    refine r_aload_n (pc' := 81) g dX12_restore_80 rfl rfl ?_
    refine r_get (pc' := 84) g dX12_restore_81 rfl fl_X12_89 lM_0 (eM_0 w _ _) rfl ?_
    refine r_iload_n (pc' := 85) g dX12_restore_84 rfl rfl ?_
    refine r_iald (pc' := 86) g dX12_restore_85 rfl lM_27 (eM_27 w _ _) ?_
    refine r_iast (pc' := 87) g dX12_restore_86 rfl lM_7 (fun m => eM_7 w m _) ?_
    refine r_ltM (fun M7 => ?_)
    refine r_aload_n (pc' := 88) g dX12_restore_87 rfl rfl ?_
    refine r_get (pc' := 91) g dX12_restore_88 rfl fl_X12_40 lM_0 (eM_0 w _ _) rfl ?_
    refine r_iload_n (pc' := 92) g dX12_restore_91 rfl rfl ?_
    refine r_aload_n (pc' := 93) g dX12_restore_92 rfl rfl ?_
    refine r_get (pc' := 96) g dX12_restore_93 rfl fl_X12_101 lM_0 (eM_0 w _ _) rfl ?_
    refine r_iload_n (pc' := 97) g dX12_restore_96 rfl rfl ?_
    refine r_zald (pc' := 98) g dX12_restore_97 rfl lM_31 (eM_31 w _ _) ?_
    refine r_zast (pc' := 99) g dX12_restore_98 rfl lM_11 (fun m => eM_11 w m _) ?_
    refine r_ltM (fun M8 => ?_)
    refine r_iinc (pc' := 102) (b := 1) (L' := [rf w 0, .int (s + 1)]) g dX12_restore_99 rfl rfl rfl n1 rfl rfl ?_
    refine r_goto (tgt := 69) g dX12_restore_102 rfl ?_
    exact r_weak (Ls2 (Ls2 Ls0)) (hr (s + 1) M8)
set_option maxHeartbeats 4000000 in
set_option maxRecDepth 100000 in
theorem s_X12_restore_107 {w : W0} {Z : Zx} (g : Good KM w Z cX12_restore RX12 1) (e2 : Z.2.2.1 = 2) (e3 : Z.2.2.2 = (some .int)) (N : Nat) (G : Unit → Mm → Rs) (kG : ∀ (x : Unit) (M : Mm), Sim KM w Z 132 [rf w 0, .null] [] M (G x M)) : ∀ (n : Nat) (s : Int32) (M : Mm), Sim KM w Z 107 [rf w 0, .int s] [] M (itr (B_X12_restore_107 N G) n s M) := by
  have n1 : 1 < Z.2.2.1 := by rw [e2]; decide
  refine r_itr (Lf := fun (s : Int32) => [rf w 0, .int s]) (fun rec hr s M => ?_)
  unfold B_X12_restore_107
  refine r_iload_n (pc' := 108) g dX12_restore_107 rfl rfl ?_
  refine r_sipush (pc' := 111) (v := 160) g dX12_restore_108 rfl rfl ?_
  refine r_cge (pc' := 114) (tgt := 132) g dX12_restore_111 rfl rfl ?_ ?_
  · skip
    exact r_weak (Ls2 (Ls1 Ls0)) (kG () M)
  · skip
    refine r_aload_n (pc' := 115) g dX12_restore_114 rfl rfl ?_
    refine r_get (pc' := 118) g dX12_restore_115 rfl fl_X12_31 lM_0 (eM_0 w _ _) rfl ?_
    refine r_iload_n (pc' := 119) g dX12_restore_118 rfl rfl ?_
    refine r_aload_n (pc' := 120) g dX12_restore_119 rfl rfl ?_
    refine r_get (pc' := 123) g dX12_restore_120 rfl fl_X12_92 lM_0 (eM_0 w _ _) rfl ?_
    refine r_iload_n (pc' := 124) g dX12_restore_123 rfl rfl ?_
    refine r_iald (pc' := 125) g dX12_restore_124 rfl lM_28 (eM_28 w _ _) ?_
    refine r_iast (pc' := 126) g dX12_restore_125 rfl lM_8 (fun m => eM_8 w m _) ?_
    refine r_ltM (fun M11 => ?_)
    refine r_iinc (pc' := 129) (b := 1) (L' := [rf w 0, .int (s + 1)]) g dX12_restore_126 rfl rfl rfl n1 rfl rfl ?_
    refine r_goto (tgt := 107) g dX12_restore_129 rfl ?_
    exact r_weak (Ls2 (Ls2 Ls0)) (hr (s + 1) M11)
set_option maxHeartbeats 4000000 in
set_option maxRecDepth 100000 in
theorem s_X12_restore_134 {w : W0} {Z : Zx} (g : Good KM w Z cX12_restore RX12 1) (e2 : Z.2.2.1 = 2) (e3 : Z.2.2.2 = (some .int)) (N : Nat) (G : Unit → Mm → Rs) (kG : ∀ (x : Unit) (M : Mm), Sim KM w Z 169 [rf w 0, .null] [] M (G x M)) : ∀ (n : Nat) (s : Int32) (M : Mm), Sim KM w Z 134 [rf w 0, .int s] [] M (itr (B_X12_restore_134 N G) n s M) := by
  have n1 : 1 < Z.2.2.1 := by rw [e2]; decide
  refine r_itr (Lf := fun (s : Int32) => [rf w 0, .int s]) (fun rec hr s M => ?_)
  unfold B_X12_restore_134
  refine r_iload_n (pc' := 135) g dX12_restore_134 rfl rfl ?_
  refine r_iconst (pc' := 136) (v := 4) g dX12_restore_135 rfl rfl ?_
  refine r_cge (pc' := 139) (tgt := 169) g dX12_restore_136 rfl rfl ?_ ?_
  · skip
    exact r_weak (Ls2 (Ls1 Ls0)) (kG () M)
  · skip
    refine r_aload_n (pc' := 140) g dX12_restore_139 rfl rfl ?_
    refine r_get (pc' := 143) g dX12_restore_140 rfl fl_X12_34 lM_0 (eM_0 w _ _) rfl ?_
    refine r_iload_n (pc' := 144) g dX12_restore_143 rfl rfl ?_
    refine r_aload_n (pc' := 145) g dX12_restore_144 rfl rfl ?_
    refine r_get (pc' := 148) g dX12_restore_145 rfl fl_X12_95 lM_0 (eM_0 w _ _) rfl ?_
    refine r_iload_n (pc' := 149) g dX12_restore_148 rfl rfl ?_
    refine r_iald (pc' := 150) g dX12_restore_149 rfl lM_29 (eM_29 w _ _) ?_
    refine r_iast (pc' := 151) g dX12_restore_150 rfl lM_9 (fun m => eM_9 w m _) ?_
    refine r_ltM (fun M14 => ?_)
    refine r_aload_n (pc' := 152) g dX12_restore_151 rfl rfl ?_
    refine r_get (pc' := 155) g dX12_restore_152 rfl fl_X12_44 lM_0 (eM_0 w _ _) rfl ?_
    refine r_iload_n (pc' := 156) g dX12_restore_155 rfl rfl ?_
    refine r_aload_n (pc' := 157) g dX12_restore_156 rfl rfl ?_
    refine r_get (pc' := 160) g dX12_restore_157 rfl fl_X12_104 lM_0 (eM_0 w _ _) rfl ?_
    refine r_iload_n (pc' := 161) g dX12_restore_160 rfl rfl ?_
    refine r_zald (pc' := 162) g dX12_restore_161 rfl lM_32 (eM_32 w _ _) ?_
    refine r_zast (pc' := 163) g dX12_restore_162 rfl lM_12 (fun m => eM_12 w m _) ?_
    refine r_ltM (fun M15 => ?_)
    refine r_iinc (pc' := 166) (b := 1) (L' := [rf w 0, .int (s + 1)]) g dX12_restore_163 rfl rfl rfl n1 rfl rfl ?_
    refine r_goto (tgt := 134) g dX12_restore_166 rfl ?_
    exact r_weak (Ls2 (Ls2 Ls0)) (hr (s + 1) M15)
set_option maxHeartbeats 4000000 in
set_option maxRecDepth 100000 in
theorem s_X12_restore_171 {w : W0} {Z : Zx} (g : Good KM w Z cX12_restore RX12 1) (e2 : Z.2.2.1 = 2) (e3 : Z.2.2.2 = (some .int)) (N : Nat) (G : Unit → Mm → Rs) (kG : ∀ (x : Unit) (M : Mm), Sim KM w Z 195 [rf w 0, .null] [] M (G x M)) : ∀ (n : Nat) (s : Int32) (M : Mm), Sim KM w Z 171 [rf w 0, .int s] [] M (itr (B_X12_restore_171 N G) n s M) := by
  have n1 : 1 < Z.2.2.1 := by rw [e2]; decide
  refine r_itr (Lf := fun (s : Int32) => [rf w 0, .int s]) (fun rec hr s M => ?_)
  unfold B_X12_restore_171
  refine r_iload_n (pc' := 172) g dX12_restore_171 rfl rfl ?_
  refine r_bipush (pc' := 174) (v := 60) g dX12_restore_172 rfl rfl ?_
  refine r_cge (pc' := 177) (tgt := 195) g dX12_restore_174 rfl rfl ?_ ?_
  · skip
    exact r_weak (Ls2 (Ls1 Ls0)) (kG () M)
  · skip
    refine r_aload_n (pc' := 178) g dX12_restore_177 rfl rfl ?_
    refine r_get (pc' := 181) g dX12_restore_178 rfl fl_X12_80 lM_0 (eM_0 w _ _) rfl ?_
    refine r_iload_n (pc' := 182) g dX12_restore_181 rfl rfl ?_
    refine r_aload_n (pc' := 183) g dX12_restore_182 rfl rfl ?_
    refine r_get (pc' := 186) g dX12_restore_183 rfl fl_X12_98 lM_0 (eM_0 w _ _) rfl ?_
    refine r_iload_n (pc' := 187) g dX12_restore_186 rfl rfl ?_
    refine r_iald (pc' := 188) g dX12_restore_187 rfl lM_30 (eM_30 w _ _) ?_
    refine r_iast (pc' := 189) g dX12_restore_188 rfl lM_24 (fun m => eM_24 w m _) ?_
    refine r_ltM (fun M18 => ?_)
    refine r_iinc (pc' := 192) (b := 1) (L' := [rf w 0, .int (s + 1)]) g dX12_restore_189 rfl rfl rfl n1 rfl rfl ?_
    refine r_goto (tgt := 171) g dX12_restore_192 rfl ?_
    exact r_weak (Ls2 (Ls2 Ls0)) (hr (s + 1) M18)
set_option maxHeartbeats 4000000 in
set_option maxRecDepth 100000 in
theorem c_X12_restore (l : Launch) (w : W0) (N : Nat) (M : Mm) : Ct l KM w 1 yX12_restore cX12_restore 2 (some .int) [rf w 0] M (f_X12_restore N M) := by
  refine ct_of [rf w 0, .null] (by decide) (Nat.le_of_ble_eq_true rfl) rfl (fun Z e1 e2 e3 g => ?_)
  have g : Good KM w Z cX12_restore RX12 1 := g
  unfold f_X12_restore
  have n1 : 1 < Z.2.2.1 := by rw [e2]; decide
  refine r_aload_n (pc' := 1) g dX12_restore_0 rfl rfl ?_
  refine r_get (pc' := 4) g dX12_restore_1 rfl fl_X12_335 lM_0 (eM_0 w _ _) rfl ?_
  refine r_ifne (pc' := 7) (tgt := 14) g dX12_restore_4 rfl rfl ?_ ?_
  · skip
    refine r_iconst (pc' := 15) (v := 0) g dX12_restore_14 rfl rfl ?_
    refine r_istore_n (pc' := 16) (L' := [rf w 0, .int 0]) g dX12_restore_15 rfl n1 rfl rfl ?_
    refine r_weak (Ls2 (Ls2 Ls0)) (s_X12_restore_16 g e2 e3 N _ (fun z2 M3 => ?_) N 0 M)
    refine r_iconst (pc' := 41) (v := 0) g dX12_restore_40 rfl rfl ?_
    refine r_istore_n (pc' := 42) (L' := [rf w 0, .int 0]) g dX12_restore_41 rfl n1 rfl rfl ?_
    refine r_weak (Ls2 (Ls2 Ls0)) (s_X12_restore_42 g e2 e3 N _ (fun z5 M6 => ?_) N 0 M3)
    refine r_iconst (pc' := 68) (v := 0) g dX12_restore_67 rfl rfl ?_
    refine r_istore_n (pc' := 69) (L' := [rf w 0, .int 0]) g dX12_restore_68 rfl n1 rfl rfl ?_
    refine r_weak (Ls2 (Ls2 Ls0)) (s_X12_restore_69 g e2 e3 N _ (fun z9 M10 => ?_) N 0 M6)
    refine r_iconst (pc' := 106) (v := 0) g dX12_restore_105 rfl rfl ?_
    refine r_istore_n (pc' := 107) (L' := [rf w 0, .int 0]) g dX12_restore_106 rfl n1 rfl rfl ?_
    refine r_weak (Ls2 (Ls2 Ls0)) (s_X12_restore_107 g e2 e3 N _ (fun z12 M13 => ?_) N 0 M10)
    refine r_iconst (pc' := 133) (v := 0) g dX12_restore_132 rfl rfl ?_
    refine r_istore_n (pc' := 134) (L' := [rf w 0, .int 0]) g dX12_restore_133 rfl n1 rfl rfl ?_
    refine r_weak (Ls2 (Ls2 Ls0)) (s_X12_restore_134 g e2 e3 N _ (fun z16 M17 => ?_) N 0 M13)
    refine r_iconst (pc' := 170) (v := 0) g dX12_restore_169 rfl rfl ?_
    refine r_istore_n (pc' := 171) (L' := [rf w 0, .int 0]) g dX12_restore_170 rfl n1 rfl rfl ?_
    refine r_weak (Ls2 (Ls2 Ls0)) (s_X12_restore_171 g e2 e3 N _ (fun z19 M20 => ?_) N 0 M17)
    refine r_aload_n (pc' := 196) g dX12_restore_195 rfl rfl ?_
    refine r_aload_n (pc' := 197) g dX12_restore_196 rfl rfl ?_
    refine r_get (pc' := 200) g dX12_restore_197 rfl fl_X12_338 lM_0 (eM_0 w _ _) rfl ?_
    refine r_put (pc' := 203) g dX12_restore_200 rfl fl_X12_186 rfl lM_0 (eM_0 w _ _) (Nat.le_of_ble_eq_true rfl) (sM_0_15 w _ _ _) ?_
    refine r_ltM (fun M21 => ?_)
    refine r_aload_n (pc' := 204) g dX12_restore_203 rfl rfl ?_
    refine r_aload_n (pc' := 205) g dX12_restore_204 rfl rfl ?_
    refine r_get (pc' := 208) g dX12_restore_205 rfl fl_X12_341 lM_0 (eM_0 w _ _) rfl ?_
    refine r_put (pc' := 211) g dX12_restore_208 rfl fl_X12_330 rfl lM_0 (eM_0 w _ _) (Nat.le_of_ble_eq_true rfl) (sM_0_39 w _ _ _) ?_
    refine r_ltM (fun M22 => ?_)
    refine r_aload_n (pc' := 212) g dX12_restore_211 rfl rfl ?_
    refine r_iconst (pc' := 213) (v := 0) g dX12_restore_212 rfl rfl ?_
    refine r_put (pc' := 216) g dX12_restore_213 rfl fl_X12_125 rfl lM_0 (eM_0 w _ _) (Nat.le_of_ble_eq_true rfl) (sM_0_5 w _ _ _) ?_
    refine r_ltM (fun M23 => ?_)
    refine r_aload_n (pc' := 217) g dX12_restore_216 rfl rfl ?_
    refine r_iconst (pc' := 218) (v := 0) g dX12_restore_217 rfl rfl ?_
    refine r_putz (pc' := 221) g dX12_restore_218 rfl fl_X12_121 rfl rfl lM_0 (eM_0 w _ _) (Nat.le_of_ble_eq_true rfl) (sM_0_2 w _ _ _) ?_
    refine r_ltM (fun M24 => ?_)
    refine r_aload_n (pc' := 222) g dX12_restore_221 rfl rfl ?_
    refine r_callVi (pc' := 225) (As := []) (rest := []) g dX12_restore_222 rfl ml_X12_344 mw_X12_harbours mv_X12_harbours (Nat.le_of_ble_eq_true rfl) (c_X12_harbours _ w N  M24) rfl lM_0 (eM_0 w _ _) rfl rfl (Nat.le_of_ble_eq_true rfl) (fun r25 M26 => ?_)
    exact r_iret g e3 dX12_restore_225
  · skip
    refine r_aload_n (pc' := 8) g dX12_restore_7 rfl rfl ?_
    refine r_bipush (pc' := 10) (v := -3) g dX12_restore_8 rfl rfl ?_
    refine r_callVi (pc' := 13) (As := [.int (-3)]) (rest := []) g dX12_restore_10 rfl ml_X12_113 mw_X12_no mv_X12_no (Nat.le_of_ble_eq_true rfl) (c_X12_no _ w N (-3) M) rfl lM_0 (eM_0 w _ _) rfl rfl (Nat.le_of_ble_eq_true rfl) (fun r27 M28 => ?_)
    exact r_iret g e3 dX12_restore_13
def B_X12_count_88 (N : Nat) (G : Int32 → Mm → Rs) (rec : (Int32 × Int32) → Mm → Rs) (s : Int32 × Int32) (M : Mm) : Rs :=
  if s.2 < (M.1 0 15) then
      (if inb s.2 12 then
      (if (M.1 11 (ix s.2)) = 0 then
        (lt' (s.1 + 1) fun x8 =>
        (rec (x8, s.2 + 1) M))
      else
        (lt' (s.1 + 0) fun x9 =>
        (rec (x9, s.2 + 1) M))) else none)
    else
      (G s.1 M)

def B_X12_count_123 (N : Nat) (G : Int32 → Mm → Rs) (rec : (Int32 × Int32) → Mm → Rs) (s : Int32 × Int32) (M : Mm) : Rs :=
  if s.2 < 4 then
      (if inb s.2 4 then
      (if (M.1 12 (ix s.2)) = 0 then
        (lt' (s.1 + 0) fun x13 =>
        (rec (x13, s.2 + 1) M))
      else
        (lt' (s.1 + 1) fun x14 =>
        (rec (x14, s.2 + 1) M))) else none)
    else
      (G s.1 M)

def B_X12_count_159 (N : Nat) (G : Int32 → Mm → Rs) (rec : (Int32 × Int32) → Mm → Rs) (s : Int32 × Int32) (M : Mm) : Rs :=
  if s.2 < 16 then
      (if inb s.2 16 then
      (if (M.1 19 (ix s.2)) = 0 then
        (lt' (s.1 + 0) fun x20 =>
        (rec (x20, s.2 + 1) M))
      else
        (lt' (s.1 + 1) fun x21 =>
        (rec (x21, s.2 + 1) M))) else none)
    else
      (G s.1 M)

def f_X12_count (N : Nat) (a1 : Int32) (M : Mm) : Rs :=
  bd (f_X12_isIn N a1.toInt64 11 16 M) fun r1 M2 =>
  (if r1 = 0 then
    (if a1 = 0 then
      (bd (f_X12_harbours N  M2) fun r4 M5 =>
      (some (r4, M5)))
    else (if a1 = 1 then
      (some (M2.1 0 15, M2))
    else (if a1 = 2 then
      (itr (B_X12_count_88 N fun z10 M11 =>
      (some (z10, M11))) N (0, 0) M2)
    else (if a1 = 3 then
      (itr (B_X12_count_123 N fun z15 M16 =>
      (some (z15, M16))) N (0, 0) M2)
    else (if a1 = 4 then
      (bd (f_X12_finds N  M2) fun r18 M19 =>
      (itr (B_X12_count_159 N fun z22 M23 =>
      (some (z22, M23))) N (0, 0) M19))
    else (if a1 = 5 then
      (some (M2.1 0 39, M2))
    else (if a1 = 6 then
      (some (M2.1 0 14, M2))
    else (if a1 = 7 then
      (some (M2.1 0 37, M2))
    else (if a1 = 8 then
      (some (M2.1 0 5, M2))
    else (some ((-9), M2)))))))))))
  else
    (if inb (a1 - 10) 7 then
    (some (M2.1 1 (ix (a1 - 10)), M2)) else none))

set_option maxHeartbeats 4000000 in
set_option maxRecDepth 100000 in
theorem s_X12_count_88 {w : W0} {Z : Zx} (g : Good KM w Z cX12_count RX12 6) (e2 : Z.2.2.1 = 4) (e3 : Z.2.2.2 = (some .int)) (N : Nat) (G : Int32 → Mm → Rs) (kG : ∀ (x : Int32) (M : Mm), Sim KM w Z 119 [.null, .null, .int x, .null] [] M (G x M)) : ∀ (n : Nat) (s : Int32 × Int32) (M : Mm), Sim KM w Z 88 [rf w 0, .null, .int s.1, .int s.2] [] M (itr (B_X12_count_88 N G) n s M) := by
  have n2 : 2 < Z.2.2.1 := by rw [e2]; decide
  have n3 : 3 < Z.2.2.1 := by rw [e2]; decide
  refine r_itr (Lf := fun (s : Int32 × Int32) => [rf w 0, .null, .int s.1, .int s.2]) (fun rec hr s M => ?_)
  unfold B_X12_count_88
  refine r_iload_n (pc' := 89) g dX12_count_88 rfl rfl ?_
  refine r_aload_n (pc' := 90) g dX12_count_89 rfl rfl ?_
  refine r_get (pc' := 93) g dX12_count_90 rfl fl_X12_186 lM_0 (eM_0 w _ _) rfl ?_
  refine r_cge (pc' := 96) (tgt := 119) g dX12_count_93 rfl rfl ?_ ?_
  · skip
    exact r_weak (Ls1 (Ls1 (Ls2 (Ls1 Ls0)))) (kG s.1 M)
  · skip
    refine r_iload_n (pc' := 97) g dX12_count_96 rfl rfl ?_
    refine r_aload_n (pc' := 98) g dX12_count_97 rfl rfl ?_
    refine r_get (pc' := 101) g dX12_count_98 rfl fl_X12_40 lM_0 (eM_0 w _ _) rfl ?_
    refine r_iload_n (pc' := 102) g dX12_count_101 rfl rfl ?_
    refine r_zald (pc' := 103) g dX12_count_102 rfl lM_11 (eM_11 w _ _) ?_
    refine r_ifeq (pc' := 106) (tgt := 110) g dX12_count_103 rfl rfl ?_ ?_
    · skip
      refine r_iconst (pc' := 111) (v := 1) g dX12_count_110 rfl rfl ?_
      refine r_iadd (pc' := 112) g dX12_count_111 rfl ?_
      refine r_ltI (fun x8 => ?_)
      refine r_istore_n (pc' := 113) (L' := [rf w 0, .null, .int x8, .int s.2]) g dX12_count_112 rfl n2 rfl rfl ?_
      refine r_iinc (pc' := 116) (b := 1) (L' := [rf w 0, .null, .int x8, .int (s.2 + 1)]) g dX12_count_113 rfl rfl rfl n3 rfl rfl ?_
      refine r_goto (tgt := 88) g dX12_count_116 rfl ?_
      exact r_weak (Ls2 (Ls1 (Ls2 (Ls2 Ls0)))) (hr (x8, s.2 + 1) M)
    · skip
      refine r_iconst (pc' := 107) (v := 0) g dX12_count_106 rfl rfl ?_
      refine r_goto (tgt := 111) g dX12_count_107 rfl ?_
      refine r_iadd (pc' := 112) g dX12_count_111 rfl ?_
      refine r_ltI (fun x9 => ?_)
      refine r_istore_n (pc' := 113) (L' := [rf w 0, .null, .int x9, .int s.2]) g dX12_count_112 rfl n2 rfl rfl ?_
      refine r_iinc (pc' := 116) (b := 1) (L' := [rf w 0, .null, .int x9, .int (s.2 + 1)]) g dX12_count_113 rfl rfl rfl n3 rfl rfl ?_
      refine r_goto (tgt := 88) g dX12_count_116 rfl ?_
      exact r_weak (Ls2 (Ls1 (Ls2 (Ls2 Ls0)))) (hr (x9, s.2 + 1) M)
set_option maxHeartbeats 4000000 in
set_option maxRecDepth 100000 in
theorem s_X12_count_123 {w : W0} {Z : Zx} (g : Good KM w Z cX12_count RX12 6) (e2 : Z.2.2.1 = 4) (e3 : Z.2.2.2 = (some .int)) (N : Nat) (G : Int32 → Mm → Rs) (kG : ∀ (x : Int32) (M : Mm), Sim KM w Z 151 [.null, .null, .int x, .null] [] M (G x M)) : ∀ (n : Nat) (s : Int32 × Int32) (M : Mm), Sim KM w Z 123 [rf w 0, .null, .int s.1, .int s.2] [] M (itr (B_X12_count_123 N G) n s M) := by
  have n2 : 2 < Z.2.2.1 := by rw [e2]; decide
  have n3 : 3 < Z.2.2.1 := by rw [e2]; decide
  refine r_itr (Lf := fun (s : Int32 × Int32) => [rf w 0, .null, .int s.1, .int s.2]) (fun rec hr s M => ?_)
  unfold B_X12_count_123
  refine r_iload_n (pc' := 124) g dX12_count_123 rfl rfl ?_
  refine r_iconst (pc' := 125) (v := 4) g dX12_count_124 rfl rfl ?_
  refine r_cge (pc' := 128) (tgt := 151) g dX12_count_125 rfl rfl ?_ ?_
  · skip
    exact r_weak (Ls1 (Ls1 (Ls2 (Ls1 Ls0)))) (kG s.1 M)
  · skip
    refine r_iload_n (pc' := 129) g dX12_count_128 rfl rfl ?_
    refine r_aload_n (pc' := 130) g dX12_count_129 rfl rfl ?_
    refine r_get (pc' := 133) g dX12_count_130 rfl fl_X12_44 lM_0 (eM_0 w _ _) rfl ?_
    refine r_iload_n (pc' := 134) g dX12_count_133 rfl rfl ?_
    refine r_zald (pc' := 135) g dX12_count_134 rfl lM_12 (eM_12 w _ _) ?_
    refine r_ifeq (pc' := 138) (tgt := 142) g dX12_count_135 rfl rfl ?_ ?_
    · skip
      refine r_iconst (pc' := 143) (v := 0) g dX12_count_142 rfl rfl ?_
      refine r_iadd (pc' := 144) g dX12_count_143 rfl ?_
      refine r_ltI (fun x13 => ?_)
      refine r_istore_n (pc' := 145) (L' := [rf w 0, .null, .int x13, .int s.2]) g dX12_count_144 rfl n2 rfl rfl ?_
      refine r_iinc (pc' := 148) (b := 1) (L' := [rf w 0, .null, .int x13, .int (s.2 + 1)]) g dX12_count_145 rfl rfl rfl n3 rfl rfl ?_
      refine r_goto (tgt := 123) g dX12_count_148 rfl ?_
      exact r_weak (Ls2 (Ls1 (Ls2 (Ls2 Ls0)))) (hr (x13, s.2 + 1) M)
    · skip
      refine r_iconst (pc' := 139) (v := 1) g dX12_count_138 rfl rfl ?_
      refine r_goto (tgt := 143) g dX12_count_139 rfl ?_
      refine r_iadd (pc' := 144) g dX12_count_143 rfl ?_
      refine r_ltI (fun x14 => ?_)
      refine r_istore_n (pc' := 145) (L' := [rf w 0, .null, .int x14, .int s.2]) g dX12_count_144 rfl n2 rfl rfl ?_
      refine r_iinc (pc' := 148) (b := 1) (L' := [rf w 0, .null, .int x14, .int (s.2 + 1)]) g dX12_count_145 rfl rfl rfl n3 rfl rfl ?_
      refine r_goto (tgt := 123) g dX12_count_148 rfl ?_
      exact r_weak (Ls2 (Ls1 (Ls2 (Ls2 Ls0)))) (hr (x14, s.2 + 1) M)
set_option maxHeartbeats 4000000 in
set_option maxRecDepth 100000 in
theorem s_X12_count_159 {w : W0} {Z : Zx} (g : Good KM w Z cX12_count RX12 6) (e2 : Z.2.2.1 = 4) (e3 : Z.2.2.2 = (some .int)) (N : Nat) (G : Int32 → Mm → Rs) (kG : ∀ (x : Int32) (M : Mm), Sim KM w Z 188 [.null, .null, .int x, .null] [] M (G x M)) : ∀ (n : Nat) (s : Int32 × Int32) (M : Mm), Sim KM w Z 159 [rf w 0, .null, .int s.1, .int s.2] [] M (itr (B_X12_count_159 N G) n s M) := by
  have n2 : 2 < Z.2.2.1 := by rw [e2]; decide
  have n3 : 3 < Z.2.2.1 := by rw [e2]; decide
  refine r_itr (Lf := fun (s : Int32 × Int32) => [rf w 0, .null, .int s.1, .int s.2]) (fun rec hr s M => ?_)
  unfold B_X12_count_159
  refine r_iload_n (pc' := 160) g dX12_count_159 rfl rfl ?_
  refine r_bipush (pc' := 162) (v := 16) g dX12_count_160 rfl rfl ?_
  refine r_cge (pc' := 165) (tgt := 188) g dX12_count_162 rfl rfl ?_ ?_
  · skip
    exact r_weak (Ls1 (Ls1 (Ls2 (Ls1 Ls0)))) (kG s.1 M)
  · skip
    refine r_iload_n (pc' := 166) g dX12_count_165 rfl rfl ?_
    refine r_aload_n (pc' := 167) g dX12_count_166 rfl rfl ?_
    refine r_get (pc' := 170) g dX12_count_167 rfl fl_X12_65 lM_0 (eM_0 w _ _) rfl ?_
    refine r_iload_n (pc' := 171) g dX12_count_170 rfl rfl ?_
    refine r_zald (pc' := 172) g dX12_count_171 rfl lM_19 (eM_19 w _ _) ?_
    refine r_ifeq (pc' := 175) (tgt := 179) g dX12_count_172 rfl rfl ?_ ?_
    · skip
      refine r_iconst (pc' := 180) (v := 0) g dX12_count_179 rfl rfl ?_
      refine r_iadd (pc' := 181) g dX12_count_180 rfl ?_
      refine r_ltI (fun x20 => ?_)
      refine r_istore_n (pc' := 182) (L' := [rf w 0, .null, .int x20, .int s.2]) g dX12_count_181 rfl n2 rfl rfl ?_
      refine r_iinc (pc' := 185) (b := 1) (L' := [rf w 0, .null, .int x20, .int (s.2 + 1)]) g dX12_count_182 rfl rfl rfl n3 rfl rfl ?_
      refine r_goto (tgt := 159) g dX12_count_185 rfl ?_
      exact r_weak (Ls2 (Ls1 (Ls2 (Ls2 Ls0)))) (hr (x20, s.2 + 1) M)
    · skip
      refine r_iconst (pc' := 176) (v := 1) g dX12_count_175 rfl rfl ?_
      refine r_goto (tgt := 180) g dX12_count_176 rfl ?_
      refine r_iadd (pc' := 181) g dX12_count_180 rfl ?_
      refine r_ltI (fun x21 => ?_)
      refine r_istore_n (pc' := 182) (L' := [rf w 0, .null, .int x21, .int s.2]) g dX12_count_181 rfl n2 rfl rfl ?_
      refine r_iinc (pc' := 185) (b := 1) (L' := [rf w 0, .null, .int x21, .int (s.2 + 1)]) g dX12_count_182 rfl rfl rfl n3 rfl rfl ?_
      refine r_goto (tgt := 159) g dX12_count_185 rfl ?_
      exact r_weak (Ls2 (Ls1 (Ls2 (Ls2 Ls0)))) (hr (x21, s.2 + 1) M)
set_option maxHeartbeats 4000000 in
set_option maxRecDepth 100000 in
theorem c_X12_count (l : Launch) (w : W0) (N : Nat) (a1 : Int32) (M : Mm) : Ct l KM w 6 yX12_count cX12_count 4 (some .int) [rf w 0, .int a1] M (f_X12_count N a1 M) := by
  refine ct_of [rf w 0, .int a1, .null, .null] (by decide) (Nat.le_of_ble_eq_true rfl) rfl (fun Z e1 e2 e3 g => ?_)
  have g : Good KM w Z cX12_count RX12 6 := g
  unfold f_X12_count
  have n2 : 2 < Z.2.2.1 := by rw [e2]; decide
  have n3 : 3 < Z.2.2.1 := by rw [e2]; decide
  refine r_iload_n (pc' := 1) g dX12_count_0 rfl rfl ?_
  refine r_i2l (pc' := 2) g dX12_count_1 rfl ?_
  refine r_ldc2 (pc' := 5) g dX12_count_2 rfl kc_X12_347 ?_
  refine r_ldc2 (pc' := 8) g dX12_count_5 rfl kc_X12_349 ?_
  refine r_callSi (pc' := 11) (As := [.long a1.toInt64, .long 11, .long 16]) (rest := []) g dX12_count_8 rfl ml_X12_109 mw_X12_isIn ms_X12_isIn (Nat.le_of_ble_eq_true rfl) (c_X12_isIn _ w N a1.toInt64 11 16 M) rfl rfl (Nat.le_of_ble_eq_true rfl) (fun r1 M2 => ?_)
  refine r_ifeq (pc' := 14) (tgt := 24) g dX12_count_11 rfl rfl ?_ ?_
  · skip
    refine r_iconst (pc' := 25) (v := 0) g dX12_count_24 rfl rfl ?_
    refine r_istore_n (pc' := 26) (L' := [rf w 0, .int a1, .int 0, .null]) g dX12_count_25 rfl n2 rfl rfl ?_
    refine r_iload_n (pc' := 27) g dX12_count_26 rfl rfl ?_
    refine r_tab (v := 0) (tgt := 76) g dX12_count_27 (by decide) (by decide) rfl rfl ?_ (fun hq3 => ?_)
    · skip
      refine r_aload_n (pc' := 77) g dX12_count_76 rfl rfl ?_
      refine r_callVi (pc' := 80) (As := []) (rest := []) g dX12_count_77 rfl ml_X12_344 mw_X12_harbours mv_X12_harbours (Nat.le_of_ble_eq_true rfl) (c_X12_harbours _ w N  M2) rfl lM_0 (eM_0 w _ _) rfl rfl (Nat.le_of_ble_eq_true rfl) (fun r4 M5 => ?_)
      exact r_iret g e3 dX12_count_80
    refine r_tab (v := 1) (tgt := 81) g dX12_count_27 (by decide) (by decide) rfl rfl ?_ (fun hq6 => ?_)
    · skip
      refine r_aload_n (pc' := 82) g dX12_count_81 rfl rfl ?_
      refine r_get (pc' := 85) g dX12_count_82 rfl fl_X12_186 lM_0 (eM_0 w _ _) rfl ?_
      exact r_iret g e3 dX12_count_85
    refine r_tab (v := 2) (tgt := 86) g dX12_count_27 (by decide) (by decide) rfl rfl ?_ (fun hq7 => ?_)
    · skip
      refine r_iconst (pc' := 87) (v := 0) g dX12_count_86 rfl rfl ?_
      refine r_istore_n (pc' := 88) (L' := [rf w 0, .int a1, .int 0, .int 0]) g dX12_count_87 rfl n3 rfl rfl ?_
      refine r_weak (Ls2 (Ls1 (Ls2 (Ls2 Ls0)))) (s_X12_count_88 g e2 e3 N _ (fun z10 M11 => ?_) N (0, 0) M2)
      refine r_iload_n (pc' := 120) g dX12_count_119 rfl rfl ?_
      exact r_iret g e3 dX12_count_120
    refine r_tab (v := 3) (tgt := 121) g dX12_count_27 (by decide) (by decide) rfl rfl ?_ (fun hq12 => ?_)
    · skip
      refine r_iconst (pc' := 122) (v := 0) g dX12_count_121 rfl rfl ?_
      refine r_istore_n (pc' := 123) (L' := [rf w 0, .int a1, .int 0, .int 0]) g dX12_count_122 rfl n3 rfl rfl ?_
      refine r_weak (Ls2 (Ls1 (Ls2 (Ls2 Ls0)))) (s_X12_count_123 g e2 e3 N _ (fun z15 M16 => ?_) N (0, 0) M2)
      refine r_iload_n (pc' := 152) g dX12_count_151 rfl rfl ?_
      exact r_iret g e3 dX12_count_152
    refine r_tab (v := 4) (tgt := 153) g dX12_count_27 (by decide) (by decide) rfl rfl ?_ (fun hq17 => ?_)
    · skip
      refine r_aload_n (pc' := 154) g dX12_count_153 rfl rfl ?_
      refine r_callVv (pc' := 157) (As := []) (rest := []) g dX12_count_154 rfl ml_X12_282 mw_X12_finds mv_X12_finds (Nat.le_of_ble_eq_true rfl) (c_X12_finds _ w N  M2) rfl lM_0 (eM_0 w _ _) rfl rfl (Nat.le_of_ble_eq_true rfl) (fun r18 M19 => ?_)
      refine r_iconst (pc' := 158) (v := 0) g dX12_count_157 rfl rfl ?_
      refine r_istore_n (pc' := 159) (L' := [rf w 0, .int a1, .int 0, .int 0]) g dX12_count_158 rfl n3 rfl rfl ?_
      refine r_weak (Ls2 (Ls1 (Ls2 (Ls2 Ls0)))) (s_X12_count_159 g e2 e3 N _ (fun z22 M23 => ?_) N (0, 0) M19)
      refine r_iload_n (pc' := 189) g dX12_count_188 rfl rfl ?_
      exact r_iret g e3 dX12_count_189
    refine r_tab (v := 5) (tgt := 190) g dX12_count_27 (by decide) (by decide) rfl rfl ?_ (fun hq24 => ?_)
    · skip
      refine r_aload_n (pc' := 191) g dX12_count_190 rfl rfl ?_
      refine r_get (pc' := 194) g dX12_count_191 rfl fl_X12_330 lM_0 (eM_0 w _ _) rfl ?_
      exact r_iret g e3 dX12_count_194
    refine r_tab (v := 6) (tgt := 195) g dX12_count_27 (by decide) (by decide) rfl rfl ?_ (fun hq25 => ?_)
    · skip
      refine r_aload_n (pc' := 196) g dX12_count_195 rfl rfl ?_
      refine r_get (pc' := 199) g dX12_count_196 rfl fl_X12_160 lM_0 (eM_0 w _ _) rfl ?_
      exact r_iret g e3 dX12_count_199
    refine r_tab (v := 7) (tgt := 200) g dX12_count_27 (by decide) (by decide) rfl rfl ?_ (fun hq26 => ?_)
    · skip
      refine r_aload_n (pc' := 201) g dX12_count_200 rfl rfl ?_
      refine r_get (pc' := 204) g dX12_count_201 rfl fl_X12_313 lM_0 (eM_0 w _ _) rfl ?_
      exact r_iret g e3 dX12_count_204
    refine r_tab (v := 8) (tgt := 205) g dX12_count_27 (by decide) (by decide) rfl rfl ?_ (fun hq27 => ?_)
    · skip
      refine r_aload_n (pc' := 206) g dX12_count_205 rfl rfl ?_
      refine r_get (pc' := 209) g dX12_count_206 rfl fl_X12_125 lM_0 (eM_0 w _ _) rfl ?_
      exact r_iret g e3 dX12_count_209
    refine r_tabd (tgt := 210) g dX12_count_27 (tb_out (n := 8) (by decide) (fun j hj => by match j, hj with | 0, _ => exact hq3 | 1, _ => exact hq6 | 2, _ => exact hq7 | 3, _ => exact hq12 | 4, _ => exact hq17 | 5, _ => exact hq24 | 6, _ => exact hq25 | 7, _ => exact hq26 | 8, _ => exact hq27 | j + 9, hj => exact absurd hj (by omega))) rfl ?_
    · skip
      refine r_bipush (pc' := 212) (v := -9) g dX12_count_210 rfl rfl ?_
      exact r_iret g e3 dX12_count_212
  · skip
    refine r_aload_n (pc' := 15) g dX12_count_14 rfl rfl ?_
    refine r_get (pc' := 18) g dX12_count_15 rfl fl_X12_7 lM_0 (eM_0 w _ _) rfl ?_
    refine r_iload_n (pc' := 19) g dX12_count_18 rfl rfl ?_
    refine r_bipush (pc' := 21) (v := 10) g dX12_count_19 rfl rfl ?_
    refine r_isub (pc' := 22) g dX12_count_21 rfl ?_
    refine r_iald (pc' := 23) g dX12_count_22 rfl lM_1 (eM_1 w _ _) ?_
    exact r_iret g e3 dX12_count_23
