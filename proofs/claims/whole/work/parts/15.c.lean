def f_X11_foreknown (N : Nat) (a1 : Int32) (a2 : Int32) (M : Mm) : Rs :=
  bd (f_X10_isHarbour N a1 M) fun r1 M2 =>
  (if r1 = 0 then
    (bd (f_X11_refuse N (-1) M2) fun r14 M15 =>
    (some (r14, M15)))
  else
    (lt' (fun (s3 : Unit) (M4 : Mm) =>
      ((bd (f_X11_theSet N  M4) fun r6 M7 =>
      (if r6 = 0 then
        (some ((-9), M7))
      else
        (bd (f_X11_costWithWord N a1 r6 M7) fun r8 M9 =>
        (if a2 = 0 then
          (some (r8, M9))
        else
          (bd (f_X3_bestOver N r6 M9) fun r10 M11 =>
          (some (r10 - r8, M11))))))) : Rs)) fun jn5 =>
    (if a2 = 0 then
      (jn5 () M2)
    else
      (if a2 = 1 then
        (jn5 () M2)
      else
        (bd (f_X11_refuse N (-2) M2) fun r12 M13 =>
        (some (r12, M13)))))))

set_option maxHeartbeats 4000000 in
set_option maxRecDepth 100000 in
theorem c_X11_foreknown (l : Launch) (w : W0) (N : Nat) (a1 : Int32) (a2 : Int32) (M : Mm) : Ct l KC w 7 yX11_foreknown cX11_foreknown 5 (some .int) [rf w 0, .int a1, .int a2] M (f_X11_foreknown N a1 a2 M) := by
  refine ct_of [rf w 0, .int a1, .int a2, .null, .null] (by decide) (Nat.le_of_ble_eq_true rfl) rfl (fun Z e1 e2 e3 g => ?_)
  have g : Good KC w Z cX11_foreknown RX11 7 := g
  unfold f_X11_foreknown
  have n3 : 3 < Z.2.2.1 := by rw [e2]; decide
  have n4 : 4 < Z.2.2.1 := by rw [e2]; decide
  refine r_aload_n (pc' := 1) g dX11_foreknown_0 rfl rfl ?_
  refine r_get (pc' := 4) g dX11_foreknown_1 rfl fl_X11_12 lC_0 (eC_0 w _ _) rfl ?_
  refine r_iload_n (pc' := 5) g dX11_foreknown_4 rfl rfl ?_
  refine r_callVi (pc' := 8) (As := [.int a1]) (rest := []) g dX11_foreknown_5 rfl ml_X11_84 mw_X10_isHarbour mv_X10_isHarbour (Nat.le_of_ble_eq_true rfl) (c_X10_isHarbour _ w N a1 M) rfl lC_1 (eC_1 w _ _) rfl rfl (Nat.le_of_ble_eq_true rfl) (fun r1 M2 => ?_)
  refine r_ifne (pc' := 11) (tgt := 17) g dX11_foreknown_8 rfl rfl ?_ ?_
  · skip
    refine r_iload_n (pc' := 18) g dX11_foreknown_17 rfl rfl ?_
    refine r_jn (pj := 33) (Lj := fun (s3 : Unit) => [rf w 0, .int a1, .int a2, .null, .null]) (stj := fun (s3 : Unit) => []) (fun s3 M4 => ?_) (fun jn5 hjn5 => ?_)
    · skip
      refine r_aload_n (pc' := 34) g dX11_foreknown_33 rfl rfl ?_
      refine r_callVi (pc' := 37) (As := []) (rest := []) g dX11_foreknown_34 rfl ml_X11_159 mw_X11_theSet mv_X11_theSet (Nat.le_of_ble_eq_true rfl) (c_X11_theSet _ w N  M4) rfl lC_0 (eC_0 w _ _) rfl rfl (Nat.le_of_ble_eq_true rfl) (fun r6 M7 => ?_)
      refine r_istore_n (pc' := 38) (L' := [rf w 0, .int a1, .int a2, .int r6, .null]) g dX11_foreknown_37 rfl n3 rfl rfl ?_
      refine r_iload_n (pc' := 39) g dX11_foreknown_38 rfl rfl ?_
      refine r_ifne (pc' := 42) (tgt := 45) g dX11_foreknown_39 rfl rfl ?_ ?_
      · skip
        refine r_aload_n (pc' := 46) g dX11_foreknown_45 rfl rfl ?_
        refine r_iload_n (pc' := 47) g dX11_foreknown_46 rfl rfl ?_
        refine r_iload_n (pc' := 48) g dX11_foreknown_47 rfl rfl ?_
        refine r_callVi (pc' := 51) (As := [.int a1, .int r6]) (rest := []) g dX11_foreknown_48 rfl ml_X11_215 mw_X11_costWithWord mv_X11_costWithWord (Nat.le_of_ble_eq_true rfl) (c_X11_costWithWord _ w N a1 r6 M7) rfl lC_0 (eC_0 w _ _) rfl rfl (Nat.le_of_ble_eq_true rfl) (fun r8 M9 => ?_)
        refine r_istore (pc' := 53) (L' := [rf w 0, .int a1, .int a2, .int r6, .int r8]) g dX11_foreknown_51 rfl n4 rfl rfl ?_
        refine r_iload_n (pc' := 54) g dX11_foreknown_53 rfl rfl ?_
        refine r_ifne (pc' := 57) (tgt := 62) g dX11_foreknown_54 rfl rfl ?_ ?_
        · skip
          refine r_aload_n (pc' := 63) g dX11_foreknown_62 rfl rfl ?_
          refine r_get (pc' := 66) g dX11_foreknown_63 rfl fl_X11_60 lC_0 (eC_0 w _ _) rfl ?_
          refine r_iload_n (pc' := 67) g dX11_foreknown_66 rfl rfl ?_
          refine r_callVi (pc' := 70) (As := [.int r6]) (rest := []) g dX11_foreknown_67 rfl ml_X11_182 mw_X3_bestOver mv_X3_bestOver (Nat.le_of_ble_eq_true rfl) (c_X3_bestOver _ w N r6 M9) rfl lC_38 (eC_38 w _ _) rfl rfl (Nat.le_of_ble_eq_true rfl) (fun r10 M11 => ?_)
          refine r_iload (pc' := 72) g dX11_foreknown_70 rfl rfl ?_
          refine r_isub (pc' := 73) g dX11_foreknown_72 rfl ?_
          exact r_iret g e3 dX11_foreknown_73
        · skip
          refine r_iload (pc' := 59) g dX11_foreknown_57 rfl rfl ?_
          refine r_goto (tgt := 73) g dX11_foreknown_59 rfl ?_
          exact r_iret g e3 dX11_foreknown_73
      · skip
        refine r_bipush (pc' := 44) (v := -9) g dX11_foreknown_42 rfl rfl ?_
        exact r_iret g e3 dX11_foreknown_44
    refine r_ifeq (pc' := 21) (tgt := 33) g dX11_foreknown_18 rfl rfl ?_ ?_
    · skip
      exact r_weak (Ls2 (Ls2 (Ls2 (Ls1 (Ls1 Ls0))))) (hjn5 () M2)
    · skip
      refine r_iload_n (pc' := 22) g dX11_foreknown_21 rfl rfl ?_
      refine r_iconst (pc' := 23) (v := 1) g dX11_foreknown_22 rfl rfl ?_
      refine r_ceq (pc' := 26) (tgt := 33) g dX11_foreknown_23 rfl rfl ?_ ?_
      · skip
        exact r_weak (Ls2 (Ls2 (Ls2 (Ls1 (Ls1 Ls0))))) (hjn5 () M2)
      · skip
        refine r_aload_n (pc' := 27) g dX11_foreknown_26 rfl rfl ?_
        refine r_bipush (pc' := 29) (v := -2) g dX11_foreknown_27 rfl rfl ?_
        refine r_callVi (pc' := 32) (As := [.int (-2)]) (rest := []) g dX11_foreknown_29 rfl ml_X11_80 mw_X11_refuse mv_X11_refuse (Nat.le_of_ble_eq_true rfl) (c_X11_refuse _ w N (-2) M2) rfl lC_0 (eC_0 w _ _) rfl rfl (Nat.le_of_ble_eq_true rfl) (fun r12 M13 => ?_)
        exact r_iret g e3 dX11_foreknown_32
  · skip
    refine r_aload_n (pc' := 12) g dX11_foreknown_11 rfl rfl ?_
    refine r_iconst (pc' := 13) (v := -1) g dX11_foreknown_12 rfl rfl ?_
    refine r_callVi (pc' := 16) (As := [.int (-1)]) (rest := []) g dX11_foreknown_13 rfl ml_X11_80 mw_X11_refuse mv_X11_refuse (Nat.le_of_ble_eq_true rfl) (c_X11_refuse _ w N (-1) M2) rfl lC_0 (eC_0 w _ _) rfl rfl (Nat.le_of_ble_eq_true rfl) (fun r14 M15 => ?_)
    exact r_iret g e3 dX11_foreknown_16
def B_X11_dearest_20 (N : Nat) (p1 : Int32) (G : Int32 → Mm → Rs) (rec : (Int32 × Int32 × Int32) → Mm → Rs) (s : Int32 × Int32 × Int32) (M : Mm) : Rs :=
  if s.2.2 < 4 then
      (bd (f_X10_isHarbour N s.2.2 M) fun r3 M4 =>
      (if r3 = 0 then
        (rec (s.1, s.2.1, s.2.2 + 1) M4)
      else
        (bd (f_X11_costWithWord N s.2.2 p1 M4) fun r5 M6 =>
        (if s.1 = (-9) then
          (rec (s.2.2, r5, s.2.2 + 1) M6)
        else
          (if r5 < s.2.1 then
            (rec (s.2.2, r5, s.2.2 + 1) M6)
          else
            (rec (s.1, s.2.1, s.2.2 + 1) M6))))))
    else
      (G s.1 M)

def f_X11_dearest (N : Nat) (M : Mm) : Rs :=
  bd (f_X11_theSet N  M) fun r1 M2 =>
  (if r1 = 0 then
    (some ((-9), M2))
  else
    (itr (B_X11_dearest_20 N r1 fun z7 M8 =>
    (some (z7, M8))) N ((-9), 0, 0) M2))

set_option maxHeartbeats 4000000 in
set_option maxRecDepth 100000 in
theorem s_X11_dearest_20 {w : W0} {Z : Zx} (g : Good KC w Z cX11_dearest RX11 7) (e2 : Z.2.2.1 = 6) (e3 : Z.2.2.2 = (some .int)) (N : Nat) (p1 : Int32) (G : Int32 → Mm → Rs) (kG : ∀ (x : Int32) (M : Mm), Sim KC w Z 74 [.null, .null, .int x, .null, .null, .null] [] M (G x M)) : ∀ (n : Nat) (s : Int32 × Int32 × Int32) (M : Mm), Sim KC w Z 20 [rf w 0, .int p1, .int s.1, .int s.2.1, .int s.2.2, .null] [] M (itr (B_X11_dearest_20 N p1 G) n s M) := by
  have n2 : 2 < Z.2.2.1 := by rw [e2]; decide
  have n3 : 3 < Z.2.2.1 := by rw [e2]; decide
  have n4 : 4 < Z.2.2.1 := by rw [e2]; decide
  have n5 : 5 < Z.2.2.1 := by rw [e2]; decide
  refine r_itr (Lf := fun (s : Int32 × Int32 × Int32) => [rf w 0, .int p1, .int s.1, .int s.2.1, .int s.2.2, .null]) (fun rec hr s M => ?_)
  unfold B_X11_dearest_20
  refine r_iload (pc' := 22) g dX11_dearest_20 rfl rfl ?_
  refine r_iconst (pc' := 23) (v := 4) g dX11_dearest_22 rfl rfl ?_
  refine r_cge (pc' := 26) (tgt := 74) g dX11_dearest_23 rfl rfl ?_ ?_
  · skip
    exact r_weak (Ls1 (Ls1 (Ls2 (Ls1 (Ls1 (Ls1 Ls0)))))) (kG s.1 M)
  · skip
    refine r_aload_n (pc' := 27) g dX11_dearest_26 rfl rfl ?_
    refine r_get (pc' := 30) g dX11_dearest_27 rfl fl_X11_12 lC_0 (eC_0 w _ _) rfl ?_
    refine r_iload (pc' := 32) g dX11_dearest_30 rfl rfl ?_
    refine r_callVi (pc' := 35) (As := [.int s.2.2]) (rest := []) g dX11_dearest_32 rfl ml_X11_84 mw_X10_isHarbour mv_X10_isHarbour (Nat.le_of_ble_eq_true rfl) (c_X10_isHarbour _ w N s.2.2 M) rfl lC_1 (eC_1 w _ _) rfl rfl (Nat.le_of_ble_eq_true rfl) (fun r3 M4 => ?_)
    refine r_ifne (pc' := 38) (tgt := 41) g dX11_dearest_35 rfl rfl ?_ ?_
    · skip
      refine r_aload_n (pc' := 42) g dX11_dearest_41 rfl rfl ?_
      refine r_iload (pc' := 44) g dX11_dearest_42 rfl rfl ?_
      refine r_iload_n (pc' := 45) g dX11_dearest_44 rfl rfl ?_
      refine r_callVi (pc' := 48) (As := [.int s.2.2, .int p1]) (rest := []) g dX11_dearest_45 rfl ml_X11_215 mw_X11_costWithWord mv_X11_costWithWord (Nat.le_of_ble_eq_true rfl) (c_X11_costWithWord _ w N s.2.2 p1 M4) rfl lC_0 (eC_0 w _ _) rfl rfl (Nat.le_of_ble_eq_true rfl) (fun r5 M6 => ?_)
      refine r_istore (pc' := 50) (L' := [rf w 0, .int p1, .int s.1, .int s.2.1, .int s.2.2, .int r5]) g dX11_dearest_48 rfl n5 rfl rfl ?_
      refine r_iload_n (pc' := 51) g dX11_dearest_50 rfl rfl ?_
      refine r_bipush (pc' := 53) (v := -9) g dX11_dearest_51 rfl rfl ?_
      refine r_ceq (pc' := 56) (tgt := 62) g dX11_dearest_53 rfl rfl ?_ ?_
      · skip
        refine r_iload (pc' := 64) g dX11_dearest_62 rfl rfl ?_
        refine r_istore_n (pc' := 65) (L' := [rf w 0, .int p1, .int s.2.2, .int s.2.1, .int s.2.2, .int r5]) g dX11_dearest_64 rfl n2 rfl rfl ?_
        refine r_iload (pc' := 67) g dX11_dearest_65 rfl rfl ?_
        refine r_istore_n (pc' := 68) (L' := [rf w 0, .int p1, .int s.2.2, .int r5, .int s.2.2, .int r5]) g dX11_dearest_67 rfl n3 rfl rfl ?_
        refine r_iinc (pc' := 71) (b := 1) (L' := [rf w 0, .int p1, .int s.2.2, .int r5, .int (s.2.2 + 1), .int r5]) g dX11_dearest_68 rfl rfl rfl n4 rfl rfl ?_
        refine r_goto (tgt := 20) g dX11_dearest_71 rfl ?_
        exact r_weak (Ls2 (Ls2 (Ls2 (Ls2 (Ls2 (Ls1 Ls0)))))) (hr (s.2.2, r5, s.2.2 + 1) M6)
      · skip
        refine r_iload (pc' := 58) g dX11_dearest_56 rfl rfl ?_
        refine r_iload_n (pc' := 59) g dX11_dearest_58 rfl rfl ?_
        refine r_cge (pc' := 62) (tgt := 68) g dX11_dearest_59 rfl rfl ?_ ?_
        · skip
          refine r_iinc (pc' := 71) (b := 1) (L' := [rf w 0, .int p1, .int s.1, .int s.2.1, .int (s.2.2 + 1), .int r5]) g dX11_dearest_68 rfl rfl rfl n4 rfl rfl ?_
          refine r_goto (tgt := 20) g dX11_dearest_71 rfl ?_
          exact r_weak (Ls2 (Ls2 (Ls2 (Ls2 (Ls2 (Ls1 Ls0)))))) (hr (s.1, s.2.1, s.2.2 + 1) M6)
        · skip
          refine r_iload (pc' := 64) g dX11_dearest_62 rfl rfl ?_
          refine r_istore_n (pc' := 65) (L' := [rf w 0, .int p1, .int s.2.2, .int s.2.1, .int s.2.2, .int r5]) g dX11_dearest_64 rfl n2 rfl rfl ?_
          refine r_iload (pc' := 67) g dX11_dearest_65 rfl rfl ?_
          refine r_istore_n (pc' := 68) (L' := [rf w 0, .int p1, .int s.2.2, .int r5, .int s.2.2, .int r5]) g dX11_dearest_67 rfl n3 rfl rfl ?_
          refine r_iinc (pc' := 71) (b := 1) (L' := [rf w 0, .int p1, .int s.2.2, .int r5, .int (s.2.2 + 1), .int r5]) g dX11_dearest_68 rfl rfl rfl n4 rfl rfl ?_
          refine r_goto (tgt := 20) g dX11_dearest_71 rfl ?_
          exact r_weak (Ls2 (Ls2 (Ls2 (Ls2 (Ls2 (Ls1 Ls0)))))) (hr (s.2.2, r5, s.2.2 + 1) M6)
    · skip
      refine r_goto (tgt := 68) g dX11_dearest_38 rfl ?_
      refine r_iinc (pc' := 71) (b := 1) (L' := [rf w 0, .int p1, .int s.1, .int s.2.1, .int (s.2.2 + 1), .null]) g dX11_dearest_68 rfl rfl rfl n4 rfl rfl ?_
      refine r_goto (tgt := 20) g dX11_dearest_71 rfl ?_
      exact r_weak (Ls2 (Ls2 (Ls2 (Ls2 (Ls2 (Ls1 Ls0)))))) (hr (s.1, s.2.1, s.2.2 + 1) M4)
set_option maxHeartbeats 4000000 in
set_option maxRecDepth 100000 in
theorem c_X11_dearest (l : Launch) (w : W0) (N : Nat) (M : Mm) : Ct l KC w 7 yX11_dearest cX11_dearest 6 (some .int) [rf w 0] M (f_X11_dearest N M) := by
  refine ct_of [rf w 0, .null, .null, .null, .null, .null] (by decide) (Nat.le_of_ble_eq_true rfl) rfl (fun Z e1 e2 e3 g => ?_)
  have g : Good KC w Z cX11_dearest RX11 7 := g
  unfold f_X11_dearest
  have n1 : 1 < Z.2.2.1 := by rw [e2]; decide
  have n2 : 2 < Z.2.2.1 := by rw [e2]; decide
  have n3 : 3 < Z.2.2.1 := by rw [e2]; decide
  have n4 : 4 < Z.2.2.1 := by rw [e2]; decide
  refine r_aload_n (pc' := 1) g dX11_dearest_0 rfl rfl ?_
  refine r_callVi (pc' := 4) (As := []) (rest := []) g dX11_dearest_1 rfl ml_X11_159 mw_X11_theSet mv_X11_theSet (Nat.le_of_ble_eq_true rfl) (c_X11_theSet _ w N  M) rfl lC_0 (eC_0 w _ _) rfl rfl (Nat.le_of_ble_eq_true rfl) (fun r1 M2 => ?_)
  refine r_istore_n (pc' := 5) (L' := [rf w 0, .int r1, .null, .null, .null, .null]) g dX11_dearest_4 rfl n1 rfl rfl ?_
  refine r_iload_n (pc' := 6) g dX11_dearest_5 rfl rfl ?_
  refine r_ifne (pc' := 9) (tgt := 12) g dX11_dearest_6 rfl rfl ?_ ?_
  · skip
    refine r_bipush (pc' := 14) (v := -9) g dX11_dearest_12 rfl rfl ?_
    refine r_istore_n (pc' := 15) (L' := [rf w 0, .int r1, .int (-9), .null, .null, .null]) g dX11_dearest_14 rfl n2 rfl rfl ?_
    refine r_iconst (pc' := 16) (v := 0) g dX11_dearest_15 rfl rfl ?_
    refine r_istore_n (pc' := 17) (L' := [rf w 0, .int r1, .int (-9), .int 0, .null, .null]) g dX11_dearest_16 rfl n3 rfl rfl ?_
    refine r_iconst (pc' := 18) (v := 0) g dX11_dearest_17 rfl rfl ?_
    refine r_istore (pc' := 20) (L' := [rf w 0, .int r1, .int (-9), .int 0, .int 0, .null]) g dX11_dearest_18 rfl n4 rfl rfl ?_
    refine r_weak (Ls2 (Ls2 (Ls2 (Ls2 (Ls2 (Ls1 Ls0)))))) (s_X11_dearest_20 g e2 e3 N r1 _ (fun z7 M8 => ?_) N ((-9), 0, 0) M2)
    refine r_iload_n (pc' := 75) g dX11_dearest_74 rfl rfl ?_
    exact r_iret g e3 dX11_dearest_75
  · skip
    refine r_bipush (pc' := 11) (v := -9) g dX11_dearest_9 rfl rfl ?_
    exact r_iret g e3 dX11_dearest_11
def B_X8_mostLeft_6 (N : Nat) (p1 : Int32) (p2 : Int32) (p3 : Int32) (G : Int32 → Mm → Rs) (rec : (Int32 × Int32) → Mm → Rs) (s : Int32 × Int32) (M : Mm) : Rs :=
  if s.2 < 16 then
      (if ((p3 >>> (s.2 &&& 31)) &&& 1) = 0 then
        (rec (s.1, s.2 + 1) M)
      else
        (bd (f_X10_balance N p1 p2 s.2 M) fun r1 M2 =>
        (bd (f_X8_hadAt N p1 p2 s.2 M2) fun r3 M4 =>
        (lt' (if s.1 < ((-r1) - r3) then ((-r1) - r3) else s.1) fun x5 =>
        (rec (x5, s.2 + 1) M4)))))
    else
      (G s.1 M)

def f_X8_mostLeft (N : Nat) (a1 : Int32) (a2 : Int32) (a3 : Int32) (M : Mm) : Rs :=
  itr (B_X8_mostLeft_6 N a1 a2 a3 fun z6 M7 =>
  (some (z6, M7))) N (0, 0) M

set_option maxHeartbeats 4000000 in
set_option maxRecDepth 100000 in
theorem s_X8_mostLeft_6 {w : W0} {Z : Zx} (g : Good KC w Z cX8_mostLeft RX8 3) (e2 : Z.2.2.1 = 6) (e3 : Z.2.2.2 = (some .int)) (N : Nat) (p1 : Int32) (p2 : Int32) (p3 : Int32) (G : Int32 → Mm → Rs) (kG : ∀ (x : Int32) (M : Mm), Sim KC w Z 59 [.null, .null, .null, .null, .int x, .null] [] M (G x M)) : ∀ (n : Nat) (s : Int32 × Int32) (M : Mm), Sim KC w Z 6 [rf w 34, .int p1, .int p2, .int p3, .int s.1, .int s.2] [] M (itr (B_X8_mostLeft_6 N p1 p2 p3 G) n s M) := by
  have n4 : 4 < Z.2.2.1 := by rw [e2]; decide
  have n5 : 5 < Z.2.2.1 := by rw [e2]; decide
  refine r_itr (Lf := fun (s : Int32 × Int32) => [rf w 34, .int p1, .int p2, .int p3, .int s.1, .int s.2]) (fun rec hr s M => ?_)
  unfold B_X8_mostLeft_6
  refine r_iload (pc' := 8) g dX8_mostLeft_6 rfl rfl ?_
  refine r_bipush (pc' := 10) (v := 16) g dX8_mostLeft_8 rfl rfl ?_
  refine r_cge (pc' := 13) (tgt := 59) g dX8_mostLeft_10 rfl rfl ?_ ?_
  · skip
    exact r_weak (Ls1 (Ls1 (Ls1 (Ls1 (Ls2 (Ls1 Ls0)))))) (kG s.1 M)
  · skip
    refine r_iload_n (pc' := 14) g dX8_mostLeft_13 rfl rfl ?_
    refine r_iload (pc' := 16) g dX8_mostLeft_14 rfl rfl ?_
    refine r_ishr (pc' := 17) g dX8_mostLeft_16 rfl ?_
    refine r_iconst (pc' := 18) (v := 1) g dX8_mostLeft_17 rfl rfl ?_
    refine r_iand (pc' := 19) g dX8_mostLeft_18 rfl ?_
    refine r_ifne (pc' := 22) (tgt := 25) g dX8_mostLeft_19 rfl rfl ?_ ?_
    · skip
      refine r_iload (pc' := 27) g dX8_mostLeft_25 rfl rfl ?_
      refine r_aload_n (pc' := 28) g dX8_mostLeft_27 rfl rfl ?_
      refine r_get (pc' := 31) g dX8_mostLeft_28 rfl fl_X8_26 lC_34 (eC_34 w _ _) rfl ?_
      refine r_iload_n (pc' := 32) g dX8_mostLeft_31 rfl rfl ?_
      refine r_iload_n (pc' := 33) g dX8_mostLeft_32 rfl rfl ?_
      refine r_iload (pc' := 35) g dX8_mostLeft_33 rfl rfl ?_
      refine r_callVi (pc' := 38) (As := [.int p1, .int p2, .int s.2]) (rest := [.int s.1]) g dX8_mostLeft_35 rfl ml_X8_40 mw_X10_balance mv_X10_balance (Nat.le_of_ble_eq_true rfl) (c_X10_balance _ w N p1 p2 s.2 M) rfl lC_1 (eC_1 w _ _) rfl rfl (Nat.le_of_ble_eq_true rfl) (fun r1 M2 => ?_)
      refine r_ineg (pc' := 39) g dX8_mostLeft_38 rfl ?_
      refine r_aload_n (pc' := 40) g dX8_mostLeft_39 rfl rfl ?_
      refine r_iload_n (pc' := 41) g dX8_mostLeft_40 rfl rfl ?_
      refine r_iload_n (pc' := 42) g dX8_mostLeft_41 rfl rfl ?_
      refine r_iload (pc' := 44) g dX8_mostLeft_42 rfl rfl ?_
      refine r_callVi (pc' := 47) (As := [.int p1, .int p2, .int s.2]) (rest := [.int (-r1), .int s.1]) g dX8_mostLeft_44 rfl ml_X8_36 mw_X8_hadAt mv_X8_hadAt (Nat.le_of_ble_eq_true rfl) (c_X8_hadAt _ w N p1 p2 s.2 M2) rfl lC_34 (eC_34 w _ _) rfl rfl (Nat.le_of_ble_eq_true rfl) (fun r3 M4 => ?_)
      refine r_isub (pc' := 48) g dX8_mostLeft_47 rfl ?_
      refine r_max (pc' := 51) g dX8_mostLeft_48 rfl mm_X8_43 mm_max_s mm_i mm_max_c (Nat.le_of_ble_eq_true rfl) ?_
      refine r_ltI (fun x5 => ?_)
      refine r_istore (pc' := 53) (L' := [rf w 34, .int p1, .int p2, .int p3, .int x5, .int s.2]) g dX8_mostLeft_51 rfl n4 rfl rfl ?_
      refine r_iinc (pc' := 56) (b := 1) (L' := [rf w 34, .int p1, .int p2, .int p3, .int x5, .int (s.2 + 1)]) g dX8_mostLeft_53 rfl rfl rfl n5 rfl rfl ?_
      refine r_goto (tgt := 6) g dX8_mostLeft_56 rfl ?_
      exact r_weak (Ls2 (Ls2 (Ls2 (Ls2 (Ls2 (Ls2 Ls0)))))) (hr (x5, s.2 + 1) M4)
    · skip
      refine r_goto (tgt := 53) g dX8_mostLeft_22 rfl ?_
      refine r_iinc (pc' := 56) (b := 1) (L' := [rf w 34, .int p1, .int p2, .int p3, .int s.1, .int (s.2 + 1)]) g dX8_mostLeft_53 rfl rfl rfl n5 rfl rfl ?_
      refine r_goto (tgt := 6) g dX8_mostLeft_56 rfl ?_
      exact r_weak (Ls2 (Ls2 (Ls2 (Ls2 (Ls2 (Ls2 Ls0)))))) (hr (s.1, s.2 + 1) M)
set_option maxHeartbeats 4000000 in
set_option maxRecDepth 100000 in
theorem c_X8_mostLeft (l : Launch) (w : W0) (N : Nat) (a1 : Int32) (a2 : Int32) (a3 : Int32) (M : Mm) : Ct l KC w 3 yX8_mostLeft cX8_mostLeft 6 (some .int) [rf w 34, .int a1, .int a2, .int a3] M (f_X8_mostLeft N a1 a2 a3 M) := by
  refine ct_of [rf w 34, .int a1, .int a2, .int a3, .null, .null] (by decide) (Nat.le_of_ble_eq_true rfl) rfl (fun Z e1 e2 e3 g => ?_)
  have g : Good KC w Z cX8_mostLeft RX8 3 := g
  unfold f_X8_mostLeft
  have n4 : 4 < Z.2.2.1 := by rw [e2]; decide
  have n5 : 5 < Z.2.2.1 := by rw [e2]; decide
  refine r_iconst (pc' := 1) (v := 0) g dX8_mostLeft_0 rfl rfl ?_
  refine r_istore (pc' := 3) (L' := [rf w 34, .int a1, .int a2, .int a3, .int 0, .null]) g dX8_mostLeft_1 rfl n4 rfl rfl ?_
  refine r_iconst (pc' := 4) (v := 0) g dX8_mostLeft_3 rfl rfl ?_
  refine r_istore (pc' := 6) (L' := [rf w 34, .int a1, .int a2, .int a3, .int 0, .int 0]) g dX8_mostLeft_4 rfl n5 rfl rfl ?_
  refine r_weak (Ls2 (Ls2 (Ls2 (Ls2 (Ls2 (Ls2 Ls0)))))) (s_X8_mostLeft_6 g e2 e3 N a1 a2 a3 _ (fun z6 M7 => ?_) N (0, 0) M)
  refine r_iload (pc' := 61) g dX8_mostLeft_59 rfl rfl ?_
  exact r_iret g e3 dX8_mostLeft_61
def B_X11_who_56 (N : Nat) (p1 : Int32) (p2 : Int32) (p3 : Int32) (G : (Int32 × Int32) → Mm → Rs) (rec : (Int32 × Int32 × Int32) → Mm → Rs) (s : Int32 × Int32 × Int32) (M : Mm) : Rs :=
  if s.2.2 < 4 then
      (bd (f_X10_isHarbour N s.2.2 M) fun r8 M9 =>
      (if r8 = 0 then
        (rec (s.1, s.2.1, s.2.2 + 1) M9)
      else
        (bd (f_X8_mostLeft N s.2.2 p1 p3 M9) fun r10 M11 =>
        (if s.2.1 < r10 then
          (rec (s.2.2, r10, s.2.2 + 1) M11)
        else
          (rec (s.1, s.2.1, s.2.2 + 1) M11)))))
    else
      (G (s.1, s.2.1) M)

def f_X11_who (N : Nat) (a1 : Int32) (a2 : Int32) (M : Mm) : Rs :=
  bd (f_X10_isPlan N a1 M) fun r1 M2 =>
  (if r1 = 0 then
    (bd (f_X11_refuse N (-1) M2) fun r16 M17 =>
    (some (r16, M17)))
  else
    (lt' (fun (s3 : Unit) (M4 : Mm) =>
      ((bd (f_X11_theSet N  M4) fun r6 M7 =>
      (if r6 = 0 then
        (some ((-9), M7))
      else
        (itr (B_X11_who_56 N a1 a2 r6 fun z12 M13 =>
        (if a2 = 0 then
          (some (z12.1, M13))
        else
          (some (z12.2, M13)))) N ((-9), (-9), 0) M7))) : Rs)) fun jn5 =>
    (if a2 = 0 then
      (jn5 () M2)
    else
      (if a2 = 1 then
        (jn5 () M2)
      else
        (bd (f_X11_refuse N (-2) M2) fun r14 M15 =>
        (some (r14, M15)))))))

set_option maxHeartbeats 4000000 in
set_option maxRecDepth 100000 in
theorem s_X11_who_56 {w : W0} {Z : Zx} (g : Good KC w Z cX11_who RX11 4) (e2 : Z.2.2.1 = 8) (e3 : Z.2.2.2 = (some .int)) (N : Nat) (p1 : Int32) (p2 : Int32) (p3 : Int32) (G : (Int32 × Int32) → Mm → Rs) (kG : ∀ (x : Int32 × Int32) (M : Mm), Sim KC w Z 111 [.null, .null, .int p2, .null, .int x.1, .int x.2, .null, .null] [] M (G x M)) : ∀ (n : Nat) (s : Int32 × Int32 × Int32) (M : Mm), Sim KC w Z 56 [rf w 0, .int p1, .int p2, .int p3, .int s.1, .int s.2.1, .int s.2.2, .null] [] M (itr (B_X11_who_56 N p1 p2 p3 G) n s M) := by
  have n4 : 4 < Z.2.2.1 := by rw [e2]; decide
  have n5 : 5 < Z.2.2.1 := by rw [e2]; decide
  have n6 : 6 < Z.2.2.1 := by rw [e2]; decide
  have n7 : 7 < Z.2.2.1 := by rw [e2]; decide
  refine r_itr (Lf := fun (s : Int32 × Int32 × Int32) => [rf w 0, .int p1, .int p2, .int p3, .int s.1, .int s.2.1, .int s.2.2, .null]) (fun rec hr s M => ?_)
  unfold B_X11_who_56
  refine r_iload (pc' := 58) g dX11_who_56 rfl rfl ?_
  refine r_iconst (pc' := 59) (v := 4) g dX11_who_58 rfl rfl ?_
  refine r_cge (pc' := 62) (tgt := 111) g dX11_who_59 rfl rfl ?_ ?_
  · skip
    exact r_weak (Ls1 (Ls1 (Ls2 (Ls1 (Ls2 (Ls2 (Ls1 (Ls1 Ls0)))))))) (kG (s.1, s.2.1) M)
  · skip
    refine r_aload_n (pc' := 63) g dX11_who_62 rfl rfl ?_
    refine r_get (pc' := 66) g dX11_who_63 rfl fl_X11_12 lC_0 (eC_0 w _ _) rfl ?_
    refine r_iload (pc' := 68) g dX11_who_66 rfl rfl ?_
    refine r_callVi (pc' := 71) (As := [.int s.2.2]) (rest := []) g dX11_who_68 rfl ml_X11_84 mw_X10_isHarbour mv_X10_isHarbour (Nat.le_of_ble_eq_true rfl) (c_X10_isHarbour _ w N s.2.2 M) rfl lC_1 (eC_1 w _ _) rfl rfl (Nat.le_of_ble_eq_true rfl) (fun r8 M9 => ?_)
    refine r_ifne (pc' := 74) (tgt := 77) g dX11_who_71 rfl rfl ?_ ?_
    · skip
      refine r_aload_n (pc' := 78) g dX11_who_77 rfl rfl ?_
      refine r_get (pc' := 81) g dX11_who_78 rfl fl_X11_53 lC_0 (eC_0 w _ _) rfl ?_
      refine r_iload (pc' := 83) g dX11_who_81 rfl rfl ?_
      refine r_iload_n (pc' := 84) g dX11_who_83 rfl rfl ?_
      refine r_iload_n (pc' := 85) g dX11_who_84 rfl rfl ?_
      refine r_callVi (pc' := 88) (As := [.int s.2.2, .int p1, .int p3]) (rest := []) g dX11_who_85 rfl ml_X11_218 mw_X8_mostLeft mv_X8_mostLeft (Nat.le_of_ble_eq_true rfl) (c_X8_mostLeft _ w N s.2.2 p1 p3 M9) rfl lC_34 (eC_34 w _ _) rfl rfl (Nat.le_of_ble_eq_true rfl) (fun r10 M11 => ?_)
      refine r_istore (pc' := 90) (L' := [rf w 0, .int p1, .int p2, .int p3, .int s.1, .int s.2.1, .int s.2.2, .int r10]) g dX11_who_88 rfl n7 rfl rfl ?_
      refine r_iload (pc' := 92) g dX11_who_90 rfl rfl ?_
      refine r_iload (pc' := 94) g dX11_who_92 rfl rfl ?_
      refine r_cle (pc' := 97) (tgt := 105) g dX11_who_94 rfl rfl ?_ ?_
      · skip
        refine r_iinc (pc' := 108) (b := 1) (L' := [rf w 0, .int p1, .int p2, .int p3, .int s.1, .int s.2.1, .int (s.2.2 + 1), .int r10]) g dX11_who_105 rfl rfl rfl n6 rfl rfl ?_
        refine r_goto (tgt := 56) g dX11_who_108 rfl ?_
        exact r_weak (Ls2 (Ls2 (Ls2 (Ls2 (Ls2 (Ls2 (Ls2 (Ls1 Ls0)))))))) (hr (s.1, s.2.1, s.2.2 + 1) M11)
      · skip
        refine r_iload (pc' := 99) g dX11_who_97 rfl rfl ?_
        refine r_istore (pc' := 101) (L' := [rf w 0, .int p1, .int p2, .int p3, .int s.2.2, .int s.2.1, .int s.2.2, .int r10]) g dX11_who_99 rfl n4 rfl rfl ?_
        refine r_iload (pc' := 103) g dX11_who_101 rfl rfl ?_
        refine r_istore (pc' := 105) (L' := [rf w 0, .int p1, .int p2, .int p3, .int s.2.2, .int r10, .int s.2.2, .int r10]) g dX11_who_103 rfl n5 rfl rfl ?_
        refine r_iinc (pc' := 108) (b := 1) (L' := [rf w 0, .int p1, .int p2, .int p3, .int s.2.2, .int r10, .int (s.2.2 + 1), .int r10]) g dX11_who_105 rfl rfl rfl n6 rfl rfl ?_
        refine r_goto (tgt := 56) g dX11_who_108 rfl ?_
        exact r_weak (Ls2 (Ls2 (Ls2 (Ls2 (Ls2 (Ls2 (Ls2 (Ls1 Ls0)))))))) (hr (s.2.2, r10, s.2.2 + 1) M11)
    · skip
      refine r_goto (tgt := 105) g dX11_who_74 rfl ?_
      refine r_iinc (pc' := 108) (b := 1) (L' := [rf w 0, .int p1, .int p2, .int p3, .int s.1, .int s.2.1, .int (s.2.2 + 1), .null]) g dX11_who_105 rfl rfl rfl n6 rfl rfl ?_
      refine r_goto (tgt := 56) g dX11_who_108 rfl ?_
      exact r_weak (Ls2 (Ls2 (Ls2 (Ls2 (Ls2 (Ls2 (Ls2 (Ls1 Ls0)))))))) (hr (s.1, s.2.1, s.2.2 + 1) M9)
set_option maxHeartbeats 4000000 in
set_option maxRecDepth 100000 in
theorem c_X11_who (l : Launch) (w : W0) (N : Nat) (a1 : Int32) (a2 : Int32) (M : Mm) : Ct l KC w 4 yX11_who cX11_who 8 (some .int) [rf w 0, .int a1, .int a2] M (f_X11_who N a1 a2 M) := by
  refine ct_of [rf w 0, .int a1, .int a2, .null, .null, .null, .null, .null] (by decide) (Nat.le_of_ble_eq_true rfl) rfl (fun Z e1 e2 e3 g => ?_)
  have g : Good KC w Z cX11_who RX11 4 := g
  unfold f_X11_who
  have n3 : 3 < Z.2.2.1 := by rw [e2]; decide
  have n4 : 4 < Z.2.2.1 := by rw [e2]; decide
  have n5 : 5 < Z.2.2.1 := by rw [e2]; decide
  have n6 : 6 < Z.2.2.1 := by rw [e2]; decide
  refine r_aload_n (pc' := 1) g dX11_who_0 rfl rfl ?_
  refine r_get (pc' := 4) g dX11_who_1 rfl fl_X11_12 lC_0 (eC_0 w _ _) rfl ?_
  refine r_iload_n (pc' := 5) g dX11_who_4 rfl rfl ?_
  refine r_callVi (pc' := 8) (As := [.int a1]) (rest := []) g dX11_who_5 rfl ml_X11_163 mw_X10_isPlan mv_X10_isPlan (Nat.le_of_ble_eq_true rfl) (c_X10_isPlan _ w N a1 M) rfl lC_1 (eC_1 w _ _) rfl rfl (Nat.le_of_ble_eq_true rfl) (fun r1 M2 => ?_)
  refine r_ifne (pc' := 11) (tgt := 17) g dX11_who_8 rfl rfl ?_ ?_
  · skip
    refine r_iload_n (pc' := 18) g dX11_who_17 rfl rfl ?_
    refine r_jn (pj := 33) (Lj := fun (s3 : Unit) => [rf w 0, .int a1, .int a2, .null, .null, .null, .null, .null]) (stj := fun (s3 : Unit) => []) (fun s3 M4 => ?_) (fun jn5 hjn5 => ?_)
    · skip
      refine r_aload_n (pc' := 34) g dX11_who_33 rfl rfl ?_
      refine r_callVi (pc' := 37) (As := []) (rest := []) g dX11_who_34 rfl ml_X11_159 mw_X11_theSet mv_X11_theSet (Nat.le_of_ble_eq_true rfl) (c_X11_theSet _ w N  M4) rfl lC_0 (eC_0 w _ _) rfl rfl (Nat.le_of_ble_eq_true rfl) (fun r6 M7 => ?_)
      refine r_istore_n (pc' := 38) (L' := [rf w 0, .int a1, .int a2, .int r6, .null, .null, .null, .null]) g dX11_who_37 rfl n3 rfl rfl ?_
      refine r_iload_n (pc' := 39) g dX11_who_38 rfl rfl ?_
      refine r_ifne (pc' := 42) (tgt := 45) g dX11_who_39 rfl rfl ?_ ?_
      · skip
        refine r_bipush (pc' := 47) (v := -9) g dX11_who_45 rfl rfl ?_
        refine r_istore (pc' := 49) (L' := [rf w 0, .int a1, .int a2, .int r6, .int (-9), .null, .null, .null]) g dX11_who_47 rfl n4 rfl rfl ?_
        refine r_bipush (pc' := 51) (v := -9) g dX11_who_49 rfl rfl ?_
        refine r_istore (pc' := 53) (L' := [rf w 0, .int a1, .int a2, .int r6, .int (-9), .int (-9), .null, .null]) g dX11_who_51 rfl n5 rfl rfl ?_
        refine r_iconst (pc' := 54) (v := 0) g dX11_who_53 rfl rfl ?_
        refine r_istore (pc' := 56) (L' := [rf w 0, .int a1, .int a2, .int r6, .int (-9), .int (-9), .int 0, .null]) g dX11_who_54 rfl n6 rfl rfl ?_
        refine r_weak (Ls2 (Ls2 (Ls2 (Ls2 (Ls2 (Ls2 (Ls2 (Ls1 Ls0)))))))) (s_X11_who_56 g e2 e3 N a1 a2 r6 _ (fun z12 M13 => ?_) N ((-9), (-9), 0) M7)
        refine r_iload_n (pc' := 112) g dX11_who_111 rfl rfl ?_
        refine r_ifne (pc' := 115) (tgt := 120) g dX11_who_112 rfl rfl ?_ ?_
        · skip
          refine r_iload (pc' := 122) g dX11_who_120 rfl rfl ?_
          exact r_iret g e3 dX11_who_122
        · skip
          refine r_iload (pc' := 117) g dX11_who_115 rfl rfl ?_
          refine r_goto (tgt := 122) g dX11_who_117 rfl ?_
          exact r_iret g e3 dX11_who_122
      · skip
        refine r_bipush (pc' := 44) (v := -9) g dX11_who_42 rfl rfl ?_
        exact r_iret g e3 dX11_who_44
    refine r_ifeq (pc' := 21) (tgt := 33) g dX11_who_18 rfl rfl ?_ ?_
    · skip
      exact r_weak (Ls2 (Ls2 (Ls2 (Ls1 (Ls1 (Ls1 (Ls1 (Ls1 Ls0)))))))) (hjn5 () M2)
    · skip
      refine r_iload_n (pc' := 22) g dX11_who_21 rfl rfl ?_
      refine r_iconst (pc' := 23) (v := 1) g dX11_who_22 rfl rfl ?_
      refine r_ceq (pc' := 26) (tgt := 33) g dX11_who_23 rfl rfl ?_ ?_
      · skip
        exact r_weak (Ls2 (Ls2 (Ls2 (Ls1 (Ls1 (Ls1 (Ls1 (Ls1 Ls0)))))))) (hjn5 () M2)
      · skip
        refine r_aload_n (pc' := 27) g dX11_who_26 rfl rfl ?_
        refine r_bipush (pc' := 29) (v := -2) g dX11_who_27 rfl rfl ?_
        refine r_callVi (pc' := 32) (As := [.int (-2)]) (rest := []) g dX11_who_29 rfl ml_X11_80 mw_X11_refuse mv_X11_refuse (Nat.le_of_ble_eq_true rfl) (c_X11_refuse _ w N (-2) M2) rfl lC_0 (eC_0 w _ _) rfl rfl (Nat.le_of_ble_eq_true rfl) (fun r14 M15 => ?_)
        exact r_iret g e3 dX11_who_32
  · skip
    refine r_aload_n (pc' := 12) g dX11_who_11 rfl rfl ?_
    refine r_iconst (pc' := 13) (v := -1) g dX11_who_12 rfl rfl ?_
    refine r_callVi (pc' := 16) (As := [.int (-1)]) (rest := []) g dX11_who_13 rfl ml_X11_80 mw_X11_refuse mv_X11_refuse (Nat.le_of_ble_eq_true rfl) (c_X11_refuse _ w N (-1) M2) rfl lC_0 (eC_0 w _ _) rfl rfl (Nat.le_of_ble_eq_true rfl) (fun r16 M17 => ?_)
    exact r_iret g e3 dX11_who_16
def B_J7_fill_d0a16_6 (N : Nat) (p1 : Int64) (p4 : Int32) (G : Unit → Mm → Rs) (rec : Int32 → Mm → Rs) (s : Int32) (M : Mm) : Rs :=
  if s < p4 then
      (if inb s 64 then
      (lt' (wL M 52 (ix s) p1) fun M1 =>
      (rec (s + 1) M1)) else none)
    else
      (G () M)

def f_J7_fill_d0a16 (N : Nat) (b1 : Int64) (M : Mm) : Rs :=
  itr (B_J7_fill_d0a16_6 N b1 64 fun z2 M3 =>
  (some (0, M3))) N 0 M

set_option maxHeartbeats 4000000 in
set_option maxRecDepth 100000 in
theorem s_J7_fill_d0a16_6 {w : W0} {Z : Zx} (g : Good KC w Z cJ7_fill_d0a16 RJ7 0) (e2 : Z.2.2.1 = 5) (e3 : Z.2.2.2 = none) (N : Nat) (p1 : Int64) (p4 : Int32) (G : Unit → Mm → Rs) (kG : ∀ (x : Unit) (M : Mm), Sim KC w Z 22 [.null, .null, .null, .null, .null] [] M (G x M)) : ∀ (n : Nat) (s : Int32) (M : Mm), Sim KC w Z 6 [rf w 52, .long p1, .null, .int s, .int p4] [] M (itr (B_J7_fill_d0a16_6 N p1 p4 G) n s M) := by
  have n3 : 3 < Z.2.2.1 := by rw [e2]; decide
  refine r_itr (Lf := fun (s : Int32) => [rf w 52, .long p1, .null, .int s, .int p4]) (fun rec hr s M => ?_)
  unfold B_J7_fill_d0a16_6
  refine r_iload_n (pc' := 7) g dJ7_fill_d0a16_6 rfl rfl ?_
  refine r_iload (pc' := 9) g dJ7_fill_d0a16_7 rfl rfl ?_
  refine r_cge (pc' := 12) (tgt := 22) g dJ7_fill_d0a16_9 rfl rfl ?_ ?_
  · skip
    exact r_weak (Ls1 (Ls1 (Ls1 (Ls1 (Ls1 Ls0))))) (kG () M)
  · skip
    refine r_aload_n (pc' := 13) g dJ7_fill_d0a16_12 rfl rfl ?_
    refine r_iload_n (pc' := 14) g dJ7_fill_d0a16_13 rfl rfl ?_
    refine r_lload_n (pc' := 15) g dJ7_fill_d0a16_14 rfl rfl ?_
    refine r_last (pc' := 16) g dJ7_fill_d0a16_15 rfl lC_52 (fun m => eC_52 w _ m) ?_
    refine r_ltM (fun M1 => ?_)
    refine r_iinc (pc' := 19) (b := 1) (L' := [rf w 52, .long p1, .null, .int (s + 1), .int p4]) g dJ7_fill_d0a16_16 rfl rfl rfl n3 rfl rfl ?_
    refine r_goto (tgt := 6) g dJ7_fill_d0a16_19 rfl ?_
    exact r_weak (Ls2 (Ls2 (Ls1 (Ls2 (Ls2 Ls0))))) (hr (s + 1) M1)
set_option maxHeartbeats 4000000 in
set_option maxRecDepth 100000 in
theorem c_J7_fill_d0a16 (l : Launch) (w : W0) (N : Nat) (b1 : Int64) (M : Mm) : Ct l KC w 0 yJ7_fill_d0a16 cJ7_fill_d0a16 5 none [rf w 52, .long b1] M (f_J7_fill_d0a16 N b1 M) := by
  refine ct_of [rf w 52, .long b1, .null, .null, .null] (by decide) (Nat.le_of_ble_eq_true rfl) rfl (fun Z e1 e2 e3 g => ?_)
  have g : Good KC w Z cJ7_fill_d0a16 RJ7 0 := g
  unfold f_J7_fill_d0a16
  have n3 : 3 < Z.2.2.1 := by rw [e2]; decide
  have n4 : 4 < Z.2.2.1 := by rw [e2]; decide
  refine r_iconst (pc' := 1) (v := 0) g dJ7_fill_d0a16_0 rfl rfl ?_
  refine r_istore_n (pc' := 2) (L' := [rf w 52, .long b1, .null, .int 0, .null]) g dJ7_fill_d0a16_1 rfl n3 rfl rfl ?_
  refine r_aload_n (pc' := 3) g dJ7_fill_d0a16_2 rfl rfl ?_
  refine r_alen (pc' := 4) (v := 64) (t := 1) g dJ7_fill_d0a16_3 rfl lC_52 (eC_52 w _ _) rfl rfl ?_
  refine r_istore (pc' := 6) (L' := [rf w 52, .long b1, .null, .int 0, .int 64]) g dJ7_fill_d0a16_4 rfl n4 rfl rfl ?_
  refine r_weak (Ls2 (Ls2 (Ls1 (Ls2 (Ls2 Ls0))))) (s_J7_fill_d0a16_6 g e2 e3 N b1 64 _ (fun z2 M3 => ?_) N 0 M)
  exact r_vret g e3 dJ7_fill_d0a16_22
def B_X0_find_52 (N : Nat) (p1 : Int32) (p2 : Int32) (p3 : Int32) (G : Unit → Mm → Rs) (rec : Int32 → Mm → Rs) (s : Int32) (M : Mm) : Rs :=
  if s < 16 then
      (if ((p1 >>> (s &&& 31)) &&& 1) = 1 then
        (bd (f_X3_of N p3 s M) fun r7 M8 =>
        (if p2 < r7 then
          (rec (s + 1) M8)
        else
          (lt' ((s * 4) + (p3 / 64)) fun x9 =>
          (if inb x9 64 then
          (if inb x9 64 then
          (lt' (wL M8 52 (ix x9) ((M8.2 52 (ix x9)) ||| (lshl 1 (p3 - p3 / 64 * 64)))) fun M10 =>
          (rec (s + 1) M10)) else none) else none))))
      else
        (rec (s + 1) M))
    else
      (G () M)

def B_X0_find_10 (N : Nat) (p1 : Int32) (p2 : Int32) (G : Unit → Mm → Rs) (rec : Int32 → Mm → Rs) (s : Int32) (M : Mm) : Rs :=
  if s < 256 then
      (bd (f_X10_isPlan N s M) fun r3 M4 =>
      (if r3 = 0 then
        (rec (s + 1) M4)
      else
        (bd (f_X10_fare N s M4) fun r5 M6 =>
        (if p2 < r5 then
          (rec (s + 1) M6)
        else
          (itr (B_X0_find_52 N p1 p2 s fun z11 M12 =>
          (rec (s + 1) M12)) N 0 M6)))))
    else
      (G () M)

def f_X0_find (N : Nat) (a1 : Int32) (a2 : Int32) (M : Mm) : Rs :=
  bd (f_J7_fill_d0a16 N 0 M) fun r1 M2 =>
  (itr (B_X0_find_10 N a1 a2 fun z13 M14 =>
  (some (0, M14))) N 0 M2)

set_option maxHeartbeats 4000000 in
set_option maxRecDepth 100000 in
theorem s_X0_find_52 {w : W0} {Z : Zx} (g : Good KC w Z cX0_find RX0 4) (e2 : Z.2.2.1 = 5) (e3 : Z.2.2.2 = none) (N : Nat) (p1 : Int32) (p2 : Int32) (p3 : Int32) (G : Unit → Mm → Rs) (kG : ∀ (x : Unit) (M : Mm), Sim KC w Z 112 [rf w 51, .int p1, .int p2, .int p3, .null] [] M (G x M)) : ∀ (n : Nat) (s : Int32) (M : Mm), Sim KC w Z 52 [rf w 51, .int p1, .int p2, .int p3, .int s] [] M (itr (B_X0_find_52 N p1 p2 p3 G) n s M) := by
  have n4 : 4 < Z.2.2.1 := by rw [e2]; decide
  refine r_itr (Lf := fun (s : Int32) => [rf w 51, .int p1, .int p2, .int p3, .int s]) (fun rec hr s M => ?_)
  unfold B_X0_find_52
  refine r_iload (pc' := 54) g dX0_find_52 rfl rfl ?_
  refine r_bipush (pc' := 56) (v := 16) g dX0_find_54 rfl rfl ?_
  refine r_cge (pc' := 59) (tgt := 112) g dX0_find_56 rfl rfl ?_ ?_
  · skip
    exact r_weak (Ls2 (Ls2 (Ls2 (Ls2 (Ls1 Ls0))))) (kG () M)
  · skip
    refine r_iload_n (pc' := 60) g dX0_find_59 rfl rfl ?_
    refine r_iload (pc' := 62) g dX0_find_60 rfl rfl ?_
    refine r_ishr (pc' := 63) g dX0_find_62 rfl ?_
    refine r_iconst (pc' := 64) (v := 1) g dX0_find_63 rfl rfl ?_
    refine r_iand (pc' := 65) g dX0_find_64 rfl ?_
    refine r_iconst (pc' := 66) (v := 1) g dX0_find_65 rfl rfl ?_
    refine r_cne (pc' := 69) (tgt := 106) g dX0_find_66 rfl rfl ?_ ?_
    · skip
      refine r_iinc (pc' := 109) (b := 1) (L' := [rf w 51, .int p1, .int p2, .int p3, .int (s + 1)]) g dX0_find_106 rfl rfl rfl n4 rfl rfl ?_
      refine r_goto (tgt := 52) g dX0_find_109 rfl ?_
      exact r_weak (Ls2 (Ls2 (Ls2 (Ls2 (Ls2 Ls0))))) (hr (s + 1) M)
    · skip
      refine r_aload_n (pc' := 70) g dX0_find_69 rfl rfl ?_
      refine r_get (pc' := 73) g dX0_find_70 rfl fl_X0_15 lC_51 (eC_51 w _ _) rfl ?_
      refine r_iload_n (pc' := 74) g dX0_find_73 rfl rfl ?_
      refine r_iload (pc' := 76) g dX0_find_74 rfl rfl ?_
      refine r_callVi (pc' := 79) (As := [.int p3, .int s]) (rest := []) g dX0_find_76 rfl ml_X0_52 mw_X3_of mv_X3_of (Nat.le_of_ble_eq_true rfl) (c_X3_of _ w N p3 s M) rfl lC_38 (eC_38 w _ _) rfl rfl (Nat.le_of_ble_eq_true rfl) (fun r7 M8 => ?_)
      refine r_iload_n (pc' := 80) g dX0_find_79 rfl rfl ?_
      refine r_cgt (pc' := 83) (tgt := 106) g dX0_find_80 rfl rfl ?_ ?_
      · skip
        refine r_iinc (pc' := 109) (b := 1) (L' := [rf w 51, .int p1, .int p2, .int p3, .int (s + 1)]) g dX0_find_106 rfl rfl rfl n4 rfl rfl ?_
        refine r_goto (tgt := 52) g dX0_find_109 rfl ?_
        exact r_weak (Ls2 (Ls2 (Ls2 (Ls2 (Ls2 Ls0))))) (hr (s + 1) M8)
      · skip
        refine r_aload_n (pc' := 84) g dX0_find_83 rfl rfl ?_
        refine r_get (pc' := 87) g dX0_find_84 rfl fl_X0_11 lC_51 (eC_51 w _ _) rfl ?_
        refine r_iload (pc' := 89) g dX0_find_87 rfl rfl ?_
        refine r_iconst (pc' := 90) (v := 4) g dX0_find_89 rfl rfl ?_
        refine r_imul (pc' := 91) g dX0_find_90 rfl ?_
        refine r_iload_n (pc' := 92) g dX0_find_91 rfl rfl ?_
        refine r_bipush (pc' := 94) (v := 64) g dX0_find_92 rfl rfl ?_
        refine r_idiv (pc' := 95) g dX0_find_94 rfl (by decide) ?_
        refine r_iadd (pc' := 96) g dX0_find_95 rfl ?_
        refine r_ltI (fun x9 => ?_)
        refine r_dup2 (pc' := 97) g dX0_find_96 rfl ?_
        refine r_lald (pc' := 98) g dX0_find_97 rfl lC_52 (eC_52 w _ _) ?_
        refine r_lconst (pc' := 99) (v := 1) g dX0_find_98 rfl rfl ?_
        refine r_iload_n (pc' := 100) g dX0_find_99 rfl rfl ?_
        refine r_bipush (pc' := 102) (v := 64) g dX0_find_100 rfl rfl ?_
        refine r_irem (pc' := 103) g dX0_find_102 rfl (by decide) ?_
        refine r_lshl (pc' := 104) g dX0_find_103 rfl ?_
        refine r_lor (pc' := 105) g dX0_find_104 rfl ?_
        refine r_last (pc' := 106) g dX0_find_105 rfl lC_52 (fun m => eC_52 w _ m) ?_
        refine r_ltM (fun M10 => ?_)
        refine r_iinc (pc' := 109) (b := 1) (L' := [rf w 51, .int p1, .int p2, .int p3, .int (s + 1)]) g dX0_find_106 rfl rfl rfl n4 rfl rfl ?_
        refine r_goto (tgt := 52) g dX0_find_109 rfl ?_
        exact r_weak (Ls2 (Ls2 (Ls2 (Ls2 (Ls2 Ls0))))) (hr (s + 1) M10)
set_option maxHeartbeats 4000000 in
set_option maxRecDepth 100000 in
theorem s_X0_find_10 {w : W0} {Z : Zx} (g : Good KC w Z cX0_find RX0 4) (e2 : Z.2.2.1 = 5) (e3 : Z.2.2.2 = none) (N : Nat) (p1 : Int32) (p2 : Int32) (G : Unit → Mm → Rs) (kG : ∀ (x : Unit) (M : Mm), Sim KC w Z 118 [.null, .null, .null, .null, .null] [] M (G x M)) : ∀ (n : Nat) (s : Int32) (M : Mm), Sim KC w Z 10 [rf w 51, .int p1, .int p2, .int s, .null] [] M (itr (B_X0_find_10 N p1 p2 G) n s M) := by
  have n3 : 3 < Z.2.2.1 := by rw [e2]; decide
  have n4 : 4 < Z.2.2.1 := by rw [e2]; decide
  refine r_itr (Lf := fun (s : Int32) => [rf w 51, .int p1, .int p2, .int s, .null]) (fun rec hr s M => ?_)
  unfold B_X0_find_10
  refine r_iload_n (pc' := 11) g dX0_find_10 rfl rfl ?_
  refine r_sipush (pc' := 14) (v := 256) g dX0_find_11 rfl rfl ?_
  refine r_cge (pc' := 17) (tgt := 118) g dX0_find_14 rfl rfl ?_ ?_
  · skip
    exact r_weak (Ls1 (Ls1 (Ls1 (Ls1 (Ls1 Ls0))))) (kG () M)
  · skip
    refine r_aload_n (pc' := 18) g dX0_find_17 rfl rfl ?_
    refine r_get (pc' := 21) g dX0_find_18 rfl fl_X0_15 lC_51 (eC_51 w _ _) rfl ?_
    refine r_get (pc' := 24) g dX0_find_21 rfl fl_X0_39 lC_38 (eC_38 w _ _) rfl ?_
    refine r_iload_n (pc' := 25) g dX0_find_24 rfl rfl ?_
    refine r_callVi (pc' := 28) (As := [.int s]) (rest := []) g dX0_find_25 rfl ml_X0_43 mw_X10_isPlan mv_X10_isPlan (Nat.le_of_ble_eq_true rfl) (c_X10_isPlan _ w N s M) rfl lC_1 (eC_1 w _ _) rfl rfl (Nat.le_of_ble_eq_true rfl) (fun r3 M4 => ?_)
    refine r_ifeq (pc' := 31) (tgt := 112) g dX0_find_28 rfl rfl ?_ ?_
    · skip
      refine r_iinc (pc' := 115) (b := 1) (L' := [rf w 51, .int p1, .int p2, .int (s + 1), .null]) g dX0_find_112 rfl rfl rfl n3 rfl rfl ?_
      refine r_goto (tgt := 10) g dX0_find_115 rfl ?_
      exact r_weak (Ls2 (Ls2 (Ls2 (Ls2 (Ls1 Ls0))))) (hr (s + 1) M4)
    · skip
      refine r_aload_n (pc' := 32) g dX0_find_31 rfl rfl ?_
      refine r_get (pc' := 35) g dX0_find_32 rfl fl_X0_15 lC_51 (eC_51 w _ _) rfl ?_
      refine r_get (pc' := 38) g dX0_find_35 rfl fl_X0_39 lC_38 (eC_38 w _ _) rfl ?_
      refine r_iload_n (pc' := 39) g dX0_find_38 rfl rfl ?_
      refine r_callVi (pc' := 42) (As := [.int s]) (rest := []) g dX0_find_39 rfl ml_X0_49 mw_X10_fare mv_X10_fare (Nat.le_of_ble_eq_true rfl) (c_X10_fare _ w N s M4) rfl lC_1 (eC_1 w _ _) rfl rfl (Nat.le_of_ble_eq_true rfl) (fun r5 M6 => ?_)
      refine r_iload_n (pc' := 43) g dX0_find_42 rfl rfl ?_
      refine r_cle (pc' := 46) (tgt := 49) g dX0_find_43 rfl rfl ?_ ?_
      · skip
        refine r_iconst (pc' := 50) (v := 0) g dX0_find_49 rfl rfl ?_
        refine r_istore (pc' := 52) (L' := [rf w 51, .int p1, .int p2, .int s, .int 0]) g dX0_find_50 rfl n4 rfl rfl ?_
        refine r_weak (Ls2 (Ls2 (Ls2 (Ls2 (Ls2 Ls0))))) (s_X0_find_52 g e2 e3 N p1 p2 s _ (fun z11 M12 => ?_) N 0 M6)
        refine r_iinc (pc' := 115) (b := 1) (L' := [rf w 51, .int p1, .int p2, .int (s + 1), .null]) g dX0_find_112 rfl rfl rfl n3 rfl rfl ?_
        refine r_goto (tgt := 10) g dX0_find_115 rfl ?_
        exact r_weak (Ls2 (Ls2 (Ls2 (Ls2 (Ls1 Ls0))))) (hr (s + 1) M12)
      · skip
        refine r_goto (tgt := 112) g dX0_find_46 rfl ?_
        refine r_iinc (pc' := 115) (b := 1) (L' := [rf w 51, .int p1, .int p2, .int (s + 1), .null]) g dX0_find_112 rfl rfl rfl n3 rfl rfl ?_
        refine r_goto (tgt := 10) g dX0_find_115 rfl ?_
        exact r_weak (Ls2 (Ls2 (Ls2 (Ls2 (Ls1 Ls0))))) (hr (s + 1) M6)
set_option maxHeartbeats 4000000 in
set_option maxRecDepth 100000 in
theorem c_X0_find (l : Launch) (w : W0) (N : Nat) (a1 : Int32) (a2 : Int32) (M : Mm) : Ct l KC w 4 yX0_find cX0_find 5 none [rf w 51, .int a1, .int a2] M (f_X0_find N a1 a2 M) := by
  refine ct_of [rf w 51, .int a1, .int a2, .null, .null] (by decide) (Nat.le_of_ble_eq_true rfl) rfl (fun Z e1 e2 e3 g => ?_)
  have g : Good KC w Z cX0_find RX0 4 := g
  unfold f_X0_find
  have n3 : 3 < Z.2.2.1 := by rw [e2]; decide
  refine r_aload_n (pc' := 1) g dX0_find_0 rfl rfl ?_
  refine r_get (pc' := 4) g dX0_find_1 rfl fl_X0_11 lC_51 (eC_51 w _ _) rfl ?_
  refine r_lconst (pc' := 5) (v := 0) g dX0_find_4 rfl rfl ?_
  refine r_callSv (pc' := 8) (As := [rf w 52, .long 0]) (rest := []) g dX0_find_5 rfl ml_X0_33 mw_J7_fill_d0a16 ms_J7_fill_d0a16 (Nat.le_of_ble_eq_true rfl) (c_J7_fill_d0a16 _ w N 0 M) rfl rfl (Nat.le_of_ble_eq_true rfl) (fun r1 M2 => ?_)
  refine r_iconst (pc' := 9) (v := 0) g dX0_find_8 rfl rfl ?_
  refine r_istore_n (pc' := 10) (L' := [rf w 51, .int a1, .int a2, .int 0, .null]) g dX0_find_9 rfl n3 rfl rfl ?_
  refine r_weak (Ls2 (Ls2 (Ls2 (Ls2 (Ls1 Ls0))))) (s_X0_find_10 g e2 e3 N a1 a2 _ (fun z13 M14 => ?_) N 0 M2)
  exact r_vret g e3 dX0_find_118
def B_X0_isBorneByNone_3 (N : Nat) (p1 : Int32) (p2 : Int32) (p3 : Int32) (G : Unit → Mm → Rs) (rec : Int32 → Mm → Rs) (s : Int32) (M : Mm) : Rs :=
  if s < 4 then
      (if inb ((p1 * 4) + s) 64 then
      (if inb ((p2 * 4) + s) 64 then
      (if inb ((p3 * 4) + s) 64 then
      (if (lg_cmp (((M.2 52 (ix ((p1 * 4) + s))) &&& (M.2 52 (ix ((p2 * 4) + s)))) &&& (M.2 52 (ix ((p3 * 4) + s)))) 0) = 0 then
        (rec (s + 1) M)
      else
        (some (0, M))) else none) else none) else none)
    else
      (G () M)

def f_X0_isBorneByNone (N : Nat) (a1 : Int32) (a2 : Int32) (a3 : Int32) (M : Mm) : Rs :=
  itr (B_X0_isBorneByNone_3 N a1 a2 a3 fun z1 M2 =>
  (some (1, M2))) N 0 M

set_option maxHeartbeats 4000000 in
set_option maxRecDepth 100000 in
theorem s_X0_isBorneByNone_3 {w : W0} {Z : Zx} (g : Good KC w Z cX0_isBorneByNone RX0 0) (e2 : Z.2.2.1 = 5) (e3 : Z.2.2.2 = (some .boolean)) (N : Nat) (p1 : Int32) (p2 : Int32) (p3 : Int32) (G : Unit → Mm → Rs) (kG : ∀ (x : Unit) (M : Mm), Sim KC w Z 57 [.null, .null, .null, .null, .null] [] M (G x M)) : ∀ (n : Nat) (s : Int32) (M : Mm), Sim KC w Z 3 [rf w 51, .int p1, .int p2, .int p3, .int s] [] M (itr (B_X0_isBorneByNone_3 N p1 p2 p3 G) n s M) := by
  have n4 : 4 < Z.2.2.1 := by rw [e2]; decide
  refine r_itr (Lf := fun (s : Int32) => [rf w 51, .int p1, .int p2, .int p3, .int s]) (fun rec hr s M => ?_)
  unfold B_X0_isBorneByNone_3
  refine r_iload (pc' := 5) g dX0_isBorneByNone_3 rfl rfl ?_
  refine r_iconst (pc' := 6) (v := 4) g dX0_isBorneByNone_5 rfl rfl ?_
  refine r_cge (pc' := 9) (tgt := 57) g dX0_isBorneByNone_6 rfl rfl ?_ ?_
  · skip
    exact r_weak (Ls1 (Ls1 (Ls1 (Ls1 (Ls1 Ls0))))) (kG () M)
  · skip
    refine r_aload_n (pc' := 10) g dX0_isBorneByNone_9 rfl rfl ?_
    refine r_get (pc' := 13) g dX0_isBorneByNone_10 rfl fl_X0_11 lC_51 (eC_51 w _ _) rfl ?_
    refine r_iload_n (pc' := 14) g dX0_isBorneByNone_13 rfl rfl ?_
    refine r_iconst (pc' := 15) (v := 4) g dX0_isBorneByNone_14 rfl rfl ?_
    refine r_imul (pc' := 16) g dX0_isBorneByNone_15 rfl ?_
    refine r_iload (pc' := 18) g dX0_isBorneByNone_16 rfl rfl ?_
    refine r_iadd (pc' := 19) g dX0_isBorneByNone_18 rfl ?_
    refine r_lald (pc' := 20) g dX0_isBorneByNone_19 rfl lC_52 (eC_52 w _ _) ?_
    refine r_aload_n (pc' := 21) g dX0_isBorneByNone_20 rfl rfl ?_
    refine r_get (pc' := 24) g dX0_isBorneByNone_21 rfl fl_X0_11 lC_51 (eC_51 w _ _) rfl ?_
    refine r_iload_n (pc' := 25) g dX0_isBorneByNone_24 rfl rfl ?_
    refine r_iconst (pc' := 26) (v := 4) g dX0_isBorneByNone_25 rfl rfl ?_
    refine r_imul (pc' := 27) g dX0_isBorneByNone_26 rfl ?_
    refine r_iload (pc' := 29) g dX0_isBorneByNone_27 rfl rfl ?_
    refine r_iadd (pc' := 30) g dX0_isBorneByNone_29 rfl ?_
    refine r_lald (pc' := 31) g dX0_isBorneByNone_30 rfl lC_52 (eC_52 w _ _) ?_
    refine r_land (pc' := 32) g dX0_isBorneByNone_31 rfl ?_
    refine r_aload_n (pc' := 33) g dX0_isBorneByNone_32 rfl rfl ?_
    refine r_get (pc' := 36) g dX0_isBorneByNone_33 rfl fl_X0_11 lC_51 (eC_51 w _ _) rfl ?_
    refine r_iload_n (pc' := 37) g dX0_isBorneByNone_36 rfl rfl ?_
    refine r_iconst (pc' := 38) (v := 4) g dX0_isBorneByNone_37 rfl rfl ?_
    refine r_imul (pc' := 39) g dX0_isBorneByNone_38 rfl ?_
    refine r_iload (pc' := 41) g dX0_isBorneByNone_39 rfl rfl ?_
    refine r_iadd (pc' := 42) g dX0_isBorneByNone_41 rfl ?_
    refine r_lald (pc' := 43) g dX0_isBorneByNone_42 rfl lC_52 (eC_52 w _ _) ?_
    refine r_land (pc' := 44) g dX0_isBorneByNone_43 rfl ?_
    refine r_lconst (pc' := 45) (v := 0) g dX0_isBorneByNone_44 rfl rfl ?_
    refine r_lcmp (pc' := 46) g dX0_isBorneByNone_45 rfl ?_
    refine r_ifeq (pc' := 49) (tgt := 51) g dX0_isBorneByNone_46 rfl rfl ?_ ?_
    · skip
      refine r_iinc (pc' := 54) (b := 1) (L' := [rf w 51, .int p1, .int p2, .int p3, .int (s + 1)]) g dX0_isBorneByNone_51 rfl rfl rfl n4 rfl rfl ?_
      refine r_goto (tgt := 3) g dX0_isBorneByNone_54 rfl ?_
      exact r_weak (Ls2 (Ls2 (Ls2 (Ls2 (Ls2 Ls0))))) (hr (s + 1) M)
    · skip
      refine r_iconst (pc' := 50) (v := 0) g dX0_isBorneByNone_49 rfl rfl ?_
      exact r_zretc g e3 rfl dX0_isBorneByNone_50
set_option maxHeartbeats 4000000 in
set_option maxRecDepth 100000 in
theorem c_X0_isBorneByNone (l : Launch) (w : W0) (N : Nat) (a1 : Int32) (a2 : Int32) (a3 : Int32) (M : Mm) : Ct l KC w 0 yX0_isBorneByNone cX0_isBorneByNone 5 (some .boolean) [rf w 51, .int a1, .int a2, .int a3] M (f_X0_isBorneByNone N a1 a2 a3 M) := by
  refine ct_of [rf w 51, .int a1, .int a2, .int a3, .null] (by decide) (Nat.le_of_ble_eq_true rfl) rfl (fun Z e1 e2 e3 g => ?_)
  have g : Good KC w Z cX0_isBorneByNone RX0 0 := g
  unfold f_X0_isBorneByNone
  have n4 : 4 < Z.2.2.1 := by rw [e2]; decide
  refine r_iconst (pc' := 1) (v := 0) g dX0_isBorneByNone_0 rfl rfl ?_
  refine r_istore (pc' := 3) (L' := [rf w 51, .int a1, .int a2, .int a3, .int 0]) g dX0_isBorneByNone_1 rfl n4 rfl rfl ?_
  refine r_weak (Ls2 (Ls2 (Ls2 (Ls2 (Ls2 Ls0))))) (s_X0_isBorneByNone_3 g e2 e3 N a1 a2 a3 _ (fun z1 M2 => ?_) N 0 M)
  refine r_iconst (pc' := 58) (v := 1) g dX0_isBorneByNone_57 rfl rfl ?_
  exact r_zretc g e3 rfl dX0_isBorneByNone_58
def B_X0_leastOf_20 (N : Nat) (p1 : Int32) (p2 : Int32) (p3 : Int32) (p4 : Int32) (G : Unit → Mm → Rs) (rec : Int32 → Mm → Rs) (s : Int32) (M : Mm) : Rs :=
  if p4 < s then
      (G () M)
    else
      (lt' (((1 <<< (p3 &&& 31)) ||| (1 <<< (p4 &&& 31))) ||| (1 <<< (s &&& 31))) fun x1 =>
      (bd (f_J6_bitCount_0f7a4 N x1 M) fun r2 M3 =>
      (if r2 = p1 then
        (if (x1 &&& (p2 ^^^ (-1))) = 0 then
          (bd (f_X0_isBorneByNone N p3 p4 s M3) fun r4 M5 =>
          (if r4 = 0 then
            (rec (s + 1) M5)
          else
            (some (x1, M5))))
        else
          (rec (s + 1) M3))
      else
        (rec (s + 1) M3))))

def B_X0_leastOf_11 (N : Nat) (p1 : Int32) (p2 : Int32) (p3 : Int32) (G : Unit → Mm → Rs) (rec : Int32 → Mm → Rs) (s : Int32) (M : Mm) : Rs :=
  if p3 < s then
      (G () M)
    else
      (itr (B_X0_leastOf_20 N p1 p2 p3 s fun z6 M7 =>
      (rec (s + 1) M7)) N 0 M)

def B_X0_leastOf_2 (N : Nat) (p1 : Int32) (p2 : Int32) (G : Unit → Mm → Rs) (rec : Int32 → Mm → Rs) (s : Int32) (M : Mm) : Rs :=
  if s < 16 then
      (itr (B_X0_leastOf_11 N p1 p2 s fun z8 M9 =>
      (rec (s + 1) M9)) N 0 M)
    else
      (G () M)

def f_X0_leastOf (N : Nat) (a1 : Int32) (a2 : Int32) (M : Mm) : Rs :=
  itr (B_X0_leastOf_2 N a1 a2 fun z10 M11 =>
  (some (0, M11))) N 0 M

set_option maxHeartbeats 4000000 in
set_option maxRecDepth 100000 in
theorem s_X0_leastOf_20 {w : W0} {Z : Zx} (g : Good KC w Z cX0_leastOf RX0 1) (e2 : Z.2.2.1 = 7) (e3 : Z.2.2.2 = (some .int)) (N : Nat) (p1 : Int32) (p2 : Int32) (p3 : Int32) (p4 : Int32) (G : Unit → Mm → Rs) (kG : ∀ (x : Unit) (M : Mm), Sim KC w Z 84 [rf w 51, .int p1, .int p2, .int p3, .int p4, .null, .null] [] M (G x M)) : ∀ (n : Nat) (s : Int32) (M : Mm), Sim KC w Z 20 [rf w 51, .int p1, .int p2, .int p3, .int p4, .int s, .null] [] M (itr (B_X0_leastOf_20 N p1 p2 p3 p4 G) n s M) := by
  have n5 : 5 < Z.2.2.1 := by rw [e2]; decide
  have n6 : 6 < Z.2.2.1 := by rw [e2]; decide
  refine r_itr (Lf := fun (s : Int32) => [rf w 51, .int p1, .int p2, .int p3, .int p4, .int s, .null]) (fun rec hr s M => ?_)
  unfold B_X0_leastOf_20
  refine r_iload (pc' := 22) g dX0_leastOf_20 rfl rfl ?_
  refine r_iload (pc' := 24) g dX0_leastOf_22 rfl rfl ?_
  refine r_cgt (pc' := 27) (tgt := 84) g dX0_leastOf_24 rfl rfl ?_ ?_
  · skip
    exact r_weak (Ls2 (Ls2 (Ls2 (Ls2 (Ls2 (Ls1 (Ls1 Ls0))))))) (kG () M)
  · skip
    refine r_iconst (pc' := 28) (v := 1) g dX0_leastOf_27 rfl rfl ?_
    refine r_iload_n (pc' := 29) g dX0_leastOf_28 rfl rfl ?_
    refine r_ishl (pc' := 30) g dX0_leastOf_29 rfl ?_
    refine r_iconst (pc' := 31) (v := 1) g dX0_leastOf_30 rfl rfl ?_
    refine r_iload (pc' := 33) g dX0_leastOf_31 rfl rfl ?_
    refine r_ishl (pc' := 34) g dX0_leastOf_33 rfl ?_
    refine r_ior (pc' := 35) g dX0_leastOf_34 rfl ?_
    refine r_iconst (pc' := 36) (v := 1) g dX0_leastOf_35 rfl rfl ?_
    refine r_iload (pc' := 38) g dX0_leastOf_36 rfl rfl ?_
    refine r_ishl (pc' := 39) g dX0_leastOf_38 rfl ?_
    refine r_ior (pc' := 40) g dX0_leastOf_39 rfl ?_
    refine r_ltI (fun x1 => ?_)
    refine r_istore (pc' := 42) (L' := [rf w 51, .int p1, .int p2, .int p3, .int p4, .int s, .int x1]) g dX0_leastOf_40 rfl n6 rfl rfl ?_
    refine r_iload (pc' := 44) g dX0_leastOf_42 rfl rfl ?_
    refine r_callSi (pc' := 47) (As := [.int x1]) (rest := []) g dX0_leastOf_44 rfl ml_X0_55 mw_J6_bitCount_0f7a4 ms_J6_bitCount_0f7a4 (Nat.le_of_ble_eq_true rfl) (c_J6_bitCount_0f7a4 _ w N x1 M) rfl rfl (Nat.le_of_ble_eq_true rfl) (fun r2 M3 => ?_)
    refine r_iload_n (pc' := 48) g dX0_leastOf_47 rfl rfl ?_
    refine r_cne (pc' := 51) (tgt := 78) g dX0_leastOf_48 rfl rfl ?_ ?_
    · skip
      refine r_iinc (pc' := 81) (b := 1) (L' := [rf w 51, .int p1, .int p2, .int p3, .int p4, .int (s + 1), .int x1]) g dX0_leastOf_78 rfl rfl rfl n5 rfl rfl ?_
      refine r_goto (tgt := 20) g dX0_leastOf_81 rfl ?_
      exact r_weak (Ls2 (Ls2 (Ls2 (Ls2 (Ls2 (Ls2 (Ls1 Ls0))))))) (hr (s + 1) M3)
    · skip
      refine r_iload (pc' := 53) g dX0_leastOf_51 rfl rfl ?_
      refine r_iload_n (pc' := 54) g dX0_leastOf_53 rfl rfl ?_
      refine r_iconst (pc' := 55) (v := -1) g dX0_leastOf_54 rfl rfl ?_
      refine r_ixor (pc' := 56) g dX0_leastOf_55 rfl ?_
      refine r_iand (pc' := 57) g dX0_leastOf_56 rfl ?_
      refine r_ifeq (pc' := 60) (tgt := 63) g dX0_leastOf_57 rfl rfl ?_ ?_
      · skip
        refine r_aload_n (pc' := 64) g dX0_leastOf_63 rfl rfl ?_
        refine r_iload_n (pc' := 65) g dX0_leastOf_64 rfl rfl ?_
        refine r_iload (pc' := 67) g dX0_leastOf_65 rfl rfl ?_
        refine r_iload (pc' := 69) g dX0_leastOf_67 rfl rfl ?_
        refine r_callVi (pc' := 72) (As := [.int p3, .int p4, .int s]) (rest := []) g dX0_leastOf_69 rfl ml_X0_60 mw_X0_isBorneByNone mv_X0_isBorneByNone (Nat.le_of_ble_eq_true rfl) (c_X0_isBorneByNone _ w N p3 p4 s M3) rfl lC_51 (eC_51 w _ _) rfl rfl (Nat.le_of_ble_eq_true rfl) (fun r4 M5 => ?_)
        refine r_ifeq (pc' := 75) (tgt := 78) g dX0_leastOf_72 rfl rfl ?_ ?_
        · skip
          refine r_iinc (pc' := 81) (b := 1) (L' := [rf w 51, .int p1, .int p2, .int p3, .int p4, .int (s + 1), .int x1]) g dX0_leastOf_78 rfl rfl rfl n5 rfl rfl ?_
          refine r_goto (tgt := 20) g dX0_leastOf_81 rfl ?_
          exact r_weak (Ls2 (Ls2 (Ls2 (Ls2 (Ls2 (Ls2 (Ls1 Ls0))))))) (hr (s + 1) M5)
        · skip
          refine r_iload (pc' := 77) g dX0_leastOf_75 rfl rfl ?_
          exact r_iret g e3 dX0_leastOf_77
      · skip
        refine r_goto (tgt := 78) g dX0_leastOf_60 rfl ?_
        refine r_iinc (pc' := 81) (b := 1) (L' := [rf w 51, .int p1, .int p2, .int p3, .int p4, .int (s + 1), .int x1]) g dX0_leastOf_78 rfl rfl rfl n5 rfl rfl ?_
        refine r_goto (tgt := 20) g dX0_leastOf_81 rfl ?_
        exact r_weak (Ls2 (Ls2 (Ls2 (Ls2 (Ls2 (Ls2 (Ls1 Ls0))))))) (hr (s + 1) M3)
set_option maxHeartbeats 4000000 in
set_option maxRecDepth 100000 in
theorem s_X0_leastOf_11 {w : W0} {Z : Zx} (g : Good KC w Z cX0_leastOf RX0 1) (e2 : Z.2.2.1 = 7) (e3 : Z.2.2.2 = (some .int)) (N : Nat) (p1 : Int32) (p2 : Int32) (p3 : Int32) (G : Unit → Mm → Rs) (kG : ∀ (x : Unit) (M : Mm), Sim KC w Z 90 [rf w 51, .int p1, .int p2, .int p3, .null, .null, .null] [] M (G x M)) : ∀ (n : Nat) (s : Int32) (M : Mm), Sim KC w Z 11 [rf w 51, .int p1, .int p2, .int p3, .int s, .null, .null] [] M (itr (B_X0_leastOf_11 N p1 p2 p3 G) n s M) := by
  have n4 : 4 < Z.2.2.1 := by rw [e2]; decide
  have n5 : 5 < Z.2.2.1 := by rw [e2]; decide
  refine r_itr (Lf := fun (s : Int32) => [rf w 51, .int p1, .int p2, .int p3, .int s, .null, .null]) (fun rec hr s M => ?_)
  unfold B_X0_leastOf_11
  refine r_iload (pc' := 13) g dX0_leastOf_11 rfl rfl ?_
  refine r_iload_n (pc' := 14) g dX0_leastOf_13 rfl rfl ?_
  refine r_cgt (pc' := 17) (tgt := 90) g dX0_leastOf_14 rfl rfl ?_ ?_
  · skip
    exact r_weak (Ls2 (Ls2 (Ls2 (Ls2 (Ls1 (Ls1 (Ls1 Ls0))))))) (kG () M)
  · skip
    refine r_iconst (pc' := 18) (v := 0) g dX0_leastOf_17 rfl rfl ?_
    refine r_istore (pc' := 20) (L' := [rf w 51, .int p1, .int p2, .int p3, .int s, .int 0, .null]) g dX0_leastOf_18 rfl n5 rfl rfl ?_
    refine r_weak (Ls2 (Ls2 (Ls2 (Ls2 (Ls2 (Ls2 (Ls1 Ls0))))))) (s_X0_leastOf_20 g e2 e3 N p1 p2 p3 s _ (fun z6 M7 => ?_) N 0 M)
    refine r_iinc (pc' := 87) (b := 1) (L' := [rf w 51, .int p1, .int p2, .int p3, .int (s + 1), .null, .null]) g dX0_leastOf_84 rfl rfl rfl n4 rfl rfl ?_
    refine r_goto (tgt := 11) g dX0_leastOf_87 rfl ?_
    exact r_weak (Ls2 (Ls2 (Ls2 (Ls2 (Ls2 (Ls1 (Ls1 Ls0))))))) (hr (s + 1) M7)
set_option maxHeartbeats 4000000 in
set_option maxRecDepth 100000 in
theorem s_X0_leastOf_2 {w : W0} {Z : Zx} (g : Good KC w Z cX0_leastOf RX0 1) (e2 : Z.2.2.1 = 7) (e3 : Z.2.2.2 = (some .int)) (N : Nat) (p1 : Int32) (p2 : Int32) (G : Unit → Mm → Rs) (kG : ∀ (x : Unit) (M : Mm), Sim KC w Z 96 [.null, .null, .null, .null, .null, .null, .null] [] M (G x M)) : ∀ (n : Nat) (s : Int32) (M : Mm), Sim KC w Z 2 [rf w 51, .int p1, .int p2, .int s, .null, .null, .null] [] M (itr (B_X0_leastOf_2 N p1 p2 G) n s M) := by
  have n3 : 3 < Z.2.2.1 := by rw [e2]; decide
  have n4 : 4 < Z.2.2.1 := by rw [e2]; decide
  refine r_itr (Lf := fun (s : Int32) => [rf w 51, .int p1, .int p2, .int s, .null, .null, .null]) (fun rec hr s M => ?_)
  unfold B_X0_leastOf_2
  refine r_iload_n (pc' := 3) g dX0_leastOf_2 rfl rfl ?_
  refine r_bipush (pc' := 5) (v := 16) g dX0_leastOf_3 rfl rfl ?_
  refine r_cge (pc' := 8) (tgt := 96) g dX0_leastOf_5 rfl rfl ?_ ?_
  · skip
    exact r_weak (Ls1 (Ls1 (Ls1 (Ls1 (Ls1 (Ls1 (Ls1 Ls0))))))) (kG () M)
  · skip
    refine r_iconst (pc' := 9) (v := 0) g dX0_leastOf_8 rfl rfl ?_
    refine r_istore (pc' := 11) (L' := [rf w 51, .int p1, .int p2, .int s, .int 0, .null, .null]) g dX0_leastOf_9 rfl n4 rfl rfl ?_
    refine r_weak (Ls2 (Ls2 (Ls2 (Ls2 (Ls2 (Ls1 (Ls1 Ls0))))))) (s_X0_leastOf_11 g e2 e3 N p1 p2 s _ (fun z8 M9 => ?_) N 0 M)
    refine r_iinc (pc' := 93) (b := 1) (L' := [rf w 51, .int p1, .int p2, .int (s + 1), .null, .null, .null]) g dX0_leastOf_90 rfl rfl rfl n3 rfl rfl ?_
    refine r_goto (tgt := 2) g dX0_leastOf_93 rfl ?_
    exact r_weak (Ls2 (Ls2 (Ls2 (Ls2 (Ls1 (Ls1 (Ls1 Ls0))))))) (hr (s + 1) M9)
set_option maxHeartbeats 4000000 in
set_option maxRecDepth 100000 in
theorem c_X0_leastOf (l : Launch) (w : W0) (N : Nat) (a1 : Int32) (a2 : Int32) (M : Mm) : Ct l KC w 1 yX0_leastOf cX0_leastOf 7 (some .int) [rf w 51, .int a1, .int a2] M (f_X0_leastOf N a1 a2 M) := by
  refine ct_of [rf w 51, .int a1, .int a2, .null, .null, .null, .null] (by decide) (Nat.le_of_ble_eq_true rfl) rfl (fun Z e1 e2 e3 g => ?_)
  have g : Good KC w Z cX0_leastOf RX0 1 := g
  unfold f_X0_leastOf
  have n3 : 3 < Z.2.2.1 := by rw [e2]; decide
  refine r_iconst (pc' := 1) (v := 0) g dX0_leastOf_0 rfl rfl ?_
  refine r_istore_n (pc' := 2) (L' := [rf w 51, .int a1, .int a2, .int 0, .null, .null, .null]) g dX0_leastOf_1 rfl n3 rfl rfl ?_
  refine r_weak (Ls2 (Ls2 (Ls2 (Ls2 (Ls1 (Ls1 (Ls1 Ls0))))))) (s_X0_leastOf_2 g e2 e3 N a1 a2 _ (fun z10 M11 => ?_) N 0 M)
  refine r_iconst (pc' := 97) (v := 0) g dX0_leastOf_96 rfl rfl ?_
  exact r_iret g e3 dX0_leastOf_97
def B_X0_fewest_26 (N : Nat) (p1 : Int32) (G : Unit → Mm → Rs) (rec : Int32 → Mm → Rs) (s : Int32) (M : Mm) : Rs :=
  if 3 < s then
      (G () M)
    else
      (bd (f_X0_leastOf N s p1 M) fun r5 M6 =>
      (if r5 = 0 then
        (rec (s + 1) M6)
      else
        (some (r5, M6))))

def f_X0_fewest (N : Nat) (a1 : Int32) (a2 : Int32) (M : Mm) : Rs :=
  if a1 = 0 then
    (some (0, M))
  else
    (bd (f_X3_bestOver N a1 M) fun r1 M2 =>
    (if a2 < r1 then
      (bd (f_X0_find N a1 a2 M2) fun r3 M4 =>
      (itr (B_X0_fewest_26 N a1 fun z7 M8 =>
      (some (0, M8))) N 1 M4))
    else
      (some (0, M2))))

set_option maxHeartbeats 4000000 in
set_option maxRecDepth 100000 in
theorem s_X0_fewest_26 {w : W0} {Z : Zx} (g : Good KC w Z cX0_fewest RX0 6) (e2 : Z.2.2.1 = 5) (e3 : Z.2.2.2 = (some .int)) (N : Nat) (p1 : Int32) (G : Unit → Mm → Rs) (kG : ∀ (x : Unit) (M : Mm), Sim KC w Z 53 [.null, .null, .null, .null, .null] [] M (G x M)) : ∀ (n : Nat) (s : Int32) (M : Mm), Sim KC w Z 26 [rf w 51, .int p1, .null, .int s, .null] [] M (itr (B_X0_fewest_26 N p1 G) n s M) := by
  have n3 : 3 < Z.2.2.1 := by rw [e2]; decide
  have n4 : 4 < Z.2.2.1 := by rw [e2]; decide
  refine r_itr (Lf := fun (s : Int32) => [rf w 51, .int p1, .null, .int s, .null]) (fun rec hr s M => ?_)
  unfold B_X0_fewest_26
  refine r_iload_n (pc' := 27) g dX0_fewest_26 rfl rfl ?_
  refine r_iconst (pc' := 28) (v := 3) g dX0_fewest_27 rfl rfl ?_
  refine r_cgt (pc' := 31) (tgt := 53) g dX0_fewest_28 rfl rfl ?_ ?_
  · skip
    exact r_weak (Ls1 (Ls1 (Ls1 (Ls1 (Ls1 Ls0))))) (kG () M)
  · skip
    refine r_aload_n (pc' := 32) g dX0_fewest_31 rfl rfl ?_
    refine r_iload_n (pc' := 33) g dX0_fewest_32 rfl rfl ?_
    refine r_iload_n (pc' := 34) g dX0_fewest_33 rfl rfl ?_
    refine r_callVi (pc' := 37) (As := [.int s, .int p1]) (rest := []) g dX0_fewest_34 rfl ml_X0_29 mw_X0_leastOf mv_X0_leastOf (Nat.le_of_ble_eq_true rfl) (c_X0_leastOf _ w N s p1 M) rfl lC_51 (eC_51 w _ _) rfl rfl (Nat.le_of_ble_eq_true rfl) (fun r5 M6 => ?_)
    refine r_istore (pc' := 39) (L' := [rf w 51, .int p1, .null, .int s, .int r5]) g dX0_fewest_37 rfl n4 rfl rfl ?_
    refine r_iload (pc' := 41) g dX0_fewest_39 rfl rfl ?_
    refine r_ifeq (pc' := 44) (tgt := 47) g dX0_fewest_41 rfl rfl ?_ ?_
    · skip
      refine r_iinc (pc' := 50) (b := 1) (L' := [rf w 51, .int p1, .null, .int (s + 1), .int r5]) g dX0_fewest_47 rfl rfl rfl n3 rfl rfl ?_
      refine r_goto (tgt := 26) g dX0_fewest_50 rfl ?_
      exact r_weak (Ls2 (Ls2 (Ls1 (Ls2 (Ls1 Ls0))))) (hr (s + 1) M6)
    · skip
      refine r_iload (pc' := 46) g dX0_fewest_44 rfl rfl ?_
      exact r_iret g e3 dX0_fewest_46
set_option maxHeartbeats 4000000 in
set_option maxRecDepth 100000 in
theorem c_X0_fewest (l : Launch) (w : W0) (N : Nat) (a1 : Int32) (a2 : Int32) (M : Mm) : Ct l KC w 6 yX0_fewest cX0_fewest 5 (some .int) [rf w 51, .int a1, .int a2] M (f_X0_fewest N a1 a2 M) := by
  refine ct_of [rf w 51, .int a1, .int a2, .null, .null] (by decide) (Nat.le_of_ble_eq_true rfl) rfl (fun Z e1 e2 e3 g => ?_)
  have g : Good KC w Z cX0_fewest RX0 6 := g
  unfold f_X0_fewest
  have n3 : 3 < Z.2.2.1 := by rw [e2]; decide
  refine r_iload_n (pc' := 1) g dX0_fewest_0 rfl rfl ?_
  refine r_ifeq (pc' := 4) (tgt := 16) g dX0_fewest_1 rfl rfl ?_ ?_
  · skip
    refine r_iconst (pc' := 17) (v := 0) g dX0_fewest_16 rfl rfl ?_
    exact r_iret g e3 dX0_fewest_17
  · skip
    refine r_aload_n (pc' := 5) g dX0_fewest_4 rfl rfl ?_
    refine r_get (pc' := 8) g dX0_fewest_5 rfl fl_X0_15 lC_51 (eC_51 w _ _) rfl ?_
    refine r_iload_n (pc' := 9) g dX0_fewest_8 rfl rfl ?_
    refine r_callVi (pc' := 12) (As := [.int a1]) (rest := []) g dX0_fewest_9 rfl ml_X0_19 mw_X3_bestOver mv_X3_bestOver (Nat.le_of_ble_eq_true rfl) (c_X3_bestOver _ w N a1 M) rfl lC_38 (eC_38 w _ _) rfl rfl (Nat.le_of_ble_eq_true rfl) (fun r1 M2 => ?_)
    refine r_iload_n (pc' := 13) g dX0_fewest_12 rfl rfl ?_
    refine r_cgt (pc' := 16) (tgt := 18) g dX0_fewest_13 rfl rfl ?_ ?_
    · skip
      refine r_aload_n (pc' := 19) g dX0_fewest_18 rfl rfl ?_
      refine r_iload_n (pc' := 20) g dX0_fewest_19 rfl rfl ?_
      refine r_iload_n (pc' := 21) g dX0_fewest_20 rfl rfl ?_
      refine r_callVv (pc' := 24) (As := [.int a1, .int a2]) (rest := []) g dX0_fewest_21 rfl ml_X0_25 mw_X0_find mv_X0_find (Nat.le_of_ble_eq_true rfl) (c_X0_find _ w N a1 a2 M2) rfl lC_51 (eC_51 w _ _) rfl rfl (Nat.le_of_ble_eq_true rfl) (fun r3 M4 => ?_)
      refine r_iconst (pc' := 25) (v := 1) g dX0_fewest_24 rfl rfl ?_
      refine r_istore_n (pc' := 26) (L' := [rf w 51, .int a1, .int a2, .int 1, .null]) g dX0_fewest_25 rfl n3 rfl rfl ?_
      refine r_weak (Ls2 (Ls2 (Ls1 (Ls2 (Ls1 Ls0))))) (s_X0_fewest_26 g e2 e3 N a1 _ (fun z7 M8 => ?_) N 1 M4)
      refine r_iconst (pc' := 54) (v := 0) g dX0_fewest_53 rfl rfl ?_
      exact r_iret g e3 dX0_fewest_54
    · skip
      refine r_iconst (pc' := 17) (v := 0) g dX0_fewest_16 rfl rfl ?_
      exact r_iret g e3 dX0_fewest_17
def f_X11_none (N : Nat) (a1 : Int32) (a2 : Int32) (M : Mm) : Rs :=
  lt' (fun (s1 : Unit) (M2 : Mm) =>
    ((if a1 < 0 then
      (bd (f_X11_refuse N (-4) M2) fun r12 M13 =>
      (some (r12, M13)))
    else
      (if 99999 < a1 then
        (bd (f_X11_refuse N (-6) M2) fun r10 M11 =>
        (some (r10, M11)))
      else
        (bd (f_X11_theSet N  M2) fun r4 M5 =>
        (bd (f_X0_fewest N r4 a1 M5) fun r6 M7 =>
        (if r6 = 0 then
          (some ((-9), M7))
        else
          (if a2 = 0 then
            (bd (f_J6_bitCount_0f7a4 N r6 M7) fun r8 M9 =>
            (some (r8, M9)))
          else
            (some (r6, M7)))))))) : Rs)) fun jn3 =>
  (if a2 = 0 then
    (jn3 () M)
  else
    (if a2 = 1 then
      (jn3 () M)
    else
      (bd (f_X11_refuse N (-2) M) fun r14 M15 =>
      (some (r14, M15)))))

set_option maxHeartbeats 4000000 in
set_option maxRecDepth 100000 in
theorem c_X11_none (l : Launch) (w : W0) (N : Nat) (a1 : Int32) (a2 : Int32) (M : Mm) : Ct l KC w 7 yX11_none cX11_none 4 (some .int) [rf w 0, .int a1, .int a2] M (f_X11_none N a1 a2 M) := by
  refine ct_of [rf w 0, .int a1, .int a2, .null] (by decide) (Nat.le_of_ble_eq_true rfl) rfl (fun Z e1 e2 e3 g => ?_)
  have g : Good KC w Z cX11_none RX11 7 := g
  unfold f_X11_none
  have n3 : 3 < Z.2.2.1 := by rw [e2]; decide
  refine r_iload_n (pc' := 1) g dX11_none_0 rfl rfl ?_
  refine r_jn (pj := 16) (Lj := fun (s1 : Unit) => [rf w 0, .int a1, .int a2, .null]) (stj := fun (s1 : Unit) => []) (fun s1 M2 => ?_) (fun jn3 hjn3 => ?_)
  · skip
    refine r_iload_n (pc' := 17) g dX11_none_16 rfl rfl ?_
    refine r_ifge (pc' := 20) (tgt := 27) g dX11_none_17 rfl rfl ?_ ?_
    · skip
      refine r_iload_n (pc' := 28) g dX11_none_27 rfl rfl ?_
      refine r_ldc (pc' := 30) g dX11_none_28 rfl kc_X11_221 ?_
      refine r_cle (pc' := 33) (tgt := 40) g dX11_none_30 rfl rfl ?_ ?_
      · skip
        refine r_aload_n (pc' := 41) g dX11_none_40 rfl rfl ?_
        refine r_get (pc' := 44) g dX11_none_41 rfl fl_X11_76 lC_0 (eC_0 w _ _) rfl ?_
        refine r_aload_n (pc' := 45) g dX11_none_44 rfl rfl ?_
        refine r_callVi (pc' := 48) (As := []) (rest := [rf w 51]) g dX11_none_45 rfl ml_X11_159 mw_X11_theSet mv_X11_theSet (Nat.le_of_ble_eq_true rfl) (c_X11_theSet _ w N  M2) rfl lC_0 (eC_0 w _ _) rfl rfl (Nat.le_of_ble_eq_true rfl) (fun r4 M5 => ?_)
        refine r_iload_n (pc' := 49) g dX11_none_48 rfl rfl ?_
        refine r_callVi (pc' := 52) (As := [.int r4, .int a1]) (rest := []) g dX11_none_49 rfl ml_X11_222 mw_X0_fewest mv_X0_fewest (Nat.le_of_ble_eq_true rfl) (c_X0_fewest _ w N r4 a1 M5) rfl lC_51 (eC_51 w _ _) rfl rfl (Nat.le_of_ble_eq_true rfl) (fun r6 M7 => ?_)
        refine r_istore_n (pc' := 53) (L' := [rf w 0, .int a1, .int a2, .int r6]) g dX11_none_52 rfl n3 rfl rfl ?_
        refine r_iload_n (pc' := 54) g dX11_none_53 rfl rfl ?_
        refine r_ifne (pc' := 57) (tgt := 60) g dX11_none_54 rfl rfl ?_ ?_
        · skip
          refine r_iload_n (pc' := 61) g dX11_none_60 rfl rfl ?_
          refine r_ifne (pc' := 64) (tgt := 71) g dX11_none_61 rfl rfl ?_ ?_
          · skip
            refine r_iload_n (pc' := 72) g dX11_none_71 rfl rfl ?_
            exact r_iret g e3 dX11_none_72
          · skip
            refine r_iload_n (pc' := 65) g dX11_none_64 rfl rfl ?_
            refine r_callSi (pc' := 68) (As := [.int r6]) (rest := []) g dX11_none_65 rfl ml_X11_225 mw_J6_bitCount_0f7a4 ms_J6_bitCount_0f7a4 (Nat.le_of_ble_eq_true rfl) (c_J6_bitCount_0f7a4 _ w N r6 M7) rfl rfl (Nat.le_of_ble_eq_true rfl) (fun r8 M9 => ?_)
            refine r_goto (tgt := 72) g dX11_none_68 rfl ?_
            exact r_iret g e3 dX11_none_72
        · skip
          refine r_bipush (pc' := 59) (v := -9) g dX11_none_57 rfl rfl ?_
          exact r_iret g e3 dX11_none_59
      · skip
        refine r_aload_n (pc' := 34) g dX11_none_33 rfl rfl ?_
        refine r_bipush (pc' := 36) (v := -6) g dX11_none_34 rfl rfl ?_
        refine r_callVi (pc' := 39) (As := [.int (-6)]) (rest := []) g dX11_none_36 rfl ml_X11_80 mw_X11_refuse mv_X11_refuse (Nat.le_of_ble_eq_true rfl) (c_X11_refuse _ w N (-6) M2) rfl lC_0 (eC_0 w _ _) rfl rfl (Nat.le_of_ble_eq_true rfl) (fun r10 M11 => ?_)
        exact r_iret g e3 dX11_none_39
    · skip
      refine r_aload_n (pc' := 21) g dX11_none_20 rfl rfl ?_
      refine r_bipush (pc' := 23) (v := -4) g dX11_none_21 rfl rfl ?_
      refine r_callVi (pc' := 26) (As := [.int (-4)]) (rest := []) g dX11_none_23 rfl ml_X11_80 mw_X11_refuse mv_X11_refuse (Nat.le_of_ble_eq_true rfl) (c_X11_refuse _ w N (-4) M2) rfl lC_0 (eC_0 w _ _) rfl rfl (Nat.le_of_ble_eq_true rfl) (fun r12 M13 => ?_)
      exact r_iret g e3 dX11_none_26
  refine r_ifeq (pc' := 4) (tgt := 16) g dX11_none_1 rfl rfl ?_ ?_
  · skip
    exact r_weak (Ls2 (Ls2 (Ls2 (Ls1 Ls0)))) (hjn3 () M)
  · skip
    refine r_iload_n (pc' := 5) g dX11_none_4 rfl rfl ?_
    refine r_iconst (pc' := 6) (v := 1) g dX11_none_5 rfl rfl ?_
    refine r_ceq (pc' := 9) (tgt := 16) g dX11_none_6 rfl rfl ?_ ?_
    · skip
      exact r_weak (Ls2 (Ls2 (Ls2 (Ls1 Ls0)))) (hjn3 () M)
    · skip
      refine r_aload_n (pc' := 10) g dX11_none_9 rfl rfl ?_
      refine r_bipush (pc' := 12) (v := -2) g dX11_none_10 rfl rfl ?_
      refine r_callVi (pc' := 15) (As := [.int (-2)]) (rest := []) g dX11_none_12 rfl ml_X11_80 mw_X11_refuse mv_X11_refuse (Nat.le_of_ble_eq_true rfl) (c_X11_refuse _ w N (-2) M) rfl lC_0 (eC_0 w _ _) rfl rfl (Nat.le_of_ble_eq_true rfl) (fun r14 M15 => ?_)
      exact r_iret g e3 dX11_none_15
def f_X11_year (N : Nat) (a1 : Int32) (M : Mm) : Rs :=
  bd (f_X10_isWorld N a1 M) fun r1 M2 =>
  (if r1 = 0 then
    (bd (f_X11_refuse N (-1) M2) fun r7 M8 =>
    (some (r7, M8)))
  else
    (if (M2.1 1 6) < 60 then
      (if inb a1 16 then
      (if inb a1 16 then
      (lt' (wI M2 13 (ix a1) ((M2.1 13 (ix a1)) + 1)) fun M3 =>
      (lt' (wI M3 1 6 ((M3.1 1 6) + 1)) fun M4 =>
      (some (M4.1 1 6, M4)))) else none) else none)
    else
      (bd (f_X11_refuse N (-6) M2) fun r5 M6 =>
      (some (r5, M6)))))

set_option maxHeartbeats 4000000 in
set_option maxRecDepth 100000 in
theorem c_X11_year (l : Launch) (w : W0) (N : Nat) (a1 : Int32) (M : Mm) : Ct l KC w 1 yX11_year cX11_year 2 (some .int) [rf w 0, .int a1] M (f_X11_year N a1 M) := by
  refine ct_of [rf w 0, .int a1] (by decide) (Nat.le_of_ble_eq_true rfl) rfl (fun Z e1 e2 e3 g => ?_)
  have g : Good KC w Z cX11_year RX11 1 := g
  unfold f_X11_year
  refine r_aload_n (pc' := 1) g dX11_year_0 rfl rfl ?_
  refine r_get (pc' := 4) g dX11_year_1 rfl fl_X11_12 lC_0 (eC_0 w _ _) rfl ?_
  refine r_iload_n (pc' := 5) g dX11_year_4 rfl rfl ?_
  refine r_callVi (pc' := 8) (As := [.int a1]) (rest := []) g dX11_year_5 rfl ml_X11_166 mw_X10_isWorld mv_X10_isWorld (Nat.le_of_ble_eq_true rfl) (c_X10_isWorld _ w N a1 M) rfl lC_1 (eC_1 w _ _) rfl rfl (Nat.le_of_ble_eq_true rfl) (fun r1 M2 => ?_)
  refine r_ifne (pc' := 11) (tgt := 17) g dX11_year_8 rfl rfl ?_ ?_
  · skip
    refine r_aload_n (pc' := 18) g dX11_year_17 rfl rfl ?_
    refine r_get (pc' := 21) g dX11_year_18 rfl fl_X11_12 lC_0 (eC_0 w _ _) rfl ?_
    refine r_get (pc' := 24) g dX11_year_21 rfl fl_X11_230 lC_1 (eC_1 w _ _) rfl ?_
    refine r_bipush (pc' := 26) (v := 60) g dX11_year_24 rfl rfl ?_
    refine r_clt (pc' := 29) (tgt := 36) g dX11_year_26 rfl rfl ?_ ?_
    · skip
      refine r_aload_n (pc' := 37) g dX11_year_36 rfl rfl ?_
      refine r_get (pc' := 40) g dX11_year_37 rfl fl_X11_12 lC_0 (eC_0 w _ _) rfl ?_
      refine r_get (pc' := 43) g dX11_year_40 rfl fl_X11_233 lC_1 (eC_1 w _ _) rfl ?_
      refine r_iload_n (pc' := 44) g dX11_year_43 rfl rfl ?_
      refine r_dup2 (pc' := 45) g dX11_year_44 rfl ?_
      refine r_iald (pc' := 46) g dX11_year_45 rfl lC_13 (eC_13 w _ _) ?_
      refine r_iconst (pc' := 47) (v := 1) g dX11_year_46 rfl rfl ?_
      refine r_iadd (pc' := 48) g dX11_year_47 rfl ?_
      refine r_iast (pc' := 49) g dX11_year_48 rfl lC_13 (fun m => eC_13 w m _) ?_
      refine r_ltM (fun M3 => ?_)
      refine r_aload_n (pc' := 50) g dX11_year_49 rfl rfl ?_
      refine r_get (pc' := 53) g dX11_year_50 rfl fl_X11_12 lC_0 (eC_0 w _ _) rfl ?_
      refine r_dupa (pc' := 54) g dX11_year_53 rfl ?_
      refine r_get (pc' := 57) g dX11_year_54 rfl fl_X11_230 lC_1 (eC_1 w _ _) rfl ?_
      refine r_iconst (pc' := 58) (v := 1) g dX11_year_57 rfl rfl ?_
      refine r_iadd (pc' := 59) g dX11_year_58 rfl ?_
      refine r_put (pc' := 62) g dX11_year_59 rfl fl_X11_230 rfl lC_1 (eC_1 w _ _) (Nat.le_of_ble_eq_true rfl) (sC_1_6 w _ _ _) ?_
      refine r_ltM (fun M4 => ?_)
      refine r_aload_n (pc' := 63) g dX11_year_62 rfl rfl ?_
      refine r_get (pc' := 66) g dX11_year_63 rfl fl_X11_12 lC_0 (eC_0 w _ _) rfl ?_
      refine r_get (pc' := 69) g dX11_year_66 rfl fl_X11_230 lC_1 (eC_1 w _ _) rfl ?_
      exact r_iret g e3 dX11_year_69
    · skip
      refine r_aload_n (pc' := 30) g dX11_year_29 rfl rfl ?_
      refine r_bipush (pc' := 32) (v := -6) g dX11_year_30 rfl rfl ?_
      refine r_callVi (pc' := 35) (As := [.int (-6)]) (rest := []) g dX11_year_32 rfl ml_X11_80 mw_X11_refuse mv_X11_refuse (Nat.le_of_ble_eq_true rfl) (c_X11_refuse _ w N (-6) M2) rfl lC_0 (eC_0 w _ _) rfl rfl (Nat.le_of_ble_eq_true rfl) (fun r5 M6 => ?_)
      exact r_iret g e3 dX11_year_35
  · skip
    refine r_aload_n (pc' := 12) g dX11_year_11 rfl rfl ?_
    refine r_iconst (pc' := 13) (v := -1) g dX11_year_12 rfl rfl ?_
    refine r_callVi (pc' := 16) (As := [.int (-1)]) (rest := []) g dX11_year_13 rfl ml_X11_80 mw_X11_refuse mv_X11_refuse (Nat.le_of_ble_eq_true rfl) (c_X11_refuse _ w N (-1) M2) rfl lC_0 (eC_0 w _ _) rfl rfl (Nat.le_of_ble_eq_true rfl) (fun r7 M8 => ?_)
    exact r_iret g e3 dX11_year_16
def B_X10_yearsIn_4 (N : Nat) (p1 : Int32) (G : Int32 → Mm → Rs) (rec : (Int32 × Int32) → Mm → Rs) (s : Int32 × Int32) (M : Mm) : Rs :=
  if s.2 < 16 then
      (if ((p1 >>> (s.2 &&& 31)) &&& 1) = 1 then
        (if inb s.2 16 then
        (lt' (s.1 + (M.1 13 (ix s.2))) fun x1 =>
        (rec (x1, s.2 + 1) M)) else none)
      else
        (rec (s.1, s.2 + 1) M))
    else
      (G s.1 M)

def f_X10_yearsIn (N : Nat) (a1 : Int32) (M : Mm) : Rs :=
  itr (B_X10_yearsIn_4 N a1 fun z2 M3 =>
  (some (z2, M3))) N (0, 0) M

set_option maxHeartbeats 4000000 in
set_option maxRecDepth 100000 in
theorem s_X10_yearsIn_4 {w : W0} {Z : Zx} (g : Good KC w Z cX10_yearsIn RX10 0) (e2 : Z.2.2.1 = 4) (e3 : Z.2.2.2 = (some .int)) (N : Nat) (p1 : Int32) (G : Int32 → Mm → Rs) (kG : ∀ (x : Int32) (M : Mm), Sim KC w Z 34 [.null, .null, .int x, .null] [] M (G x M)) : ∀ (n : Nat) (s : Int32 × Int32) (M : Mm), Sim KC w Z 4 [rf w 1, .int p1, .int s.1, .int s.2] [] M (itr (B_X10_yearsIn_4 N p1 G) n s M) := by
  have n2 : 2 < Z.2.2.1 := by rw [e2]; decide
  have n3 : 3 < Z.2.2.1 := by rw [e2]; decide
  refine r_itr (Lf := fun (s : Int32 × Int32) => [rf w 1, .int p1, .int s.1, .int s.2]) (fun rec hr s M => ?_)
  unfold B_X10_yearsIn_4
  refine r_iload_n (pc' := 5) g dX10_yearsIn_4 rfl rfl ?_
  refine r_bipush (pc' := 7) (v := 16) g dX10_yearsIn_5 rfl rfl ?_
  refine r_cge (pc' := 10) (tgt := 34) g dX10_yearsIn_7 rfl rfl ?_ ?_
  · skip
    exact r_weak (Ls1 (Ls1 (Ls2 (Ls1 Ls0)))) (kG s.1 M)
  · skip
    refine r_iload_n (pc' := 11) g dX10_yearsIn_10 rfl rfl ?_
    refine r_iload_n (pc' := 12) g dX10_yearsIn_11 rfl rfl ?_
    refine r_ishr (pc' := 13) g dX10_yearsIn_12 rfl ?_
    refine r_iconst (pc' := 14) (v := 1) g dX10_yearsIn_13 rfl rfl ?_
    refine r_iand (pc' := 15) g dX10_yearsIn_14 rfl ?_
    refine r_iconst (pc' := 16) (v := 1) g dX10_yearsIn_15 rfl rfl ?_
    refine r_cne (pc' := 19) (tgt := 28) g dX10_yearsIn_16 rfl rfl ?_ ?_
    · skip
      refine r_iinc (pc' := 31) (b := 1) (L' := [rf w 1, .int p1, .int s.1, .int (s.2 + 1)]) g dX10_yearsIn_28 rfl rfl rfl n3 rfl rfl ?_
      refine r_goto (tgt := 4) g dX10_yearsIn_31 rfl ?_
      exact r_weak (Ls2 (Ls2 (Ls2 (Ls2 Ls0)))) (hr (s.1, s.2 + 1) M)
    · skip
      refine r_iload_n (pc' := 20) g dX10_yearsIn_19 rfl rfl ?_
      refine r_aload_n (pc' := 21) g dX10_yearsIn_20 rfl rfl ?_
      refine r_get (pc' := 24) g dX10_yearsIn_21 rfl fl_X10_38 lC_1 (eC_1 w _ _) rfl ?_
      refine r_iload_n (pc' := 25) g dX10_yearsIn_24 rfl rfl ?_
      refine r_iald (pc' := 26) g dX10_yearsIn_25 rfl lC_13 (eC_13 w _ _) ?_
      refine r_iadd (pc' := 27) g dX10_yearsIn_26 rfl ?_
      refine r_ltI (fun x1 => ?_)
      refine r_istore_n (pc' := 28) (L' := [rf w 1, .int p1, .int x1, .int s.2]) g dX10_yearsIn_27 rfl n2 rfl rfl ?_
      refine r_iinc (pc' := 31) (b := 1) (L' := [rf w 1, .int p1, .int x1, .int (s.2 + 1)]) g dX10_yearsIn_28 rfl rfl rfl n3 rfl rfl ?_
      refine r_goto (tgt := 4) g dX10_yearsIn_31 rfl ?_
      exact r_weak (Ls2 (Ls2 (Ls2 (Ls2 Ls0)))) (hr (x1, s.2 + 1) M)
set_option maxHeartbeats 4000000 in
set_option maxRecDepth 100000 in
theorem c_X10_yearsIn (l : Launch) (w : W0) (N : Nat) (a1 : Int32) (M : Mm) : Ct l KC w 0 yX10_yearsIn cX10_yearsIn 4 (some .int) [rf w 1, .int a1] M (f_X10_yearsIn N a1 M) := by
  refine ct_of [rf w 1, .int a1, .null, .null] (by decide) (Nat.le_of_ble_eq_true rfl) rfl (fun Z e1 e2 e3 g => ?_)
  have g : Good KC w Z cX10_yearsIn RX10 0 := g
  unfold f_X10_yearsIn
  have n2 : 2 < Z.2.2.1 := by rw [e2]; decide
  have n3 : 3 < Z.2.2.1 := by rw [e2]; decide
  refine r_iconst (pc' := 1) (v := 0) g dX10_yearsIn_0 rfl rfl ?_
  refine r_istore_n (pc' := 2) (L' := [rf w 1, .int a1, .int 0, .null]) g dX10_yearsIn_1 rfl n2 rfl rfl ?_
  refine r_iconst (pc' := 3) (v := 0) g dX10_yearsIn_2 rfl rfl ?_
  refine r_istore_n (pc' := 4) (L' := [rf w 1, .int a1, .int 0, .int 0]) g dX10_yearsIn_3 rfl n3 rfl rfl ?_
  refine r_weak (Ls2 (Ls2 (Ls2 (Ls2 Ls0)))) (s_X10_yearsIn_4 g e2 e3 N a1 _ (fun z2 M3 => ?_) N (0, 0) M)
  refine r_iload_n (pc' := 35) g dX10_yearsIn_34 rfl rfl ?_
  exact r_iret g e3 dX10_yearsIn_35
def f_X11_out (N : Nat) (M : Mm) : Rs :=
  bd (f_X11_theSet N  M) fun r1 M2 =>
  (bd (f_X10_yearsIn N r1 M2) fun r3 M4 =>
  (some ((M.1 1 6) - r3, M4)))

set_option maxHeartbeats 4000000 in
set_option maxRecDepth 100000 in
theorem c_X11_out (l : Launch) (w : W0) (N : Nat) (M : Mm) : Ct l KC w 3 yX11_out cX11_out 1 (some .int) [rf w 0] M (f_X11_out N M) := by
  refine ct_of [rf w 0] (by decide) (Nat.le_of_ble_eq_true rfl) rfl (fun Z e1 e2 e3 g => ?_)
  have g : Good KC w Z cX11_out RX11 3 := g
  unfold f_X11_out
  refine r_aload_n (pc' := 1) g dX11_out_0 rfl rfl ?_
  refine r_get (pc' := 4) g dX11_out_1 rfl fl_X11_12 lC_0 (eC_0 w _ _) rfl ?_
  refine r_get (pc' := 7) g dX11_out_4 rfl fl_X11_230 lC_1 (eC_1 w _ _) rfl ?_
  refine r_aload_n (pc' := 8) g dX11_out_7 rfl rfl ?_
  refine r_get (pc' := 11) g dX11_out_8 rfl fl_X11_12 lC_0 (eC_0 w _ _) rfl ?_
  refine r_aload_n (pc' := 12) g dX11_out_11 rfl rfl ?_
  refine r_callVi (pc' := 15) (As := []) (rest := [rf w 1, .int (M.1 1 6)]) g dX11_out_12 rfl ml_X11_159 mw_X11_theSet mv_X11_theSet (Nat.le_of_ble_eq_true rfl) (c_X11_theSet _ w N  M) rfl lC_0 (eC_0 w _ _) rfl rfl (Nat.le_of_ble_eq_true rfl) (fun r1 M2 => ?_)
  refine r_callVi (pc' := 18) (As := [.int r1]) (rest := [.int (M.1 1 6)]) g dX11_out_15 rfl ml_X11_236 mw_X10_yearsIn mv_X10_yearsIn (Nat.le_of_ble_eq_true rfl) (c_X10_yearsIn _ w N r1 M2) rfl lC_1 (eC_1 w _ _) rfl rfl (Nat.le_of_ble_eq_true rfl) (fun r3 M4 => ?_)
  refine r_isub (pc' := 19) g dX11_out_18 rfl ?_
  exact r_iret g e3 dX11_out_19
def B_X11_dearYears_45 (N : Nat) (p1 : Int32) (p3 : Int32) (G : Int32 → Mm → Rs) (rec : (Int32 × Int32) → Mm → Rs) (s : Int32 × Int32) (M : Mm) : Rs :=
  if s.2 < 16 then
      (if inb s.2 16 then
      (if 0 < (M.1 13 (ix s.2)) then
        (bd (f_X3_of N p1 s.2 M) fun r7 M8 =>
        (if p3 < r7 then
          (lt' (s.1 + (M.1 13 (ix s.2))) fun x9 =>
          (rec (x9, s.2 + 1) M8))
        else
          (rec (s.1, s.2 + 1) M8)))
      else
        (rec (s.1, s.2 + 1) M)) else none)
    else
      (G s.1 M)

def f_X11_dearYears (N : Nat) (a1 : Int32) (M : Mm) : Rs :=
  bd (f_X10_isPlan N a1 M) fun r1 M2 =>
  (if r1 = 0 then
    (bd (f_X11_refuse N (-1) M2) fun r12 M13 =>
    (some (r12, M13)))
  else
    (bd (f_X11_theSet N  M2) fun r3 M4 =>
    (if r3 = 0 then
      (some ((-9), M4))
    else
      (bd (f_X3_worstOver N a1 r3 M4) fun r5 M6 =>
      (itr (B_X11_dearYears_45 N a1 r5 fun z10 M11 =>
      (some (z10, M11))) N (0, 0) M6)))))

set_option maxHeartbeats 4000000 in
set_option maxRecDepth 100000 in
theorem s_X11_dearYears_45 {w : W0} {Z : Zx} (g : Good KC w Z cX11_dearYears RX11 6) (e2 : Z.2.2.1 = 7) (e3 : Z.2.2.2 = (some .int)) (N : Nat) (p1 : Int32) (p3 : Int32) (G : Int32 → Mm → Rs) (kG : ∀ (x : Int32) (M : Mm), Sim KC w Z 96 [.null, .null, .null, .null, .int x, .null, .null] [] M (G x M)) : ∀ (n : Nat) (s : Int32 × Int32) (M : Mm), Sim KC w Z 45 [rf w 0, .int p1, .null, .int p3, .int s.1, .int s.2, .null] [] M (itr (B_X11_dearYears_45 N p1 p3 G) n s M) := by
  have n4 : 4 < Z.2.2.1 := by rw [e2]; decide
  have n5 : 5 < Z.2.2.1 := by rw [e2]; decide
  have n6 : 6 < Z.2.2.1 := by rw [e2]; decide
  refine r_itr (Lf := fun (s : Int32 × Int32) => [rf w 0, .int p1, .null, .int p3, .int s.1, .int s.2, .null]) (fun rec hr s M => ?_)
  unfold B_X11_dearYears_45
  refine r_iload (pc' := 47) g dX11_dearYears_45 rfl rfl ?_
  refine r_bipush (pc' := 49) (v := 16) g dX11_dearYears_47 rfl rfl ?_
  refine r_cge (pc' := 52) (tgt := 96) g dX11_dearYears_49 rfl rfl ?_ ?_
  · skip
    exact r_weak (Ls1 (Ls1 (Ls1 (Ls1 (Ls2 (Ls1 (Ls1 Ls0))))))) (kG s.1 M)
  · skip
    refine r_aload_n (pc' := 53) g dX11_dearYears_52 rfl rfl ?_
    refine r_get (pc' := 56) g dX11_dearYears_53 rfl fl_X11_12 lC_0 (eC_0 w _ _) rfl ?_
    refine r_get (pc' := 59) g dX11_dearYears_56 rfl fl_X11_233 lC_1 (eC_1 w _ _) rfl ?_
    refine r_iload (pc' := 61) g dX11_dearYears_59 rfl rfl ?_
    refine r_iald (pc' := 62) g dX11_dearYears_61 rfl lC_13 (eC_13 w _ _) ?_
    refine r_istore (pc' := 64) (L' := [rf w 0, .int p1, .null, .int p3, .int s.1, .int s.2, .int (M.1 13 (ix s.2))]) g dX11_dearYears_62 rfl n6 rfl rfl ?_
    refine r_iload (pc' := 66) g dX11_dearYears_64 rfl rfl ?_
    refine r_ifle (pc' := 69) (tgt := 90) g dX11_dearYears_66 rfl rfl ?_ ?_
    · skip
      refine r_iinc (pc' := 93) (b := 1) (L' := [rf w 0, .int p1, .null, .int p3, .int s.1, .int (s.2 + 1), .int (M.1 13 (ix s.2))]) g dX11_dearYears_90 rfl rfl rfl n5 rfl rfl ?_
      refine r_goto (tgt := 45) g dX11_dearYears_93 rfl ?_
      exact r_weak (Ls2 (Ls2 (Ls1 (Ls2 (Ls2 (Ls2 (Ls1 Ls0))))))) (hr (s.1, s.2 + 1) M)
    · skip
      refine r_aload_n (pc' := 70) g dX11_dearYears_69 rfl rfl ?_
      refine r_get (pc' := 73) g dX11_dearYears_70 rfl fl_X11_60 lC_0 (eC_0 w _ _) rfl ?_
      refine r_iload_n (pc' := 74) g dX11_dearYears_73 rfl rfl ?_
      refine r_iload (pc' := 76) g dX11_dearYears_74 rfl rfl ?_
      refine r_callVi (pc' := 79) (As := [.int p1, .int s.2]) (rest := []) g dX11_dearYears_76 rfl ml_X11_169 mw_X3_of mv_X3_of (Nat.le_of_ble_eq_true rfl) (c_X3_of _ w N p1 s.2 M) rfl lC_38 (eC_38 w _ _) rfl rfl (Nat.le_of_ble_eq_true rfl) (fun r7 M8 => ?_)
      refine r_iload_n (pc' := 80) g dX11_dearYears_79 rfl rfl ?_
      refine r_cle (pc' := 83) (tgt := 90) g dX11_dearYears_80 rfl rfl ?_ ?_
      · skip
        refine r_iinc (pc' := 93) (b := 1) (L' := [rf w 0, .int p1, .null, .int p3, .int s.1, .int (s.2 + 1), .int (M.1 13 (ix s.2))]) g dX11_dearYears_90 rfl rfl rfl n5 rfl rfl ?_
        refine r_goto (tgt := 45) g dX11_dearYears_93 rfl ?_
        exact r_weak (Ls2 (Ls2 (Ls1 (Ls2 (Ls2 (Ls2 (Ls1 Ls0))))))) (hr (s.1, s.2 + 1) M8)
      · skip
        refine r_iload (pc' := 85) g dX11_dearYears_83 rfl rfl ?_
        refine r_iload (pc' := 87) g dX11_dearYears_85 rfl rfl ?_
        refine r_iadd (pc' := 88) g dX11_dearYears_87 rfl ?_
        refine r_ltI (fun x9 => ?_)
        refine r_istore (pc' := 90) (L' := [rf w 0, .int p1, .null, .int p3, .int x9, .int s.2, .int (M.1 13 (ix s.2))]) g dX11_dearYears_88 rfl n4 rfl rfl ?_
        refine r_iinc (pc' := 93) (b := 1) (L' := [rf w 0, .int p1, .null, .int p3, .int x9, .int (s.2 + 1), .int (M.1 13 (ix s.2))]) g dX11_dearYears_90 rfl rfl rfl n5 rfl rfl ?_
        refine r_goto (tgt := 45) g dX11_dearYears_93 rfl ?_
        exact r_weak (Ls2 (Ls2 (Ls1 (Ls2 (Ls2 (Ls2 (Ls1 Ls0))))))) (hr (x9, s.2 + 1) M8)
set_option maxHeartbeats 4000000 in
set_option maxRecDepth 100000 in
theorem c_X11_dearYears (l : Launch) (w : W0) (N : Nat) (a1 : Int32) (M : Mm) : Ct l KC w 6 yX11_dearYears cX11_dearYears 7 (some .int) [rf w 0, .int a1] M (f_X11_dearYears N a1 M) := by
  refine ct_of [rf w 0, .int a1, .null, .null, .null, .null, .null] (by decide) (Nat.le_of_ble_eq_true rfl) rfl (fun Z e1 e2 e3 g => ?_)
  have g : Good KC w Z cX11_dearYears RX11 6 := g
  unfold f_X11_dearYears
  have n2 : 2 < Z.2.2.1 := by rw [e2]; decide
  have n3 : 3 < Z.2.2.1 := by rw [e2]; decide
  have n4 : 4 < Z.2.2.1 := by rw [e2]; decide
  have n5 : 5 < Z.2.2.1 := by rw [e2]; decide
  refine r_aload_n (pc' := 1) g dX11_dearYears_0 rfl rfl ?_
  refine r_get (pc' := 4) g dX11_dearYears_1 rfl fl_X11_12 lC_0 (eC_0 w _ _) rfl ?_
  refine r_iload_n (pc' := 5) g dX11_dearYears_4 rfl rfl ?_
  refine r_callVi (pc' := 8) (As := [.int a1]) (rest := []) g dX11_dearYears_5 rfl ml_X11_163 mw_X10_isPlan mv_X10_isPlan (Nat.le_of_ble_eq_true rfl) (c_X10_isPlan _ w N a1 M) rfl lC_1 (eC_1 w _ _) rfl rfl (Nat.le_of_ble_eq_true rfl) (fun r1 M2 => ?_)
  refine r_ifne (pc' := 11) (tgt := 17) g dX11_dearYears_8 rfl rfl ?_ ?_
  · skip
    refine r_aload_n (pc' := 18) g dX11_dearYears_17 rfl rfl ?_
    refine r_callVi (pc' := 21) (As := []) (rest := []) g dX11_dearYears_18 rfl ml_X11_159 mw_X11_theSet mv_X11_theSet (Nat.le_of_ble_eq_true rfl) (c_X11_theSet _ w N  M2) rfl lC_0 (eC_0 w _ _) rfl rfl (Nat.le_of_ble_eq_true rfl) (fun r3 M4 => ?_)
    refine r_istore_n (pc' := 22) (L' := [rf w 0, .int a1, .int r3, .null, .null, .null, .null]) g dX11_dearYears_21 rfl n2 rfl rfl ?_
    refine r_iload_n (pc' := 23) g dX11_dearYears_22 rfl rfl ?_
    refine r_ifne (pc' := 26) (tgt := 29) g dX11_dearYears_23 rfl rfl ?_ ?_
    · skip
      refine r_aload_n (pc' := 30) g dX11_dearYears_29 rfl rfl ?_
      refine r_get (pc' := 33) g dX11_dearYears_30 rfl fl_X11_60 lC_0 (eC_0 w _ _) rfl ?_
      refine r_iload_n (pc' := 34) g dX11_dearYears_33 rfl rfl ?_
      refine r_iload_n (pc' := 35) g dX11_dearYears_34 rfl rfl ?_
      refine r_callVi (pc' := 38) (As := [.int a1, .int r3]) (rest := []) g dX11_dearYears_35 rfl ml_X11_176 mw_X3_worstOver mv_X3_worstOver (Nat.le_of_ble_eq_true rfl) (c_X3_worstOver _ w N a1 r3 M4) rfl lC_38 (eC_38 w _ _) rfl rfl (Nat.le_of_ble_eq_true rfl) (fun r5 M6 => ?_)
      refine r_istore_n (pc' := 39) (L' := [rf w 0, .int a1, .int r3, .int r5, .null, .null, .null]) g dX11_dearYears_38 rfl n3 rfl rfl ?_
      refine r_iconst (pc' := 40) (v := 0) g dX11_dearYears_39 rfl rfl ?_
      refine r_istore (pc' := 42) (L' := [rf w 0, .int a1, .int r3, .int r5, .int 0, .null, .null]) g dX11_dearYears_40 rfl n4 rfl rfl ?_
      refine r_iconst (pc' := 43) (v := 0) g dX11_dearYears_42 rfl rfl ?_
      refine r_istore (pc' := 45) (L' := [rf w 0, .int a1, .int r3, .int r5, .int 0, .int 0, .null]) g dX11_dearYears_43 rfl n5 rfl rfl ?_
      refine r_weak (Ls2 (Ls2 (Ls1 (Ls2 (Ls2 (Ls2 (Ls1 Ls0))))))) (s_X11_dearYears_45 g e2 e3 N a1 r5 _ (fun z10 M11 => ?_) N (0, 0) M6)
      refine r_iload (pc' := 98) g dX11_dearYears_96 rfl rfl ?_
      exact r_iret g e3 dX11_dearYears_98
    · skip
      refine r_bipush (pc' := 28) (v := -9) g dX11_dearYears_26 rfl rfl ?_
      exact r_iret g e3 dX11_dearYears_28
  · skip
    refine r_aload_n (pc' := 12) g dX11_dearYears_11 rfl rfl ?_
    refine r_iconst (pc' := 13) (v := -1) g dX11_dearYears_12 rfl rfl ?_
    refine r_callVi (pc' := 16) (As := [.int (-1)]) (rest := []) g dX11_dearYears_13 rfl ml_X11_80 mw_X11_refuse mv_X11_refuse (Nat.le_of_ble_eq_true rfl) (c_X11_refuse _ w N (-1) M2) rfl lC_0 (eC_0 w _ _) rfl rfl (Nat.le_of_ble_eq_true rfl) (fun r12 M13 => ?_)
    exact r_iret g e3 dX11_dearYears_16
def B_X11_drawn_26 (N : Nat) (p1 : Int32) (G : Unit → Mm → Rs) (rec : Int32 → Mm → Rs) (s : Int32) (M : Mm) : Rs :=
  if 4 < s then
      (G () M)
    else
      (bd (f_X10_worldsWith N s M) fun r1 M2 =>
      (bd (f_X10_yearsIn N r1 M2) fun r3 M4 =>
      (if r3 < p1 then
        (rec (s + 1) M4)
      else
        (some (s, M4)))))

def f_X11_drawn (N : Nat) (a1 : Int32) (M : Mm) : Rs :=
  if a1 < 0 then
    (bd (f_X11_refuse N (-4) M) fun r9 M10 =>
    (some (r9, M10)))
  else
    (if 60 < a1 then
      (bd (f_X11_refuse N (-6) M) fun r7 M8 =>
      (some (r7, M8)))
    else
      (itr (B_X11_drawn_26 N a1 fun z5 M6 =>
      (some ((-9), M6))) N 0 M))

set_option maxHeartbeats 4000000 in
set_option maxRecDepth 100000 in
theorem s_X11_drawn_26 {w : W0} {Z : Zx} (g : Good KC w Z cX11_drawn RX11 2) (e2 : Z.2.2.1 = 3) (e3 : Z.2.2.2 = (some .int)) (N : Nat) (p1 : Int32) (G : Unit → Mm → Rs) (kG : ∀ (x : Unit) (M : Mm), Sim KC w Z 58 [.null, .null, .null] [] M (G x M)) : ∀ (n : Nat) (s : Int32) (M : Mm), Sim KC w Z 26 [rf w 0, .int p1, .int s] [] M (itr (B_X11_drawn_26 N p1 G) n s M) := by
  have n2 : 2 < Z.2.2.1 := by rw [e2]; decide
  refine r_itr (Lf := fun (s : Int32) => [rf w 0, .int p1, .int s]) (fun rec hr s M => ?_)
  unfold B_X11_drawn_26
  refine r_iload_n (pc' := 27) g dX11_drawn_26 rfl rfl ?_
  refine r_iconst (pc' := 28) (v := 4) g dX11_drawn_27 rfl rfl ?_
  refine r_cgt (pc' := 31) (tgt := 58) g dX11_drawn_28 rfl rfl ?_ ?_
  · skip
    exact r_weak (Ls1 (Ls1 (Ls1 Ls0))) (kG () M)
  · skip
    refine r_aload_n (pc' := 32) g dX11_drawn_31 rfl rfl ?_
    refine r_get (pc' := 35) g dX11_drawn_32 rfl fl_X11_12 lC_0 (eC_0 w _ _) rfl ?_
    refine r_aload_n (pc' := 36) g dX11_drawn_35 rfl rfl ?_
    refine r_get (pc' := 39) g dX11_drawn_36 rfl fl_X11_12 lC_0 (eC_0 w _ _) rfl ?_
    refine r_iload_n (pc' := 40) g dX11_drawn_39 rfl rfl ?_
    refine r_callVi (pc' := 43) (As := [.int s]) (rest := [rf w 1]) g dX11_drawn_40 rfl ml_X11_212 mw_X10_worldsWith mv_X10_worldsWith (Nat.le_of_ble_eq_true rfl) (c_X10_worldsWith _ w N s M) rfl lC_1 (eC_1 w _ _) rfl rfl (Nat.le_of_ble_eq_true rfl) (fun r1 M2 => ?_)
    refine r_callVi (pc' := 46) (As := [.int r1]) (rest := []) g dX11_drawn_43 rfl ml_X11_236 mw_X10_yearsIn mv_X10_yearsIn (Nat.le_of_ble_eq_true rfl) (c_X10_yearsIn _ w N r1 M2) rfl lC_1 (eC_1 w _ _) rfl rfl (Nat.le_of_ble_eq_true rfl) (fun r3 M4 => ?_)
    refine r_iload_n (pc' := 47) g dX11_drawn_46 rfl rfl ?_
    refine r_clt (pc' := 50) (tgt := 52) g dX11_drawn_47 rfl rfl ?_ ?_
    · skip
      refine r_iinc (pc' := 55) (b := 1) (L' := [rf w 0, .int p1, .int (s + 1)]) g dX11_drawn_52 rfl rfl rfl n2 rfl rfl ?_
      refine r_goto (tgt := 26) g dX11_drawn_55 rfl ?_
      exact r_weak (Ls2 (Ls2 (Ls2 Ls0))) (hr (s + 1) M4)
    · skip
      refine r_iload_n (pc' := 51) g dX11_drawn_50 rfl rfl ?_
      exact r_iret g e3 dX11_drawn_51
set_option maxHeartbeats 4000000 in
set_option maxRecDepth 100000 in
theorem c_X11_drawn (l : Launch) (w : W0) (N : Nat) (a1 : Int32) (M : Mm) : Ct l KC w 2 yX11_drawn cX11_drawn 3 (some .int) [rf w 0, .int a1] M (f_X11_drawn N a1 M) := by
  refine ct_of [rf w 0, .int a1, .null] (by decide) (Nat.le_of_ble_eq_true rfl) rfl (fun Z e1 e2 e3 g => ?_)
  have g : Good KC w Z cX11_drawn RX11 2 := g
  unfold f_X11_drawn
  have n2 : 2 < Z.2.2.1 := by rw [e2]; decide
  refine r_iload_n (pc' := 1) g dX11_drawn_0 rfl rfl ?_
  refine r_ifge (pc' := 4) (tgt := 11) g dX11_drawn_1 rfl rfl ?_ ?_
  · skip
    refine r_iload_n (pc' := 12) g dX11_drawn_11 rfl rfl ?_
    refine r_bipush (pc' := 14) (v := 60) g dX11_drawn_12 rfl rfl ?_
    refine r_cle (pc' := 17) (tgt := 24) g dX11_drawn_14 rfl rfl ?_ ?_
    · skip
      refine r_iconst (pc' := 25) (v := 0) g dX11_drawn_24 rfl rfl ?_
      refine r_istore_n (pc' := 26) (L' := [rf w 0, .int a1, .int 0]) g dX11_drawn_25 rfl n2 rfl rfl ?_
      refine r_weak (Ls2 (Ls2 (Ls2 Ls0))) (s_X11_drawn_26 g e2 e3 N a1 _ (fun z5 M6 => ?_) N 0 M)
      refine r_bipush (pc' := 60) (v := -9) g dX11_drawn_58 rfl rfl ?_
      exact r_iret g e3 dX11_drawn_60
    · skip
      refine r_aload_n (pc' := 18) g dX11_drawn_17 rfl rfl ?_
      refine r_bipush (pc' := 20) (v := -6) g dX11_drawn_18 rfl rfl ?_
      refine r_callVi (pc' := 23) (As := [.int (-6)]) (rest := []) g dX11_drawn_20 rfl ml_X11_80 mw_X11_refuse mv_X11_refuse (Nat.le_of_ble_eq_true rfl) (c_X11_refuse _ w N (-6) M) rfl lC_0 (eC_0 w _ _) rfl rfl (Nat.le_of_ble_eq_true rfl) (fun r7 M8 => ?_)
      exact r_iret g e3 dX11_drawn_23
  · skip
    refine r_aload_n (pc' := 5) g dX11_drawn_4 rfl rfl ?_
    refine r_bipush (pc' := 7) (v := -4) g dX11_drawn_5 rfl rfl ?_
    refine r_callVi (pc' := 10) (As := [.int (-4)]) (rest := []) g dX11_drawn_7 rfl ml_X11_80 mw_X11_refuse mv_X11_refuse (Nat.le_of_ble_eq_true rfl) (c_X11_refuse _ w N (-4) M) rfl lC_0 (eC_0 w _ _) rfl rfl (Nat.le_of_ble_eq_true rfl) (fun r9 M10 => ?_)
    exact r_iret g e3 dX11_drawn_10
def B_X10_copya_56 (N : Nat) (G : Unit → Mm → Rs) (rec : Int32 → Mm → Rs) (s : Int32) (M : Mm) : Rs :=
  if s < 4 then
      (if inb s 4 then
      (if inb s 4 then
      (bd (f_X7_copy N (18 + 2 * ix s) (5 + 2 * ix s) M) fun r8 M9 =>
      (rec (s + 1) M9)) else none) else none)
    else
      (G () M)

def f_X10_copya (N : Nat) (M : Mm) : Rs :=
  lt' (wI M 14 0 (M.1 1 0)) fun M1 =>
  (lt' (wR M1 15 (va_cpy (M1.1 2) (M1.1 15) 0 0 43)) fun M2 =>
  (lt' (wI M2 14 2 (M2.1 1 2)) fun M3 =>
  (lt' (wI M3 14 3 (M3.1 1 3)) fun M4 =>
  (lt' (wR M4 16 (va_cpy (M4.1 3) (M4.1 16) 0 0 12)) fun M5 =>
  (itr (B_X10_copya_56 N fun z10 M11 =>
  (lt' (wI M11 14 6 (M11.1 1 6)) fun M12 =>
  (lt' (wR M12 26 (va_cpy (M12.1 13) (M12.1 26) 0 0 16)) fun M13 =>
  (some (0, M13))))) N 0 M5)))))

set_option maxHeartbeats 4000000 in
set_option maxRecDepth 100000 in
theorem s_X10_copya_56 {w : W0} {Z : Zx} (g : Good KC w Z cX10_copy RX10 2) (e2 : Z.2.2.1 = 3) (e3 : Z.2.2.2 = none) (N : Nat) (G : Unit → Mm → Rs) (kG : ∀ (x : Unit) (M : Mm), Sim KC w Z 82 [rf w 14, rf w 1, .null] [] M (G x M)) : ∀ (n : Nat) (s : Int32) (M : Mm), Sim KC w Z 56 [rf w 14, rf w 1, .int s] [] M (itr (B_X10_copya_56 N G) n s M) := by
  have n2 : 2 < Z.2.2.1 := by rw [e2]; decide
  refine r_itr (Lf := fun (s : Int32) => [rf w 14, rf w 1, .int s]) (fun rec hr s M => ?_)
  unfold B_X10_copya_56
  refine r_iload_n (pc' := 57) g dX10_copy_56 rfl rfl ?_
  refine r_iconst (pc' := 58) (v := 4) g dX10_copy_57 rfl rfl ?_
  refine r_cge (pc' := 61) (tgt := 82) g dX10_copy_58 rfl rfl ?_ ?_
  · skip
    exact r_weak (Ls2 (Ls2 (Ls1 Ls0))) (kG () M)
  · skip
    refine r_aload_n (pc' := 62) g dX10_copy_61 rfl rfl ?_
    refine r_get (pc' := 65) g dX10_copy_62 rfl fl_X10_31 lC_14 (eC_14 w _ _) rfl ?_
    refine r_iload_n (pc' := 66) g dX10_copy_65 rfl rfl ?_
    refine r_aald (pc' := 67) g dX10_copy_66 rfl lC_17 (eC_17 w _ _) (fun q6 => ?_)
    refine r_aload_n (pc' := 68) g dX10_copy_67 rfl rfl ?_
    refine r_get (pc' := 71) g dX10_copy_68 rfl fl_X10_31 lC_1 (eC_1 w _ _) rfl ?_
    refine r_iload_n (pc' := 72) g dX10_copy_71 rfl rfl ?_
    refine r_aald (pc' := 73) g dX10_copy_72 rfl lC_4 (eC_4 w _ _) (fun q7 => ?_)
    refine r_callVv (pc' := 76) (As := [rf w (5 + 2 * ix s)]) (rest := []) g dX10_copy_73 rfl ml_X10_47 mw_X7_copy mv_X7_copy (Nat.le_of_ble_eq_true rfl) (c_X7_copy _ w N (18 + 2 * ix s) (5 + 2 * ix s) (rl_k q6) (rl_t q7) M) rfl (lC_r (rl_k q6)) (eC_r (rl_k q6) w _ _) rfl rfl (Nat.le_of_ble_eq_true rfl) (fun r8 M9 => ?_)
    refine r_iinc (pc' := 79) (b := 1) (L' := [rf w 14, rf w 1, .int (s + 1)]) g dX10_copy_76 rfl rfl rfl n2 rfl rfl ?_
    refine r_goto (tgt := 56) g dX10_copy_79 rfl ?_
    exact r_weak (Ls2 (Ls2 (Ls2 Ls0))) (hr (s + 1) M9)
set_option maxHeartbeats 4000000 in
set_option maxRecDepth 100000 in
theorem c_X10_copya (l : Launch) (w : W0) (N : Nat) (M : Mm) : Ct l KC w 2 yX10_copy cX10_copy 3 none [rf w 14, rf w 1] M (f_X10_copya N M) := by
  refine ct_of [rf w 14, rf w 1, .null] (by decide) (Nat.le_of_ble_eq_true rfl) rfl (fun Z e1 e2 e3 g => ?_)
  have g : Good KC w Z cX10_copy RX10 2 := g
  unfold f_X10_copya
  have n2 : 2 < Z.2.2.1 := by rw [e2]; decide
  refine r_aload_n (pc' := 1) g dX10_copy_0 rfl rfl ?_
  refine r_aload_n (pc' := 2) g dX10_copy_1 rfl rfl ?_
  refine r_get (pc' := 5) g dX10_copy_2 rfl fl_X10_9 lC_1 (eC_1 w _ _) rfl ?_
  refine r_put (pc' := 8) g dX10_copy_5 rfl fl_X10_9 rfl lC_14 (eC_14 w _ _) (Nat.le_of_ble_eq_true rfl) (sC_14_0 w _ _ _) ?_
  refine r_ltM (fun M1 => ?_)
  refine r_aload_n (pc' := 9) g dX10_copy_8 rfl rfl ?_
  refine r_get (pc' := 12) g dX10_copy_9 rfl fl_X10_15 lC_1 (eC_1 w _ _) rfl ?_
  refine r_iconst (pc' := 13) (v := 0) g dX10_copy_12 rfl rfl ?_
  refine r_aload_n (pc' := 14) g dX10_copy_13 rfl rfl ?_
  refine r_get (pc' := 17) g dX10_copy_14 rfl fl_X10_15 lC_14 (eC_14 w _ _) rfl ?_
  refine r_iconst (pc' := 18) (v := 0) g dX10_copy_17 rfl rfl ?_
  refine r_bipush (pc' := 20) (v := 43) g dX10_copy_18 rfl rfl ?_
  refine r_copy (pc' := 23) g dX10_copy_20 rfl ml_X10_41 ac_n ac_s ac_i lC_2 lC_15 (eC_2 w _ _) (fun m => eC_15 w m _) rfl (Nat.le_of_ble_eq_true rfl) ?_
  refine r_ltM (fun M2 => ?_)
  refine r_aload_n (pc' := 24) g dX10_copy_23 rfl rfl ?_
  refine r_aload_n (pc' := 25) g dX10_copy_24 rfl rfl ?_
  refine r_get (pc' := 28) g dX10_copy_25 rfl fl_X10_19 lC_1 (eC_1 w _ _) rfl ?_
  refine r_put (pc' := 31) g dX10_copy_28 rfl fl_X10_19 rfl lC_14 (eC_14 w _ _) (Nat.le_of_ble_eq_true rfl) (sC_14_2 w _ _ _) ?_
  refine r_ltM (fun M3 => ?_)
  refine r_aload_n (pc' := 32) g dX10_copy_31 rfl rfl ?_
  refine r_aload_n (pc' := 33) g dX10_copy_32 rfl rfl ?_
  refine r_get (pc' := 36) g dX10_copy_33 rfl fl_X10_22 lC_1 (eC_1 w _ _) rfl ?_
  refine r_put (pc' := 39) g dX10_copy_36 rfl fl_X10_22 rfl lC_14 (eC_14 w _ _) (Nat.le_of_ble_eq_true rfl) (sC_14_3 w _ _ _) ?_
  refine r_ltM (fun M4 => ?_)
  refine r_aload_n (pc' := 40) g dX10_copy_39 rfl rfl ?_
  refine r_get (pc' := 43) g dX10_copy_40 rfl fl_X10_25 lC_1 (eC_1 w _ _) rfl ?_
  refine r_iconst (pc' := 44) (v := 0) g dX10_copy_43 rfl rfl ?_
  refine r_aload_n (pc' := 45) g dX10_copy_44 rfl rfl ?_
  refine r_get (pc' := 48) g dX10_copy_45 rfl fl_X10_25 lC_14 (eC_14 w _ _) rfl ?_
  refine r_iconst (pc' := 49) (v := 0) g dX10_copy_48 rfl rfl ?_
  refine r_bipush (pc' := 51) (v := 12) g dX10_copy_49 rfl rfl ?_
  refine r_copy (pc' := 54) g dX10_copy_51 rfl ml_X10_41 ac_n ac_s ac_i lC_3 lC_16 (eC_3 w _ _) (fun m => eC_16 w m _) rfl (Nat.le_of_ble_eq_true rfl) ?_
  refine r_ltM (fun M5 => ?_)
  refine r_iconst (pc' := 55) (v := 0) g dX10_copy_54 rfl rfl ?_
  refine r_istore_n (pc' := 56) (L' := [rf w 14, rf w 1, .int 0]) g dX10_copy_55 rfl n2 rfl rfl ?_
  refine r_weak (Ls2 (Ls2 (Ls2 Ls0))) (s_X10_copya_56 g e2 e3 N _ (fun z10 M11 => ?_) N 0 M5)
  refine r_aload_n (pc' := 83) g dX10_copy_82 rfl rfl ?_
  refine r_aload_n (pc' := 84) g dX10_copy_83 rfl rfl ?_
  refine r_get (pc' := 87) g dX10_copy_84 rfl fl_X10_35 lC_1 (eC_1 w _ _) rfl ?_
  refine r_put (pc' := 90) g dX10_copy_87 rfl fl_X10_35 rfl lC_14 (eC_14 w _ _) (Nat.le_of_ble_eq_true rfl) (sC_14_6 w _ _ _) ?_
  refine r_ltM (fun M12 => ?_)
  refine r_aload_n (pc' := 91) g dX10_copy_90 rfl rfl ?_
  refine r_get (pc' := 94) g dX10_copy_91 rfl fl_X10_38 lC_1 (eC_1 w _ _) rfl ?_
  refine r_iconst (pc' := 95) (v := 0) g dX10_copy_94 rfl rfl ?_
  refine r_aload_n (pc' := 96) g dX10_copy_95 rfl rfl ?_
  refine r_get (pc' := 99) g dX10_copy_96 rfl fl_X10_38 lC_14 (eC_14 w _ _) rfl ?_
  refine r_iconst (pc' := 100) (v := 0) g dX10_copy_99 rfl rfl ?_
  refine r_bipush (pc' := 102) (v := 16) g dX10_copy_100 rfl rfl ?_
  refine r_copy (pc' := 105) g dX10_copy_102 rfl ml_X10_41 ac_n ac_s ac_i lC_13 lC_26 (eC_13 w _ _) (fun m => eC_26 w m _) rfl (Nat.le_of_ble_eq_true rfl) ?_
  refine r_ltM (fun M13 => ?_)
  exact r_vret g e3 dX10_copy_105
def B_X10_copyb_56 (N : Nat) (G : Unit → Mm → Rs) (rec : Int32 → Mm → Rs) (s : Int32) (M : Mm) : Rs :=
  if s < 4 then
      (if inb s 4 then
      (if inb s 4 then
      (bd (f_X7_copy N (5 + 2 * ix s) (18 + 2 * ix s) M) fun r8 M9 =>
      (rec (s + 1) M9)) else none) else none)
    else
      (G () M)

def f_X10_copyb (N : Nat) (M : Mm) : Rs :=
  lt' (wI M 1 0 (M.1 14 0)) fun M1 =>
  (lt' (wR M1 2 (va_cpy (M1.1 15) (M1.1 2) 0 0 43)) fun M2 =>
  (lt' (wI M2 1 2 (M2.1 14 2)) fun M3 =>
  (lt' (wI M3 1 3 (M3.1 14 3)) fun M4 =>
  (lt' (wR M4 3 (va_cpy (M4.1 16) (M4.1 3) 0 0 12)) fun M5 =>
  (itr (B_X10_copyb_56 N fun z10 M11 =>
  (lt' (wI M11 1 6 (M11.1 14 6)) fun M12 =>
  (lt' (wR M12 13 (va_cpy (M12.1 26) (M12.1 13) 0 0 16)) fun M13 =>
  (some (0, M13))))) N 0 M5)))))

set_option maxHeartbeats 4000000 in
set_option maxRecDepth 100000 in
theorem s_X10_copyb_56 {w : W0} {Z : Zx} (g : Good KC w Z cX10_copy RX10 2) (e2 : Z.2.2.1 = 3) (e3 : Z.2.2.2 = none) (N : Nat) (G : Unit → Mm → Rs) (kG : ∀ (x : Unit) (M : Mm), Sim KC w Z 82 [rf w 1, rf w 14, .null] [] M (G x M)) : ∀ (n : Nat) (s : Int32) (M : Mm), Sim KC w Z 56 [rf w 1, rf w 14, .int s] [] M (itr (B_X10_copyb_56 N G) n s M) := by
  have n2 : 2 < Z.2.2.1 := by rw [e2]; decide
  refine r_itr (Lf := fun (s : Int32) => [rf w 1, rf w 14, .int s]) (fun rec hr s M => ?_)
  unfold B_X10_copyb_56
  refine r_iload_n (pc' := 57) g dX10_copy_56 rfl rfl ?_
  refine r_iconst (pc' := 58) (v := 4) g dX10_copy_57 rfl rfl ?_
  refine r_cge (pc' := 61) (tgt := 82) g dX10_copy_58 rfl rfl ?_ ?_
  · skip
    exact r_weak (Ls2 (Ls2 (Ls1 Ls0))) (kG () M)
  · skip
    refine r_aload_n (pc' := 62) g dX10_copy_61 rfl rfl ?_
    refine r_get (pc' := 65) g dX10_copy_62 rfl fl_X10_31 lC_1 (eC_1 w _ _) rfl ?_
    refine r_iload_n (pc' := 66) g dX10_copy_65 rfl rfl ?_
    refine r_aald (pc' := 67) g dX10_copy_66 rfl lC_4 (eC_4 w _ _) (fun q6 => ?_)
    refine r_aload_n (pc' := 68) g dX10_copy_67 rfl rfl ?_
    refine r_get (pc' := 71) g dX10_copy_68 rfl fl_X10_31 lC_14 (eC_14 w _ _) rfl ?_
    refine r_iload_n (pc' := 72) g dX10_copy_71 rfl rfl ?_
    refine r_aald (pc' := 73) g dX10_copy_72 rfl lC_17 (eC_17 w _ _) (fun q7 => ?_)
    refine r_callVv (pc' := 76) (As := [rf w (18 + 2 * ix s)]) (rest := []) g dX10_copy_73 rfl ml_X10_47 mw_X7_copy mv_X7_copy (Nat.le_of_ble_eq_true rfl) (c_X7_copy _ w N (5 + 2 * ix s) (18 + 2 * ix s) (rl_t q6) (rl_k q7) M) rfl (lC_r (rl_t q6)) (eC_r (rl_t q6) w _ _) rfl rfl (Nat.le_of_ble_eq_true rfl) (fun r8 M9 => ?_)
    refine r_iinc (pc' := 79) (b := 1) (L' := [rf w 1, rf w 14, .int (s + 1)]) g dX10_copy_76 rfl rfl rfl n2 rfl rfl ?_
    refine r_goto (tgt := 56) g dX10_copy_79 rfl ?_
    exact r_weak (Ls2 (Ls2 (Ls2 Ls0))) (hr (s + 1) M9)
set_option maxHeartbeats 4000000 in
set_option maxRecDepth 100000 in
theorem c_X10_copyb (l : Launch) (w : W0) (N : Nat) (M : Mm) : Ct l KC w 2 yX10_copy cX10_copy 3 none [rf w 1, rf w 14] M (f_X10_copyb N M) := by
  refine ct_of [rf w 1, rf w 14, .null] (by decide) (Nat.le_of_ble_eq_true rfl) rfl (fun Z e1 e2 e3 g => ?_)
  have g : Good KC w Z cX10_copy RX10 2 := g
  unfold f_X10_copyb
  have n2 : 2 < Z.2.2.1 := by rw [e2]; decide
  refine r_aload_n (pc' := 1) g dX10_copy_0 rfl rfl ?_
  refine r_aload_n (pc' := 2) g dX10_copy_1 rfl rfl ?_
  refine r_get (pc' := 5) g dX10_copy_2 rfl fl_X10_9 lC_14 (eC_14 w _ _) rfl ?_
  refine r_put (pc' := 8) g dX10_copy_5 rfl fl_X10_9 rfl lC_1 (eC_1 w _ _) (Nat.le_of_ble_eq_true rfl) (sC_1_0 w _ _ _) ?_
  refine r_ltM (fun M1 => ?_)
  refine r_aload_n (pc' := 9) g dX10_copy_8 rfl rfl ?_
  refine r_get (pc' := 12) g dX10_copy_9 rfl fl_X10_15 lC_14 (eC_14 w _ _) rfl ?_
  refine r_iconst (pc' := 13) (v := 0) g dX10_copy_12 rfl rfl ?_
  refine r_aload_n (pc' := 14) g dX10_copy_13 rfl rfl ?_
  refine r_get (pc' := 17) g dX10_copy_14 rfl fl_X10_15 lC_1 (eC_1 w _ _) rfl ?_
  refine r_iconst (pc' := 18) (v := 0) g dX10_copy_17 rfl rfl ?_
  refine r_bipush (pc' := 20) (v := 43) g dX10_copy_18 rfl rfl ?_
  refine r_copy (pc' := 23) g dX10_copy_20 rfl ml_X10_41 ac_n ac_s ac_i lC_15 lC_2 (eC_15 w _ _) (fun m => eC_2 w m _) rfl (Nat.le_of_ble_eq_true rfl) ?_
  refine r_ltM (fun M2 => ?_)
  refine r_aload_n (pc' := 24) g dX10_copy_23 rfl rfl ?_
  refine r_aload_n (pc' := 25) g dX10_copy_24 rfl rfl ?_
  refine r_get (pc' := 28) g dX10_copy_25 rfl fl_X10_19 lC_14 (eC_14 w _ _) rfl ?_
  refine r_put (pc' := 31) g dX10_copy_28 rfl fl_X10_19 rfl lC_1 (eC_1 w _ _) (Nat.le_of_ble_eq_true rfl) (sC_1_2 w _ _ _) ?_
  refine r_ltM (fun M3 => ?_)
  refine r_aload_n (pc' := 32) g dX10_copy_31 rfl rfl ?_
  refine r_aload_n (pc' := 33) g dX10_copy_32 rfl rfl ?_
  refine r_get (pc' := 36) g dX10_copy_33 rfl fl_X10_22 lC_14 (eC_14 w _ _) rfl ?_
  refine r_put (pc' := 39) g dX10_copy_36 rfl fl_X10_22 rfl lC_1 (eC_1 w _ _) (Nat.le_of_ble_eq_true rfl) (sC_1_3 w _ _ _) ?_
  refine r_ltM (fun M4 => ?_)
  refine r_aload_n (pc' := 40) g dX10_copy_39 rfl rfl ?_
  refine r_get (pc' := 43) g dX10_copy_40 rfl fl_X10_25 lC_14 (eC_14 w _ _) rfl ?_
  refine r_iconst (pc' := 44) (v := 0) g dX10_copy_43 rfl rfl ?_
  refine r_aload_n (pc' := 45) g dX10_copy_44 rfl rfl ?_
  refine r_get (pc' := 48) g dX10_copy_45 rfl fl_X10_25 lC_1 (eC_1 w _ _) rfl ?_
  refine r_iconst (pc' := 49) (v := 0) g dX10_copy_48 rfl rfl ?_
  refine r_bipush (pc' := 51) (v := 12) g dX10_copy_49 rfl rfl ?_
  refine r_copy (pc' := 54) g dX10_copy_51 rfl ml_X10_41 ac_n ac_s ac_i lC_16 lC_3 (eC_16 w _ _) (fun m => eC_3 w m _) rfl (Nat.le_of_ble_eq_true rfl) ?_
  refine r_ltM (fun M5 => ?_)
  refine r_iconst (pc' := 55) (v := 0) g dX10_copy_54 rfl rfl ?_
  refine r_istore_n (pc' := 56) (L' := [rf w 1, rf w 14, .int 0]) g dX10_copy_55 rfl n2 rfl rfl ?_
  refine r_weak (Ls2 (Ls2 (Ls2 Ls0))) (s_X10_copyb_56 g e2 e3 N _ (fun z10 M11 => ?_) N 0 M5)
  refine r_aload_n (pc' := 83) g dX10_copy_82 rfl rfl ?_
  refine r_aload_n (pc' := 84) g dX10_copy_83 rfl rfl ?_
  refine r_get (pc' := 87) g dX10_copy_84 rfl fl_X10_35 lC_14 (eC_14 w _ _) rfl ?_
  refine r_put (pc' := 90) g dX10_copy_87 rfl fl_X10_35 rfl lC_1 (eC_1 w _ _) (Nat.le_of_ble_eq_true rfl) (sC_1_6 w _ _ _) ?_
  refine r_ltM (fun M12 => ?_)
  refine r_aload_n (pc' := 91) g dX10_copy_90 rfl rfl ?_
  refine r_get (pc' := 94) g dX10_copy_91 rfl fl_X10_38 lC_14 (eC_14 w _ _) rfl ?_
  refine r_iconst (pc' := 95) (v := 0) g dX10_copy_94 rfl rfl ?_
  refine r_aload_n (pc' := 96) g dX10_copy_95 rfl rfl ?_
  refine r_get (pc' := 99) g dX10_copy_96 rfl fl_X10_38 lC_1 (eC_1 w _ _) rfl ?_
  refine r_iconst (pc' := 100) (v := 0) g dX10_copy_99 rfl rfl ?_
  refine r_bipush (pc' := 102) (v := 16) g dX10_copy_100 rfl rfl ?_
  refine r_copy (pc' := 105) g dX10_copy_102 rfl ml_X10_41 ac_n ac_s ac_i lC_26 lC_13 (eC_26 w _ _) (fun m => eC_13 w m _) rfl (Nat.le_of_ble_eq_true rfl) ?_
  refine r_ltM (fun M13 => ?_)
  exact r_vret g e3 dX10_copy_105
def f_X11_image (N : Nat) (M : Mm) : Rs :=
  bd (f_X10_copya N  M) fun r1 M2 =>
  (lt' (wI M2 0 2 1) fun M3 =>
  (bd (f_J6_bitCount_0f7a4 N (M3.1 1 0) M3) fun r4 M5 =>
  (some (r4, M5))))

set_option maxHeartbeats 4000000 in
set_option maxRecDepth 100000 in
theorem c_X11_image (l : Launch) (w : W0) (N : Nat) (M : Mm) : Ct l KC w 3 yX11_image cX11_image 1 (some .int) [rf w 0] M (f_X11_image N M) := by
  refine ct_of [rf w 0] (by decide) (Nat.le_of_ble_eq_true rfl) rfl (fun Z e1 e2 e3 g => ?_)
  have g : Good KC w Z cX11_image RX11 3 := g
  unfold f_X11_image
  refine r_aload_n (pc' := 1) g dX11_image_0 rfl rfl ?_
  refine r_get (pc' := 4) g dX11_image_1 rfl fl_X11_16 lC_0 (eC_0 w _ _) rfl ?_
  refine r_aload_n (pc' := 5) g dX11_image_4 rfl rfl ?_
  refine r_get (pc' := 8) g dX11_image_5 rfl fl_X11_12 lC_0 (eC_0 w _ _) rfl ?_
  refine r_callVv (pc' := 11) (As := [rf w 1]) (rest := []) g dX11_image_8 rfl ml_X11_239 mw_X10_copy mv_X10_copy (Nat.le_of_ble_eq_true rfl) (c_X10_copya _ w N  M) rfl lC_14 (eC_14 w _ _) rfl rfl (Nat.le_of_ble_eq_true rfl) (fun r1 M2 => ?_)
  refine r_aload_n (pc' := 12) g dX11_image_11 rfl rfl ?_
  refine r_iconst (pc' := 13) (v := 1) g dX11_image_12 rfl rfl ?_
  refine r_putz (pc' := 16) g dX11_image_13 rfl fl_X11_19 rfl rfl lC_0 (eC_0 w _ _) (Nat.le_of_ble_eq_true rfl) (sC_0_2 w _ _ _) ?_
  refine r_ltM (fun M3 => ?_)
  refine r_aload_n (pc' := 17) g dX11_image_16 rfl rfl ?_
  refine r_get (pc' := 20) g dX11_image_17 rfl fl_X11_12 lC_0 (eC_0 w _ _) rfl ?_
  refine r_get (pc' := 23) g dX11_image_20 rfl fl_X11_88 lC_1 (eC_1 w _ _) rfl ?_
  refine r_callSi (pc' := 26) (As := [.int (M3.1 1 0)]) (rest := []) g dX11_image_23 rfl ml_X11_225 mw_J6_bitCount_0f7a4 ms_J6_bitCount_0f7a4 (Nat.le_of_ble_eq_true rfl) (c_J6_bitCount_0f7a4 _ w N (M3.1 1 0) M3) rfl rfl (Nat.le_of_ble_eq_true rfl) (fun r4 M5 => ?_)
  exact r_iret g e3 dX11_image_26
def f_X11_restore (N : Nat) (M : Mm) : Rs :=
  if (M.1 0 2) = 0 then
    (bd (f_X11_refuse N (-3) M) fun r8 M9 =>
    (some (r8, M9)))
  else
    (bd (f_X10_copyb N  M) fun r1 M2 =>
    (lt' (wI M2 27 3 0) fun M3 =>
    (bd (f_X3_forget N  M3) fun r4 M5 =>
    (bd (f_J6_bitCount_0f7a4 N (M5.1 1 0) M5) fun r6 M7 =>
    (some (r6, M7))))))

set_option maxHeartbeats 4000000 in
set_option maxRecDepth 100000 in
theorem c_X11_restore (l : Launch) (w : W0) (N : Nat) (M : Mm) : Ct l KC w 3 yX11_restore cX11_restore 1 (some .int) [rf w 0] M (f_X11_restore N M) := by
  refine ct_of [rf w 0] (by decide) (Nat.le_of_ble_eq_true rfl) rfl (fun Z e1 e2 e3 g => ?_)
  have g : Good KC w Z cX11_restore RX11 3 := g
  unfold f_X11_restore
  refine r_aload_n (pc' := 1) g dX11_restore_0 rfl rfl ?_
  refine r_get (pc' := 4) g dX11_restore_1 rfl fl_X11_19 lC_0 (eC_0 w _ _) rfl ?_
  refine r_ifne (pc' := 7) (tgt := 14) g dX11_restore_4 rfl rfl ?_ ?_
  · skip
    refine r_aload_n (pc' := 15) g dX11_restore_14 rfl rfl ?_
    refine r_get (pc' := 18) g dX11_restore_15 rfl fl_X11_12 lC_0 (eC_0 w _ _) rfl ?_
    refine r_aload_n (pc' := 19) g dX11_restore_18 rfl rfl ?_
    refine r_get (pc' := 22) g dX11_restore_19 rfl fl_X11_16 lC_0 (eC_0 w _ _) rfl ?_
    refine r_callVv (pc' := 25) (As := [rf w 14]) (rest := []) g dX11_restore_22 rfl ml_X11_239 mw_X10_copy mv_X10_copy (Nat.le_of_ble_eq_true rfl) (c_X10_copyb _ w N  M) rfl lC_1 (eC_1 w _ _) rfl rfl (Nat.le_of_ble_eq_true rfl) (fun r1 M2 => ?_)
    refine r_aload_n (pc' := 26) g dX11_restore_25 rfl rfl ?_
    refine r_get (pc' := 29) g dX11_restore_26 rfl fl_X11_26 lC_0 (eC_0 w _ _) rfl ?_
    refine r_iconst (pc' := 30) (v := 0) g dX11_restore_29 rfl rfl ?_
    refine r_put (pc' := 33) g dX11_restore_30 rfl fl_X11_107 rfl lC_27 (eC_27 w _ _) (Nat.le_of_ble_eq_true rfl) (sC_27_3 w _ _ _) ?_
    refine r_ltM (fun M3 => ?_)
    refine r_aload_n (pc' := 34) g dX11_restore_33 rfl rfl ?_
    refine r_get (pc' := 37) g dX11_restore_34 rfl fl_X11_60 lC_0 (eC_0 w _ _) rfl ?_
    refine r_callVv (pc' := 40) (As := []) (rest := []) g dX11_restore_37 rfl ml_X11_91 mw_X3_forget mv_X3_forget (Nat.le_of_ble_eq_true rfl) (c_X3_forget _ w N  M3) rfl lC_38 (eC_38 w _ _) rfl rfl (Nat.le_of_ble_eq_true rfl) (fun r4 M5 => ?_)
    refine r_aload_n (pc' := 41) g dX11_restore_40 rfl rfl ?_
    refine r_get (pc' := 44) g dX11_restore_41 rfl fl_X11_12 lC_0 (eC_0 w _ _) rfl ?_
    refine r_get (pc' := 47) g dX11_restore_44 rfl fl_X11_88 lC_1 (eC_1 w _ _) rfl ?_
    refine r_callSi (pc' := 50) (As := [.int (M5.1 1 0)]) (rest := []) g dX11_restore_47 rfl ml_X11_225 mw_J6_bitCount_0f7a4 ms_J6_bitCount_0f7a4 (Nat.le_of_ble_eq_true rfl) (c_J6_bitCount_0f7a4 _ w N (M5.1 1 0) M5) rfl rfl (Nat.le_of_ble_eq_true rfl) (fun r6 M7 => ?_)
    exact r_iret g e3 dX11_restore_50
  · skip
    refine r_aload_n (pc' := 8) g dX11_restore_7 rfl rfl ?_
    refine r_bipush (pc' := 10) (v := -3) g dX11_restore_8 rfl rfl ?_
    refine r_callVi (pc' := 13) (As := [.int (-3)]) (rest := []) g dX11_restore_10 rfl ml_X11_80 mw_X11_refuse mv_X11_refuse (Nat.le_of_ble_eq_true rfl) (c_X11_refuse _ w N (-3) M) rfl lC_0 (eC_0 w _ _) rfl rfl (Nat.le_of_ble_eq_true rfl) (fun r8 M9 => ?_)
    exact r_iret g e3 dX11_restore_13
def B_X10_rulesTold_4 (N : Nat) (G : Int32 → Mm → Rs) (rec : (Int32 × Int32) → Mm → Rs) (s : Int32 × Int32) (M : Mm) : Rs :=
  if s.2 < 4 then
      (if inb s.2 4 then
      (if 0 < (M.1 (5 + 2 * ix s.2) 1) then
        (rec (s.1 + 1, s.2 + 1) M)
      else
        (rec (s.1, s.2 + 1) M)) else none)
    else
      (G s.1 M)

def f_X10_rulesTold (N : Nat) (M : Mm) : Rs :=
  itr (B_X10_rulesTold_4 N fun z2 M3 =>
  (some (z2, M3))) N (0, 0) M

set_option maxHeartbeats 4000000 in
set_option maxRecDepth 100000 in
theorem s_X10_rulesTold_4 {w : W0} {Z : Zx} (g : Good KC w Z cX10_rulesTold RX10 0) (e2 : Z.2.2.1 = 3) (e3 : Z.2.2.2 = (some .int)) (N : Nat) (G : Int32 → Mm → Rs) (kG : ∀ (x : Int32) (M : Mm), Sim KC w Z 30 [.null, .int x, .null] [] M (G x M)) : ∀ (n : Nat) (s : Int32 × Int32) (M : Mm), Sim KC w Z 4 [rf w 1, .int s.1, .int s.2] [] M (itr (B_X10_rulesTold_4 N G) n s M) := by
  have n1 : 1 < Z.2.2.1 := by rw [e2]; decide
  have n2 : 2 < Z.2.2.1 := by rw [e2]; decide
  refine r_itr (Lf := fun (s : Int32 × Int32) => [rf w 1, .int s.1, .int s.2]) (fun rec hr s M => ?_)
  unfold B_X10_rulesTold_4
  refine r_iload_n (pc' := 5) g dX10_rulesTold_4 rfl rfl ?_
  refine r_iconst (pc' := 6) (v := 4) g dX10_rulesTold_5 rfl rfl ?_
  refine r_cge (pc' := 9) (tgt := 30) g dX10_rulesTold_6 rfl rfl ?_ ?_
  · skip
    exact r_weak (Ls1 (Ls2 (Ls1 Ls0))) (kG s.1 M)
  · skip
    refine r_aload_n (pc' := 10) g dX10_rulesTold_9 rfl rfl ?_
    refine r_get (pc' := 13) g dX10_rulesTold_10 rfl fl_X10_31 lC_1 (eC_1 w _ _) rfl ?_
    refine r_iload_n (pc' := 14) g dX10_rulesTold_13 rfl rfl ?_
    refine r_aald (pc' := 15) g dX10_rulesTold_14 rfl lC_4 (eC_4 w _ _) (fun q1 => ?_)
    refine r_get (pc' := 18) g dX10_rulesTold_15 rfl fl_X10_61 (lC_r (rl_t q1)) (eC_r (rl_t q1) w _ _) rfl ?_
    refine r_ifle (pc' := 21) (tgt := 24) g dX10_rulesTold_18 rfl rfl ?_ ?_
    · skip
      refine r_iinc (pc' := 27) (b := 1) (L' := [rf w 1, .int s.1, .int (s.2 + 1)]) g dX10_rulesTold_24 rfl rfl rfl n2 rfl rfl ?_
      refine r_goto (tgt := 4) g dX10_rulesTold_27 rfl ?_
      exact r_weak (Ls2 (Ls2 (Ls2 Ls0))) (hr (s.1, s.2 + 1) M)
    · skip
      refine r_iinc (pc' := 24) (b := 1) (L' := [rf w 1, .int (s.1 + 1), .int s.2]) g dX10_rulesTold_21 rfl rfl rfl n1 rfl rfl ?_
      refine r_iinc (pc' := 27) (b := 1) (L' := [rf w 1, .int (s.1 + 1), .int (s.2 + 1)]) g dX10_rulesTold_24 rfl rfl rfl n2 rfl rfl ?_
      refine r_goto (tgt := 4) g dX10_rulesTold_27 rfl ?_
      exact r_weak (Ls2 (Ls2 (Ls2 Ls0))) (hr (s.1 + 1, s.2 + 1) M)
set_option maxHeartbeats 4000000 in
set_option maxRecDepth 100000 in
theorem c_X10_rulesTold (l : Launch) (w : W0) (N : Nat) (M : Mm) : Ct l KC w 0 yX10_rulesTold cX10_rulesTold 3 (some .int) [rf w 1] M (f_X10_rulesTold N M) := by
  refine ct_of [rf w 1, .null, .null] (by decide) (Nat.le_of_ble_eq_true rfl) rfl (fun Z e1 e2 e3 g => ?_)
  have g : Good KC w Z cX10_rulesTold RX10 0 := g
  unfold f_X10_rulesTold
  have n1 : 1 < Z.2.2.1 := by rw [e2]; decide
  have n2 : 2 < Z.2.2.1 := by rw [e2]; decide
  refine r_iconst (pc' := 1) (v := 0) g dX10_rulesTold_0 rfl rfl ?_
  refine r_istore_n (pc' := 2) (L' := [rf w 1, .int 0, .null]) g dX10_rulesTold_1 rfl n1 rfl rfl ?_
  refine r_iconst (pc' := 3) (v := 0) g dX10_rulesTold_2 rfl rfl ?_
  refine r_istore_n (pc' := 4) (L' := [rf w 1, .int 0, .int 0]) g dX10_rulesTold_3 rfl n2 rfl rfl ?_
  refine r_weak (Ls2 (Ls2 (Ls2 Ls0))) (s_X10_rulesTold_4 g e2 e3 N _ (fun z2 M3 => ?_) N (0, 0) M)
  refine r_iload_n (pc' := 31) g dX10_rulesTold_30 rfl rfl ?_
  exact r_iret g e3 dX10_rulesTold_31
def f_X11_count (N : Nat) (a1 : Int32) (M : Mm) : Rs :=
  lt' (fun (s1 : Unit) (M2 : Mm) =>
    ((if a1 = 0 then
      (bd (f_J6_bitCount_0f7a4 N (M2.1 1 0) M2) fun r5 M6 =>
      (some (r5, M6)))
    else (if a1 = 1 then
      (some (M2.1 1 2, M2))
    else (if a1 = 2 then
      (bd (f_J6_bitCount_0f7a4 N (M2.1 1 3) M2) fun r9 M10 =>
      (some (r9, M10)))
    else (if a1 = 3 then
      (bd (f_X10_rulesTold N  M2) fun r12 M13 =>
      (some (r12, M13)))
    else (if a1 = 4 then
      (bd (f_X11_theSet N  M2) fun r15 M16 =>
      (bd (f_J6_bitCount_0f7a4 N r15 M16) fun r17 M18 =>
      (some (r17, M18))))
    else (if a1 = 5 then
      (some (M2.1 1 6, M2))
    else (if a1 = 6 then
      (some (M2.1 30 1, M2))
    else (if a1 = 7 then
      (some (M2.1 0 6, M2))
    else (if a1 = 8 then
      (some (M2.1 27 3, M2))
    else (some ((-9), M2))))))))))) : Rs)) fun jn3 =>
  (if a1 < 11 then
    (jn3 () M)
  else
    (if 16 < a1 then
      (jn3 () M)
    else
      (if inb (a1 - 10) 7 then
      (some (M.1 33 (ix (a1 - 10)), M)) else none)))

set_option maxHeartbeats 4000000 in
set_option maxRecDepth 100000 in
theorem c_X11_count (l : Launch) (w : W0) (N : Nat) (a1 : Int32) (M : Mm) : Ct l KC w 3 yX11_count cX11_count 2 (some .int) [rf w 0, .int a1] M (f_X11_count N a1 M) := by
  refine ct_of [rf w 0, .int a1] (by decide) (Nat.le_of_ble_eq_true rfl) rfl (fun Z e1 e2 e3 g => ?_)
  have g : Good KC w Z cX11_count RX11 3 := g
  unfold f_X11_count
  refine r_iload_n (pc' := 1) g dX11_count_0 rfl rfl ?_
  refine r_bipush (pc' := 3) (v := 11) g dX11_count_1 rfl rfl ?_
  refine r_jn (pj := 22) (Lj := fun (s1 : Unit) => [rf w 0, .int a1]) (stj := fun (s1 : Unit) => []) (fun s1 M2 => ?_) (fun jn3 hjn3 => ?_)
  · skip
    refine r_iload_n (pc' := 23) g dX11_count_22 rfl rfl ?_
    refine r_tab (v := 0) (tgt := 72) g dX11_count_23 (by decide) (by decide) rfl rfl ?_ (fun hq4 => ?_)
    · skip
      refine r_aload_n (pc' := 73) g dX11_count_72 rfl rfl ?_
      refine r_get (pc' := 76) g dX11_count_73 rfl fl_X11_12 lC_0 (eC_0 w _ _) rfl ?_
      refine r_get (pc' := 79) g dX11_count_76 rfl fl_X11_88 lC_1 (eC_1 w _ _) rfl ?_
      refine r_callSi (pc' := 82) (As := [.int (M2.1 1 0)]) (rest := []) g dX11_count_79 rfl ml_X11_225 mw_J6_bitCount_0f7a4 ms_J6_bitCount_0f7a4 (Nat.le_of_ble_eq_true rfl) (c_J6_bitCount_0f7a4 _ w N (M2.1 1 0) M2) rfl rfl (Nat.le_of_ble_eq_true rfl) (fun r5 M6 => ?_)
      exact r_iret g e3 dX11_count_82
    refine r_tab (v := 1) (tgt := 83) g dX11_count_23 (by decide) (by decide) rfl rfl ?_ (fun hq7 => ?_)
    · skip
      refine r_aload_n (pc' := 84) g dX11_count_83 rfl rfl ?_
      refine r_get (pc' := 87) g dX11_count_84 rfl fl_X11_12 lC_0 (eC_0 w _ _) rfl ?_
      refine r_get (pc' := 90) g dX11_count_87 rfl fl_X11_124 lC_1 (eC_1 w _ _) rfl ?_
      exact r_iret g e3 dX11_count_90
    refine r_tab (v := 2) (tgt := 91) g dX11_count_23 (by decide) (by decide) rfl rfl ?_ (fun hq8 => ?_)
    · skip
      refine r_aload_n (pc' := 92) g dX11_count_91 rfl rfl ?_
      refine r_get (pc' := 95) g dX11_count_92 rfl fl_X11_12 lC_0 (eC_0 w _ _) rfl ?_
      refine r_get (pc' := 98) g dX11_count_95 rfl fl_X11_139 lC_1 (eC_1 w _ _) rfl ?_
      refine r_callSi (pc' := 101) (As := [.int (M2.1 1 3)]) (rest := []) g dX11_count_98 rfl ml_X11_225 mw_J6_bitCount_0f7a4 ms_J6_bitCount_0f7a4 (Nat.le_of_ble_eq_true rfl) (c_J6_bitCount_0f7a4 _ w N (M2.1 1 3) M2) rfl rfl (Nat.le_of_ble_eq_true rfl) (fun r9 M10 => ?_)
      exact r_iret g e3 dX11_count_101
    refine r_tab (v := 3) (tgt := 102) g dX11_count_23 (by decide) (by decide) rfl rfl ?_ (fun hq11 => ?_)
    · skip
      refine r_aload_n (pc' := 103) g dX11_count_102 rfl rfl ?_
      refine r_get (pc' := 106) g dX11_count_103 rfl fl_X11_12 lC_0 (eC_0 w _ _) rfl ?_
      refine r_callVi (pc' := 109) (As := []) (rest := []) g dX11_count_106 rfl ml_X11_242 mw_X10_rulesTold mv_X10_rulesTold (Nat.le_of_ble_eq_true rfl) (c_X10_rulesTold _ w N  M2) rfl lC_1 (eC_1 w _ _) rfl rfl (Nat.le_of_ble_eq_true rfl) (fun r12 M13 => ?_)
      exact r_iret g e3 dX11_count_109
    refine r_tab (v := 4) (tgt := 110) g dX11_count_23 (by decide) (by decide) rfl rfl ?_ (fun hq14 => ?_)
    · skip
      refine r_aload_n (pc' := 111) g dX11_count_110 rfl rfl ?_
      refine r_callVi (pc' := 114) (As := []) (rest := []) g dX11_count_111 rfl ml_X11_159 mw_X11_theSet mv_X11_theSet (Nat.le_of_ble_eq_true rfl) (c_X11_theSet _ w N  M2) rfl lC_0 (eC_0 w _ _) rfl rfl (Nat.le_of_ble_eq_true rfl) (fun r15 M16 => ?_)
      refine r_callSi (pc' := 117) (As := [.int r15]) (rest := []) g dX11_count_114 rfl ml_X11_225 mw_J6_bitCount_0f7a4 ms_J6_bitCount_0f7a4 (Nat.le_of_ble_eq_true rfl) (c_J6_bitCount_0f7a4 _ w N r15 M16) rfl rfl (Nat.le_of_ble_eq_true rfl) (fun r17 M18 => ?_)
      exact r_iret g e3 dX11_count_117
    refine r_tab (v := 5) (tgt := 118) g dX11_count_23 (by decide) (by decide) rfl rfl ?_ (fun hq19 => ?_)
    · skip
      refine r_aload_n (pc' := 119) g dX11_count_118 rfl rfl ?_
      refine r_get (pc' := 122) g dX11_count_119 rfl fl_X11_12 lC_0 (eC_0 w _ _) rfl ?_
      refine r_get (pc' := 125) g dX11_count_122 rfl fl_X11_230 lC_1 (eC_1 w _ _) rfl ?_
      exact r_iret g e3 dX11_count_125
    refine r_tab (v := 6) (tgt := 126) g dX11_count_23 (by decide) (by decide) rfl rfl ?_ (fun hq20 => ?_)
    · skip
      refine r_aload_n (pc' := 127) g dX11_count_126 rfl rfl ?_
      refine r_get (pc' := 130) g dX11_count_127 rfl fl_X11_33 lC_0 (eC_0 w _ _) rfl ?_
      refine r_get (pc' := 133) g dX11_count_130 rfl fl_X11_117 lC_30 (eC_30 w _ _) rfl ?_
      exact r_iret g e3 dX11_count_133
    refine r_tab (v := 7) (tgt := 134) g dX11_count_23 (by decide) (by decide) rfl rfl ?_ (fun hq21 => ?_)
    · skip
      refine r_aload_n (pc' := 135) g dX11_count_134 rfl rfl ?_
      refine r_get (pc' := 138) g dX11_count_135 rfl fl_X11_41 lC_0 (eC_0 w _ _) rfl ?_
      exact r_iret g e3 dX11_count_138
    refine r_tab (v := 8) (tgt := 139) g dX11_count_23 (by decide) (by decide) rfl rfl ?_ (fun hq22 => ?_)
    · skip
      refine r_aload_n (pc' := 140) g dX11_count_139 rfl rfl ?_
      refine r_get (pc' := 143) g dX11_count_140 rfl fl_X11_26 lC_0 (eC_0 w _ _) rfl ?_
      refine r_get (pc' := 146) g dX11_count_143 rfl fl_X11_107 lC_27 (eC_27 w _ _) rfl ?_
      exact r_iret g e3 dX11_count_146
    refine r_tabd (tgt := 147) g dX11_count_23 (tb_out (n := 8) (by decide) (fun j hj => by match j, hj with | 0, _ => exact hq4 | 1, _ => exact hq7 | 2, _ => exact hq8 | 3, _ => exact hq11 | 4, _ => exact hq14 | 5, _ => exact hq19 | 6, _ => exact hq20 | 7, _ => exact hq21 | 8, _ => exact hq22 | j + 9, hj => exact absurd hj (by omega))) rfl ?_
    · skip
      refine r_bipush (pc' := 149) (v := -9) g dX11_count_147 rfl rfl ?_
      exact r_iret g e3 dX11_count_149
  refine r_clt (pc' := 6) (tgt := 22) g dX11_count_3 rfl rfl ?_ ?_
  · skip
    exact r_weak (Ls2 (Ls2 Ls0)) (hjn3 () M)
  · skip
    refine r_iload_n (pc' := 7) g dX11_count_6 rfl rfl ?_
    refine r_bipush (pc' := 9) (v := 16) g dX11_count_7 rfl rfl ?_
    refine r_cgt (pc' := 12) (tgt := 22) g dX11_count_9 rfl rfl ?_ ?_
    · skip
      exact r_weak (Ls2 (Ls2 Ls0)) (hjn3 () M)
    · skip
      refine r_aload_n (pc' := 13) g dX11_count_12 rfl rfl ?_
      refine r_get (pc' := 16) g dX11_count_13 rfl fl_X11_45 lC_0 (eC_0 w _ _) rfl ?_
      refine r_iload_n (pc' := 17) g dX11_count_16 rfl rfl ?_
      refine r_bipush (pc' := 19) (v := 10) g dX11_count_17 rfl rfl ?_
      refine r_isub (pc' := 20) g dX11_count_19 rfl ?_
      refine r_iald (pc' := 21) g dX11_count_20 rfl lC_33 (eC_33 w _ _) ?_
      exact r_iret g e3 dX11_count_21
