/-! CONSTRUCTORS: contracts -/
theorem ob_i : Cond.instanceMethod Lib.objectInit ∈ Ug := (ug_1 (List.mem_of_getElem? (i := 24) rfl) rfl)
theorem ob_c : Cond.code Lib.objectInit ⟨#[0xb1]⟩ 1 none ∈ Ug := (ug_1 (List.mem_of_getElem? (i := 25) rfl) rfl)
theorem ac_I : Cond.arrayClass .int ∈ Ug := (ug_1 (List.mem_of_getElem? (i := 49) rfl) rfl)
theorem ac_J : Cond.arrayClass .long ∈ Ug := (ug_2 (List.mem_of_getElem? (i := 19) rfl) rfl)
theorem ac_Z : Cond.arrayClass .boolean ∈ Ug := (ug_4 (List.mem_of_getElem? (i := 198) rfl) rfl)
def fT (j : Nat) : Nat → Int32 := fun i => if 24 ≤ i ∧ i < j then 99 else 0
theorem fT_0 : fT 24 = fun _ => 0 := by
  funext i
  unfold fT
  rw [if_neg (by omega)]
theorem fT_s {j : Nat} (h : 24 ≤ j) : upd (fT j) j 99 = fT (j + 1) := by
  funext i
  rw [upd_g]
  unfold fT
  by_cases e : i = j
  · rw [if_pos e, if_pos (by omega)]
  · rw [if_neg e]
    by_cases q : 24 ≤ i ∧ i < j
    · rw [if_pos q, if_pos (by omega)]
    · rw [if_neg q, if_neg (by omega)]
def fN : Nat → Int32 := upd (upd (upd (fT 40) 40 10) 41 100) 42 4
abbrev aI (t : Nat → ClassId) (n : Nat) : va_E := .inl (t 0, n, .inl (fun _ => 0))
abbrev aZ (t : Nat → ClassId) (n : Nat) : va_E := .inl (t 2, n, .inl (fun _ => 0))
abbrev aJ (t : Nat → ClassId) (n : Nat) : va_E := .inl (t 1, n, .inr (.inl (fun _ => 0)))
section KConv
variable {Z : Zx} {G : va_G} {t : Nat → ClassId} {A : Nat → Prop} {pc n k : Nat} {L st : List Value} {ws : va_W} {Q : State → Prop}
theorem k_conv {q0 N a : Nat} {f f' : Nat → Option Nat} {ws' : va_W} (he : ws[q0]? = some (a, .inl (t 3, N, .inr (.inr (.inr (.inr f)))))) (hf : ∀ j, j < N → f j = f' j) (hw : ws.set q0 (a, .inl (t 3, N, .inr (.inr (.inr (.inr f'))))) = ws') (kk : CW Z G A pc L st ws' n k Q) : CW Z G A pc L st ws n k Q := by
  subst hw
  intro ls H lo h1 h2 h3 h4
  refine kk ls H lo h1 (h2.set h3 he ?_ (fun _ _ => rfl)) (h3.set he) h4
  have e : vp_cell (t 3) (N, .inr (.inr (.inr (.inr f)))) = vp_cell (t 3) (N, .inr (.inr (.inr (.inr f')))) := by
    rw [vp_cell_q, vp_cell_q]
    unfold arrV
    congr 1
    congr 1
    funext j
    dsimp only
    rw [hf j.val j.isLt]
  have := h2 q0 _ he
  show H[a]? = some (vp_cell (t 3) (N, .inr (.inr (.inr (.inr f')))))
  rw [← e]
  exact this
end KConv
def pX7 (t : Nat → ClassId) (h0 : Nat) (f : Nat → Nat) : va_W := [(h0, .inr (5, [.ref (f 0), .int 0])), (f 0, aI t 40)]
set_option maxHeartbeats 400000 in
set_option maxRecDepth 100000 in
theorem c_X7_init (l : Launch) (G : va_G) (t : Nat → ClassId) (h0 : Nat) : Kt l G t 1 1 40 yX7_init cX7_init 1 [.ref h0] h0 (.inr (5, [.null, .int 0])) (pX7 t h0) := by
  refine kt_of [.ref h0] (by decide) rfl (Nat.le_of_ble_eq_true rfl) rfl ?_
  intro Z A hl hnL g hA hret0 hret
  subst hl
  refine k_aload_n g dX7_init_0 rfl rfl ?_
  refine k_obj g dX7_init_1 rfl (ug_1 (List.mem_of_getElem? (i := 38) rfl) rfl) ob_i ob_c (Nat.le_of_ble_eq_true rfl) ?_
  refine k_aload_n g dX7_init_4 rfl rfl ?_
  refine k_bipush (v := 40) g dX7_init_5 rfl rfl ?_
  refine k_newa (atype := .int) (ty := .int) (N' := 40) (j := 0) (a0 := (40, .inl (fun _ => 0))) g dX7_init_7 rfl rfl ac_I rfl (fun _ => rfl) (by decide) (by decide) (Nat.le_of_ble_eq_true rfl) (Nat.le_of_ble_eq_true rfl) (Nat.le_of_ble_eq_true rfl) (fun q7 => ?_)
  refine k_put (q0 := 0) g dX7_init_9 rfl fl_X7_9 rfl rfl (tyX7_ok 0 (Nat.le_of_ble_eq_true rfl)) rfl rfl (Nat.le_of_ble_eq_true rfl) rfl ?_
  refine k_aload_n g dX7_init_12 rfl rfl ?_
  refine k_iconst (v := 0) g dX7_init_13 rfl rfl ?_
  refine k_put (q0 := 0) g dX7_init_14 rfl fl_X7_15 rfl rfl (tyX7_ok 1 (Nat.le_of_ble_eq_true rfl)) rfl rfl (Nat.le_of_ble_eq_true rfl) rfl ?_
  exact hret (fun i => match i with | 0 => q7 | _ => 0) _ _ dX7_init_17
def pX1 (t : Nat → ClassId) (h0 : Nat) (f : Nat → Nat) : va_W := [(h0, .inr (1, [.ref (f 0), .ref (f 1), .int 0, .int 0])), (f 0, aI t 40), (f 1, aI t 40)]
set_option maxHeartbeats 400000 in
set_option maxRecDepth 100000 in
theorem c_X1_init (l : Launch) (G : va_G) (t : Nat → ClassId) (h0 : Nat) : Kt l G t 1 2 80 yX1_init cX1_init 1 [.ref h0] h0 (.inr (1, [.null, .null, .int 0, .int 0])) (pX1 t h0) := by
  refine kt_of [.ref h0] (by decide) rfl (Nat.le_of_ble_eq_true rfl) rfl ?_
  intro Z A hl hnL g hA hret0 hret
  subst hl
  refine k_aload_n g dX1_init_0 rfl rfl ?_
  refine k_obj g dX1_init_1 rfl (ug_1 (List.mem_of_getElem? (i := 91) rfl) rfl) ob_i ob_c (Nat.le_of_ble_eq_true rfl) ?_
  refine k_aload_n g dX1_init_4 rfl rfl ?_
  refine k_bipush (v := 40) g dX1_init_5 rfl rfl ?_
  refine k_newa (atype := .int) (ty := .int) (N' := 40) (j := 0) (a0 := (40, .inl (fun _ => 0))) g dX1_init_7 rfl rfl ac_I rfl (fun _ => rfl) (by decide) (by decide) (Nat.le_of_ble_eq_true rfl) (Nat.le_of_ble_eq_true rfl) (Nat.le_of_ble_eq_true rfl) (fun q7 => ?_)
  refine k_put (q0 := 0) g dX1_init_9 rfl fl_X1_9 rfl rfl (tyX1_ok 0 (Nat.le_of_ble_eq_true rfl)) rfl rfl (Nat.le_of_ble_eq_true rfl) rfl ?_
  refine k_aload_n g dX1_init_12 rfl rfl ?_
  refine k_bipush (v := 40) g dX1_init_13 rfl rfl ?_
  refine k_newa (atype := .int) (ty := .int) (N' := 40) (j := 0) (a0 := (40, .inl (fun _ => 0))) g dX1_init_15 rfl rfl ac_I rfl (fun _ => rfl) (by decide) (by decide) (Nat.le_of_ble_eq_true rfl) (Nat.le_of_ble_eq_true rfl) (Nat.le_of_ble_eq_true rfl) (fun q15 => ?_)
  refine k_put (q0 := 0) g dX1_init_17 rfl fl_X1_15 rfl rfl (tyX1_ok 1 (Nat.le_of_ble_eq_true rfl)) rfl rfl (Nat.le_of_ble_eq_true rfl) rfl ?_
  refine k_aload_n g dX1_init_20 rfl rfl ?_
  refine k_iconst (v := 0) g dX1_init_21 rfl rfl ?_
  refine k_put (q0 := 0) g dX1_init_22 rfl fl_X1_18 rfl rfl (tyX1_ok 2 (Nat.le_of_ble_eq_true rfl)) rfl rfl (Nat.le_of_ble_eq_true rfl) rfl ?_
  refine k_aload_n g dX1_init_25 rfl rfl ?_
  refine k_iconst (v := 0) g dX1_init_26 rfl rfl ?_
  refine k_put (q0 := 0) g dX1_init_27 rfl fl_X1_22 rfl rfl (tyX1_ok 3 (Nat.le_of_ble_eq_true rfl)) rfl rfl (Nat.le_of_ble_eq_true rfl) rfl ?_
  exact hret (fun i => match i with | 0 => q7 | 1 => q15 | _ => 0) _ _ dX1_init_30
def pX9 (t : Nat → ClassId) (h0 : Nat) (f : Nat → Nat) : va_W := [(h0, .inr (7, [.ref (f 0), .int 0, .int 0, .int (-1)])), (f 0, aI t 40)]
set_option maxHeartbeats 400000 in
set_option maxRecDepth 100000 in
theorem c_X9_init (l : Launch) (G : va_G) (t : Nat → ClassId) (h0 : Nat) : Kt l G t 1 1 40 yX9_init cX9_init 1 [.ref h0] h0 (.inr (7, [.null, .int 0, .int 0, .int 0])) (pX9 t h0) := by
  refine kt_of [.ref h0] (by decide) rfl (Nat.le_of_ble_eq_true rfl) rfl ?_
  intro Z A hl hnL g hA hret0 hret
  subst hl
  refine k_aload_n g dX9_init_0 rfl rfl ?_
  refine k_obj g dX9_init_1 rfl (ug_1 (List.mem_of_getElem? (i := 111) rfl) rfl) ob_i ob_c (Nat.le_of_ble_eq_true rfl) ?_
  refine k_aload_n g dX9_init_4 rfl rfl ?_
  refine k_bipush (v := 40) g dX9_init_5 rfl rfl ?_
  refine k_newa (atype := .int) (ty := .int) (N' := 40) (j := 0) (a0 := (40, .inl (fun _ => 0))) g dX9_init_7 rfl rfl ac_I rfl (fun _ => rfl) (by decide) (by decide) (Nat.le_of_ble_eq_true rfl) (Nat.le_of_ble_eq_true rfl) (Nat.le_of_ble_eq_true rfl) (fun q7 => ?_)
  refine k_put (q0 := 0) g dX9_init_9 rfl fl_X9_9 rfl rfl (tyX9_ok 0 (Nat.le_of_ble_eq_true rfl)) rfl rfl (Nat.le_of_ble_eq_true rfl) rfl ?_
  refine k_aload_n g dX9_init_12 rfl rfl ?_
  refine k_iconst (v := 0) g dX9_init_13 rfl rfl ?_
  refine k_put (q0 := 0) g dX9_init_14 rfl fl_X9_15 rfl rfl (tyX9_ok 1 (Nat.le_of_ble_eq_true rfl)) rfl rfl (Nat.le_of_ble_eq_true rfl) rfl ?_
  refine k_aload_n g dX9_init_17 rfl rfl ?_
  refine k_iconst (v := 0) g dX9_init_18 rfl rfl ?_
  refine k_put (q0 := 0) g dX9_init_19 rfl fl_X9_19 rfl rfl (tyX9_ok 2 (Nat.le_of_ble_eq_true rfl)) rfl rfl (Nat.le_of_ble_eq_true rfl) rfl ?_
  refine k_aload_n g dX9_init_22 rfl rfl ?_
  refine k_iconst (v := -1) g dX9_init_23 rfl rfl ?_
  refine k_put (q0 := 0) g dX9_init_24 rfl fl_X9_22 rfl rfl (tyX9_ok 3 (Nat.le_of_ble_eq_true rfl)) rfl rfl (Nat.le_of_ble_eq_true rfl) rfl ?_
  exact hret (fun i => match i with | 0 => q7 | _ => 0) _ _ dX9_init_27
def pX8 (t : Nat → ClassId) (h0 b1 : Nat) (f : Nat → Nat) : va_W := [(h0, .inr (6, [.ref b1, .ref (f 0), .ref (f 2), .int 0])), (f 0, .inr (5, [.ref (f 1), .int 0])), (f 1, aI t 40), (f 2, aI t 40)]
set_option maxHeartbeats 400000 in
set_option maxRecDepth 100000 in
theorem c_X8_init (l : Launch) (G : va_G) (t : Nat → ClassId) (h0 b1 : Nat) : Kt l G t 2 3 82 yX8_init cX8_init 2 [.ref h0, .ref b1] h0 (.inr (6, [.null, .null, .null, .int 0])) (pX8 t h0 b1) := by
  refine kt_of [.ref h0, .ref b1] (by decide) rfl (Nat.le_of_ble_eq_true rfl) rfl ?_
  intro Z A hl hnL g hA hret0 hret
  subst hl
  refine k_aload_n g dX8_init_0 rfl rfl ?_
  refine k_obj g dX8_init_1 rfl (ug_1 (List.mem_of_getElem? (i := 134) rfl) rfl) ob_i ob_c (Nat.le_of_ble_eq_true rfl) ?_
  refine k_aload_n g dX8_init_4 rfl rfl ?_
  refine k_new (fs := [.null, .int 0]) g dX8_init_5 rfl kf_X7 (ug_1 (List.mem_of_getElem? (i := 135) rfl) rfl) (ug_1 (List.mem_of_getElem? (i := 34) rfl) rfl) (ug_1 (List.mem_of_getElem? (i := 3) rfl) rfl) (fun j hj => match j, hj with | 0, _ => rfl | 1, _ => rfl | j + 2, h => absurd h (by omega)) (Nat.le_of_ble_eq_true rfl) (Nat.le_of_ble_eq_true rfl) (fun q5 => ?_)
  refine k_dup g dX8_init_8 rfl ?_
  refine k_initN (As := []) g dX8_init_9 rfl g.2.2.2.2.2.2.2.2.1.2.2.2.1 mw_X7_init (ug_1 (List.mem_of_getElem? (i := 36) rfl) rfl) rfl (Nat.le_of_ble_eq_true rfl) (c_X7_init _ G t q5 ) rfl rfl rfl (Nat.le_of_ble_eq_true rfl) (Nat.le_of_ble_eq_true rfl) (Nat.le_of_ble_eq_true rfl) (Nat.le_of_ble_eq_true rfl) (fun f9 => ?_)
  refine k_put (q0 := 0) g dX8_init_12 rfl fl_X8_12 rfl rfl (tyX8_ok 1 (Nat.le_of_ble_eq_true rfl)) rfl rfl (Nat.le_of_ble_eq_true rfl) rfl ?_
  refine k_aload_n g dX8_init_15 rfl rfl ?_
  refine k_bipush (v := 40) g dX8_init_16 rfl rfl ?_
  refine k_newa (atype := .int) (ty := .int) (N' := 40) (j := 0) (a0 := (40, .inl (fun _ => 0))) g dX8_init_18 rfl rfl ac_I rfl (fun _ => rfl) (by decide) (by decide) (Nat.le_of_ble_eq_true rfl) (Nat.le_of_ble_eq_true rfl) (Nat.le_of_ble_eq_true rfl) (fun q18 => ?_)
  refine k_put (q0 := 0) g dX8_init_20 rfl fl_X8_18 rfl rfl (tyX8_ok 2 (Nat.le_of_ble_eq_true rfl)) rfl rfl (Nat.le_of_ble_eq_true rfl) rfl ?_
  refine k_aload_n g dX8_init_23 rfl rfl ?_
  refine k_iconst (v := 0) g dX8_init_24 rfl rfl ?_
  refine k_put (q0 := 0) g dX8_init_25 rfl fl_X8_22 rfl rfl (tyX8_ok 3 (Nat.le_of_ble_eq_true rfl)) rfl rfl (Nat.le_of_ble_eq_true rfl) rfl ?_
  refine k_aload_n g dX8_init_28 rfl rfl ?_
  refine k_aload_n g dX8_init_29 rfl rfl ?_
  refine k_put (q0 := 0) g dX8_init_30 rfl fl_X8_26 rfl rfl (tyX8_ok 0 (Nat.le_of_ble_eq_true rfl)) rfl rfl (Nat.le_of_ble_eq_true rfl) rfl ?_
  exact hret (fun i => match i with | 0 => q5 | 1 => (f9 0) | 2 => q18 | _ => 0) _ _ dX8_init_33
def pX2 (t : Nat → ClassId) (h0 b1 : Nat) (f : Nat → Nat) : va_W := [(h0, .inr (2, [.ref b1, .int 0, .int 0, .int 0, .int 0, .int 0, .int 0]))]
set_option maxHeartbeats 400000 in
set_option maxRecDepth 100000 in
theorem c_X2_init (l : Launch) (G : va_G) (t : Nat → ClassId) (h0 b1 : Nat) : Kt l G t 1 0 0 yX2_init cX2_init 2 [.ref h0, .ref b1] h0 (.inr (2, [.null, .int 0, .int 0, .int 0, .int 0, .int 0, .int 0])) (pX2 t h0 b1) := by
  refine kt_of [.ref h0, .ref b1] (by decide) rfl (Nat.le_of_ble_eq_true rfl) rfl ?_
  intro Z A hl hnL g hA hret0 hret
  subst hl
  refine k_aload_n g dX2_init_0 rfl rfl ?_
  refine k_obj g dX2_init_1 rfl (ug_1 (List.mem_of_getElem? (i := 223) rfl) rfl) ob_i ob_c (Nat.le_of_ble_eq_true rfl) ?_
  refine k_aload_n g dX2_init_4 rfl rfl ?_
  refine k_iconst (v := 0) g dX2_init_5 rfl rfl ?_
  refine k_put (q0 := 0) g dX2_init_6 rfl fl_X2_7 rfl rfl (tyX2_ok 1 (Nat.le_of_ble_eq_true rfl)) rfl rfl (Nat.le_of_ble_eq_true rfl) rfl ?_
  refine k_aload_n g dX2_init_9 rfl rfl ?_
  refine k_iconst (v := 0) g dX2_init_10 rfl rfl ?_
  refine k_put (q0 := 0) g dX2_init_11 rfl fl_X2_13 rfl rfl (tyX2_ok 2 (Nat.le_of_ble_eq_true rfl)) rfl rfl (Nat.le_of_ble_eq_true rfl) rfl ?_
  refine k_aload_n g dX2_init_14 rfl rfl ?_
  refine k_iconst (v := 0) g dX2_init_15 rfl rfl ?_
  refine k_put (q0 := 0) g dX2_init_16 rfl fl_X2_16 rfl rfl (tyX2_ok 3 (Nat.le_of_ble_eq_true rfl)) rfl rfl (Nat.le_of_ble_eq_true rfl) rfl ?_
  refine k_aload_n g dX2_init_19 rfl rfl ?_
  refine k_iconst (v := 0) g dX2_init_20 rfl rfl ?_
  refine k_put (q0 := 0) g dX2_init_21 rfl fl_X2_19 rfl rfl (tyX2_ok 4 (Nat.le_of_ble_eq_true rfl)) rfl rfl (Nat.le_of_ble_eq_true rfl) rfl ?_
  refine k_aload_n g dX2_init_24 rfl rfl ?_
  refine k_iconst (v := 0) g dX2_init_25 rfl rfl ?_
  refine k_put (q0 := 0) g dX2_init_26 rfl fl_X2_22 rfl rfl (tyX2_ok 5 (Nat.le_of_ble_eq_true rfl)) rfl rfl (Nat.le_of_ble_eq_true rfl) rfl ?_
  refine k_aload_n g dX2_init_29 rfl rfl ?_
  refine k_iconst (v := 0) g dX2_init_30 rfl rfl ?_
  refine k_put (q0 := 0) g dX2_init_31 rfl fl_X2_25 rfl rfl (tyX2_ok 6 (Nat.le_of_ble_eq_true rfl)) rfl rfl (Nat.le_of_ble_eq_true rfl) rfl ?_
  refine k_aload_n g dX2_init_34 rfl rfl ?_
  refine k_aload_n g dX2_init_35 rfl rfl ?_
  refine k_put (q0 := 0) g dX2_init_36 rfl fl_X2_29 rfl rfl (tyX2_ok 0 (Nat.le_of_ble_eq_true rfl)) rfl rfl (Nat.le_of_ble_eq_true rfl) rfl ?_
  exact hret (fun i => match i with  | _ => 0) _ _ dX2_init_39
def pX0 (t : Nat → ClassId) (h0 b1 : Nat) (f : Nat → Nat) : va_W := [(h0, .inr (0, [.ref b1, .ref (f 0)])), (f 0, aJ t 64)]
set_option maxHeartbeats 400000 in
set_option maxRecDepth 100000 in
theorem c_X0_init (l : Launch) (G : va_G) (t : Nat → ClassId) (h0 b1 : Nat) : Kt l G t 1 1 64 yX0_init cX0_init 2 [.ref h0, .ref b1] h0 (.inr (0, [.null, .null])) (pX0 t h0 b1) := by
  refine kt_of [.ref h0, .ref b1] (by decide) rfl (Nat.le_of_ble_eq_true rfl) rfl ?_
  intro Z A hl hnL g hA hret0 hret
  subst hl
  refine k_aload_n g dX0_init_0 rfl rfl ?_
  refine k_obj g dX0_init_1 rfl (ug_2 (List.mem_of_getElem? (i := 11) rfl) rfl) ob_i ob_c (Nat.le_of_ble_eq_true rfl) ?_
  refine k_aload_n g dX0_init_4 rfl rfl ?_
  refine k_bipush (v := 64) g dX0_init_5 rfl rfl ?_
  refine k_newa (atype := .long) (ty := .long) (N' := 64) (j := 1) (a0 := (64, .inr (.inl (fun _ => 0)))) g dX0_init_7 rfl rfl ac_J rfl (fun _ => rfl) (by decide) (by decide) (Nat.le_of_ble_eq_true rfl) (Nat.le_of_ble_eq_true rfl) (Nat.le_of_ble_eq_true rfl) (fun q7 => ?_)
  refine k_put (q0 := 0) g dX0_init_9 rfl fl_X0_11 rfl rfl (tyX0_ok 1 (Nat.le_of_ble_eq_true rfl)) rfl rfl (Nat.le_of_ble_eq_true rfl) rfl ?_
  refine k_aload_n g dX0_init_12 rfl rfl ?_
  refine k_aload_n g dX0_init_13 rfl rfl ?_
  refine k_put (q0 := 0) g dX0_init_14 rfl fl_X0_15 rfl rfl (tyX0_ok 0 (Nat.le_of_ble_eq_true rfl)) rfl rfl (Nat.le_of_ble_eq_true rfl) rfl ?_
  exact hret (fun i => match i with | 0 => q7 | _ => 0) _ _ dX0_init_17
