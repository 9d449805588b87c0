def pX4 (t : Nat → ClassId) (h0 b1 : Nat) (f : Nat → Nat) : va_W := [(h0, .inr (4, [.ref b1, .int 0, .ref (f 0), .ref (f 1), .int 0, .ref (f 2), .ref (f 3), .ref (f 4), .ref (f 5), .ref (f 6), .ref (f 7), .ref (f 8)])), (f 0, aI t 4), (f 1, aI t 4), (f 2, aI t 4), (f 3, aI t 4), (f 4, aI t 4), (f 5, aI t 16), (f 6, aI t 16), (f 7, aI t 4), (f 8, aI t 4)]
set_option maxHeartbeats 400000 in
set_option maxRecDepth 100000 in
theorem c_X4_init (l : Launch) (G : va_G) (t : Nat → ClassId) (h0 b1 : Nat) : Kt l G t 1 9 60 yX4_init cX4_init 2 [.ref h0, .ref b1] h0 (.inr (4, [.null, .int 0, .null, .null, .int 0, .null, .null, .null, .null, .null, .null, .null])) (pX4 t h0 b1) := by
  refine kt_of [.ref h0, .ref b1] (by decide) rfl (Nat.le_of_ble_eq_true rfl) rfl ?_
  intro Z A hl hnL g hA hret0 hret
  subst hl
  refine k_aload_n g dX4_init_0 rfl rfl ?_
  refine k_obj g dX4_init_1 rfl (ug_1 (List.mem_of_getElem? (i := 161) rfl) rfl) ob_i ob_c (Nat.le_of_ble_eq_true rfl) ?_
  refine k_aload_n g dX4_init_4 rfl rfl ?_
  refine k_iconst (v := 0) g dX4_init_5 rfl rfl ?_
  refine k_put (q0 := 0) (ws' := [(h0, .inr (4, [.null, .int 0, .null, .null, .int 0, .null, .null, .null, .null, .null, .null, .null]))]) g dX4_init_6 rfl fl_X4_9 rfl rfl (tyX4_ok 1 (Nat.le_of_ble_eq_true rfl)) rfl rfl (Nat.le_of_ble_eq_true rfl) rfl ?_
  refine k_aload_n g dX4_init_9 rfl rfl ?_
  refine k_iconst (v := 4) g dX4_init_10 rfl rfl ?_
  refine k_newa (atype := .int) (ty := .int) (N' := 4) (j := 0) (a0 := (4, .inl (fun _ => 0))) g dX4_init_11 rfl rfl ac_I rfl (fun _ => rfl) (by decide) (by decide) (Nat.le_of_ble_eq_true rfl) (Nat.le_of_ble_eq_true rfl) (Nat.le_of_ble_eq_true rfl) (fun q11 => ?_)
  show CW Z G A 13 [.ref h0, .ref b1] [.ref q11, .ref h0] ([(h0, .inr (4, [.null, .int 0, .null, .null, .int 0, .null, .null, .null, .null, .null, .null, .null])), (q11, aI t 4)]) 1 4 _
  refine k_put (q0 := 0) (ws' := [(h0, .inr (4, [.null, .int 0, .ref q11, .null, .int 0, .null, .null, .null, .null, .null, .null, .null])), (q11, aI t 4)]) g dX4_init_13 rfl fl_X4_15 rfl rfl (tyX4_ok 2 (Nat.le_of_ble_eq_true rfl)) rfl rfl (Nat.le_of_ble_eq_true rfl) rfl ?_
  refine k_aload_n g dX4_init_16 rfl rfl ?_
  refine k_iconst (v := 4) g dX4_init_17 rfl rfl ?_
  refine k_newa (atype := .int) (ty := .int) (N' := 4) (j := 0) (a0 := (4, .inl (fun _ => 0))) g dX4_init_18 rfl rfl ac_I rfl (fun _ => rfl) (by decide) (by decide) (Nat.le_of_ble_eq_true rfl) (Nat.le_of_ble_eq_true rfl) (Nat.le_of_ble_eq_true rfl) (fun q18 => ?_)
  show CW Z G A 20 [.ref h0, .ref b1] [.ref q18, .ref h0] ([(h0, .inr (4, [.null, .int 0, .ref q11, .null, .int 0, .null, .null, .null, .null, .null, .null, .null])), (q11, aI t 4), (q18, aI t 4)]) 2 8 _
  refine k_put (q0 := 0) (ws' := [(h0, .inr (4, [.null, .int 0, .ref q11, .ref q18, .int 0, .null, .null, .null, .null, .null, .null, .null])), (q11, aI t 4), (q18, aI t 4)]) g dX4_init_20 rfl fl_X4_19 rfl rfl (tyX4_ok 3 (Nat.le_of_ble_eq_true rfl)) rfl rfl (Nat.le_of_ble_eq_true rfl) rfl ?_
  refine k_aload_n g dX4_init_23 rfl rfl ?_
  refine k_iconst (v := 0) g dX4_init_24 rfl rfl ?_
  refine k_put (q0 := 0) (ws' := [(h0, .inr (4, [.null, .int 0, .ref q11, .ref q18, .int 0, .null, .null, .null, .null, .null, .null, .null])), (q11, aI t 4), (q18, aI t 4)]) g dX4_init_25 rfl fl_X4_22 rfl rfl (tyX4_ok 4 (Nat.le_of_ble_eq_true rfl)) rfl rfl (Nat.le_of_ble_eq_true rfl) rfl ?_
  refine k_aload_n g dX4_init_28 rfl rfl ?_
  refine k_iconst (v := 4) g dX4_init_29 rfl rfl ?_
  refine k_newa (atype := .int) (ty := .int) (N' := 4) (j := 0) (a0 := (4, .inl (fun _ => 0))) g dX4_init_30 rfl rfl ac_I rfl (fun _ => rfl) (by decide) (by decide) (Nat.le_of_ble_eq_true rfl) (Nat.le_of_ble_eq_true rfl) (Nat.le_of_ble_eq_true rfl) (fun q30 => ?_)
  show CW Z G A 32 [.ref h0, .ref b1] [.ref q30, .ref h0] ([(h0, .inr (4, [.null, .int 0, .ref q11, .ref q18, .int 0, .null, .null, .null, .null, .null, .null, .null])), (q11, aI t 4), (q18, aI t 4), (q30, aI t 4)]) 3 12 _
  refine k_put (q0 := 0) (ws' := [(h0, .inr (4, [.null, .int 0, .ref q11, .ref q18, .int 0, .ref q30, .null, .null, .null, .null, .null, .null])), (q11, aI t 4), (q18, aI t 4), (q30, aI t 4)]) g dX4_init_32 rfl fl_X4_25 rfl rfl (tyX4_ok 5 (Nat.le_of_ble_eq_true rfl)) rfl rfl (Nat.le_of_ble_eq_true rfl) rfl ?_
  refine k_aload_n g dX4_init_35 rfl rfl ?_
  refine k_iconst (v := 4) g dX4_init_36 rfl rfl ?_
  refine k_newa (atype := .int) (ty := .int) (N' := 4) (j := 0) (a0 := (4, .inl (fun _ => 0))) g dX4_init_37 rfl rfl ac_I rfl (fun _ => rfl) (by decide) (by decide) (Nat.le_of_ble_eq_true rfl) (Nat.le_of_ble_eq_true rfl) (Nat.le_of_ble_eq_true rfl) (fun q37 => ?_)
  show CW Z G A 39 [.ref h0, .ref b1] [.ref q37, .ref h0] ([(h0, .inr (4, [.null, .int 0, .ref q11, .ref q18, .int 0, .ref q30, .null, .null, .null, .null, .null, .null])), (q11, aI t 4), (q18, aI t 4), (q30, aI t 4), (q37, aI t 4)]) 4 16 _
  refine k_put (q0 := 0) (ws' := [(h0, .inr (4, [.null, .int 0, .ref q11, .ref q18, .int 0, .ref q30, .ref q37, .null, .null, .null, .null, .null])), (q11, aI t 4), (q18, aI t 4), (q30, aI t 4), (q37, aI t 4)]) g dX4_init_39 rfl fl_X4_28 rfl rfl (tyX4_ok 6 (Nat.le_of_ble_eq_true rfl)) rfl rfl (Nat.le_of_ble_eq_true rfl) rfl ?_
  refine k_aload_n g dX4_init_42 rfl rfl ?_
  refine k_iconst (v := 4) g dX4_init_43 rfl rfl ?_
  refine k_newa (atype := .int) (ty := .int) (N' := 4) (j := 0) (a0 := (4, .inl (fun _ => 0))) g dX4_init_44 rfl rfl ac_I rfl (fun _ => rfl) (by decide) (by decide) (Nat.le_of_ble_eq_true rfl) (Nat.le_of_ble_eq_true rfl) (Nat.le_of_ble_eq_true rfl) (fun q44 => ?_)
  show CW Z G A 46 [.ref h0, .ref b1] [.ref q44, .ref h0] ([(h0, .inr (4, [.null, .int 0, .ref q11, .ref q18, .int 0, .ref q30, .ref q37, .null, .null, .null, .null, .null])), (q11, aI t 4), (q18, aI t 4), (q30, aI t 4), (q37, aI t 4), (q44, aI t 4)]) 5 20 _
  refine k_put (q0 := 0) (ws' := [(h0, .inr (4, [.null, .int 0, .ref q11, .ref q18, .int 0, .ref q30, .ref q37, .ref q44, .null, .null, .null, .null])), (q11, aI t 4), (q18, aI t 4), (q30, aI t 4), (q37, aI t 4), (q44, aI t 4)]) g dX4_init_46 rfl fl_X4_31 rfl rfl (tyX4_ok 7 (Nat.le_of_ble_eq_true rfl)) rfl rfl (Nat.le_of_ble_eq_true rfl) rfl ?_
  refine k_aload_n g dX4_init_49 rfl rfl ?_
  refine k_bipush (v := 16) g dX4_init_50 rfl rfl ?_
  refine k_newa (atype := .int) (ty := .int) (N' := 16) (j := 0) (a0 := (16, .inl (fun _ => 0))) g dX4_init_52 rfl rfl ac_I rfl (fun _ => rfl) (by decide) (by decide) (Nat.le_of_ble_eq_true rfl) (Nat.le_of_ble_eq_true rfl) (Nat.le_of_ble_eq_true rfl) (fun q52 => ?_)
  show CW Z G A 54 [.ref h0, .ref b1] [.ref q52, .ref h0] ([(h0, .inr (4, [.null, .int 0, .ref q11, .ref q18, .int 0, .ref q30, .ref q37, .ref q44, .null, .null, .null, .null])), (q11, aI t 4), (q18, aI t 4), (q30, aI t 4), (q37, aI t 4), (q44, aI t 4), (q52, aI t 16)]) 6 36 _
  refine k_put (q0 := 0) (ws' := [(h0, .inr (4, [.null, .int 0, .ref q11, .ref q18, .int 0, .ref q30, .ref q37, .ref q44, .ref q52, .null, .null, .null])), (q11, aI t 4), (q18, aI t 4), (q30, aI t 4), (q37, aI t 4), (q44, aI t 4), (q52, aI t 16)]) g dX4_init_54 rfl fl_X4_34 rfl rfl (tyX4_ok 8 (Nat.le_of_ble_eq_true rfl)) rfl rfl (Nat.le_of_ble_eq_true rfl) rfl ?_
  refine k_aload_n g dX4_init_57 rfl rfl ?_
  refine k_bipush (v := 16) g dX4_init_58 rfl rfl ?_
  refine k_newa (atype := .int) (ty := .int) (N' := 16) (j := 0) (a0 := (16, .inl (fun _ => 0))) g dX4_init_60 rfl rfl ac_I rfl (fun _ => rfl) (by decide) (by decide) (Nat.le_of_ble_eq_true rfl) (Nat.le_of_ble_eq_true rfl) (Nat.le_of_ble_eq_true rfl) (fun q60 => ?_)
  show CW Z G A 62 [.ref h0, .ref b1] [.ref q60, .ref h0] ([(h0, .inr (4, [.null, .int 0, .ref q11, .ref q18, .int 0, .ref q30, .ref q37, .ref q44, .ref q52, .null, .null, .null])), (q11, aI t 4), (q18, aI t 4), (q30, aI t 4), (q37, aI t 4), (q44, aI t 4), (q52, aI t 16), (q60, aI t 16)]) 7 52 _
  refine k_put (q0 := 0) (ws' := [(h0, .inr (4, [.null, .int 0, .ref q11, .ref q18, .int 0, .ref q30, .ref q37, .ref q44, .ref q52, .ref q60, .null, .null])), (q11, aI t 4), (q18, aI t 4), (q30, aI t 4), (q37, aI t 4), (q44, aI t 4), (q52, aI t 16), (q60, aI t 16)]) g dX4_init_62 rfl fl_X4_37 rfl rfl (tyX4_ok 9 (Nat.le_of_ble_eq_true rfl)) rfl rfl (Nat.le_of_ble_eq_true rfl) rfl ?_
  refine k_aload_n g dX4_init_65 rfl rfl ?_
  refine k_iconst (v := 4) g dX4_init_66 rfl rfl ?_
  refine k_newa (atype := .int) (ty := .int) (N' := 4) (j := 0) (a0 := (4, .inl (fun _ => 0))) g dX4_init_67 rfl rfl ac_I rfl (fun _ => rfl) (by decide) (by decide) (Nat.le_of_ble_eq_true rfl) (Nat.le_of_ble_eq_true rfl) (Nat.le_of_ble_eq_true rfl) (fun q67 => ?_)
  show CW Z G A 69 [.ref h0, .ref b1] [.ref q67, .ref h0] ([(h0, .inr (4, [.null, .int 0, .ref q11, .ref q18, .int 0, .ref q30, .ref q37, .ref q44, .ref q52, .ref q60, .null, .null])), (q11, aI t 4), (q18, aI t 4), (q30, aI t 4), (q37, aI t 4), (q44, aI t 4), (q52, aI t 16), (q60, aI t 16), (q67, aI t 4)]) 8 56 _
  refine k_put (q0 := 0) (ws' := [(h0, .inr (4, [.null, .int 0, .ref q11, .ref q18, .int 0, .ref q30, .ref q37, .ref q44, .ref q52, .ref q60, .ref q67, .null])), (q11, aI t 4), (q18, aI t 4), (q30, aI t 4), (q37, aI t 4), (q44, aI t 4), (q52, aI t 16), (q60, aI t 16), (q67, aI t 4)]) g dX4_init_69 rfl fl_X4_40 rfl rfl (tyX4_ok 10 (Nat.le_of_ble_eq_true rfl)) rfl rfl (Nat.le_of_ble_eq_true rfl) rfl ?_
  refine k_aload_n g dX4_init_72 rfl rfl ?_
  refine k_iconst (v := 4) g dX4_init_73 rfl rfl ?_
  refine k_newa (atype := .int) (ty := .int) (N' := 4) (j := 0) (a0 := (4, .inl (fun _ => 0))) g dX4_init_74 rfl rfl ac_I rfl (fun _ => rfl) (by decide) (by decide) (Nat.le_of_ble_eq_true rfl) (Nat.le_of_ble_eq_true rfl) (Nat.le_of_ble_eq_true rfl) (fun q74 => ?_)
  show CW Z G A 76 [.ref h0, .ref b1] [.ref q74, .ref h0] ([(h0, .inr (4, [.null, .int 0, .ref q11, .ref q18, .int 0, .ref q30, .ref q37, .ref q44, .ref q52, .ref q60, .ref q67, .null])), (q11, aI t 4), (q18, aI t 4), (q30, aI t 4), (q37, aI t 4), (q44, aI t 4), (q52, aI t 16), (q60, aI t 16), (q67, aI t 4), (q74, aI t 4)]) 9 60 _
  refine k_put (q0 := 0) (ws' := [(h0, .inr (4, [.null, .int 0, .ref q11, .ref q18, .int 0, .ref q30, .ref q37, .ref q44, .ref q52, .ref q60, .ref q67, .ref q74])), (q11, aI t 4), (q18, aI t 4), (q30, aI t 4), (q37, aI t 4), (q44, aI t 4), (q52, aI t 16), (q60, aI t 16), (q67, aI t 4), (q74, aI t 4)]) g dX4_init_76 rfl fl_X4_43 rfl rfl (tyX4_ok 11 (Nat.le_of_ble_eq_true rfl)) rfl rfl (Nat.le_of_ble_eq_true rfl) rfl ?_
  refine k_aload_n g dX4_init_79 rfl rfl ?_
  refine k_aload_n g dX4_init_80 rfl rfl ?_
  refine k_put (q0 := 0) (ws' := [(h0, .inr (4, [.ref b1, .int 0, .ref q11, .ref q18, .int 0, .ref q30, .ref q37, .ref q44, .ref q52, .ref q60, .ref q67, .ref q74])), (q11, aI t 4), (q18, aI t 4), (q30, aI t 4), (q37, aI t 4), (q44, aI t 4), (q52, aI t 16), (q60, aI t 16), (q67, aI t 4), (q74, aI t 4)]) g dX4_init_81 rfl fl_X4_46 rfl rfl (tyX4_ok 0 (Nat.le_of_ble_eq_true rfl)) rfl rfl (Nat.le_of_ble_eq_true rfl) rfl ?_
  exact hret (fun i => match i with | 0 => q11 | 1 => q18 | 2 => q30 | 3 => q37 | 4 => q44 | 5 => q52 | 6 => q60 | 7 => q67 | 8 => q74 | _ => 0) _ _ dX4_init_84
def pX3 (t : Nat → ClassId) (h0 b1 : Nat) (f : Nat → Nat) : va_W := [(h0, .inr (3, [.ref b1, .ref (f 1), .ref (f 0), .int 1, .int (-9)])), (f 0, aI t 4096), (f 1, .inr (4, [.ref b1, .int 0, .ref (f 2), .ref (f 3), .int 0, .ref (f 4), .ref (f 5), .ref (f 6), .ref (f 7), .ref (f 8), .ref (f 9), .ref (f 10)])), (f 2, aI t 4), (f 3, aI t 4), (f 4, aI t 4), (f 5, aI t 4), (f 6, aI t 4), (f 7, aI t 16), (f 8, aI t 16), (f 9, aI t 4), (f 10, aI t 4)]
set_option maxHeartbeats 400000 in
set_option maxRecDepth 100000 in
theorem c_X3_init (l : Launch) (G : va_G) (t : Nat → ClassId) (h0 b1 : Nat) : Kt l G t 2 11 4168 yX3_init cX3_init 2 [.ref h0, .ref b1] h0 (.inr (3, [.null, .null, .null, .int 0, .int 0])) (pX3 t h0 b1) := by
  refine kt_of [.ref h0, .ref b1] (by decide) rfl (Nat.le_of_ble_eq_true rfl) rfl ?_
  intro Z A hl hnL g hA hret0 hret
  subst hl
  refine k_aload_n g dX3_init_0 rfl rfl ?_
  refine k_obj g dX3_init_1 rfl (ug_1 (List.mem_of_getElem? (i := 155) rfl) rfl) ob_i ob_c (Nat.le_of_ble_eq_true rfl) ?_
  refine k_aload_n g dX3_init_4 rfl rfl ?_
  refine k_sipush (v := 4096) g dX3_init_5 rfl rfl ?_
  refine k_newa (atype := .int) (ty := .int) (N' := 4096) (j := 0) (a0 := (4096, .inl (fun _ => 0))) g dX3_init_8 rfl rfl ac_I rfl (fun _ => rfl) (by decide) (by decide) (Nat.le_of_ble_eq_true rfl) (Nat.le_of_ble_eq_true rfl) (Nat.le_of_ble_eq_true rfl) (fun q8 => ?_)
  show CW Z G A 10 [.ref h0, .ref b1] [.ref q8, .ref h0] ([(h0, .inr (3, [.null, .null, .null, .int 0, .int 0])), (q8, aI t 4096)]) 1 4096 _
  refine k_put (q0 := 0) (ws' := [(h0, .inr (3, [.null, .null, .ref q8, .int 0, .int 0])), (q8, aI t 4096)]) g dX3_init_10 rfl fl_X3_9 rfl rfl (tyX3_ok 2 (Nat.le_of_ble_eq_true rfl)) rfl rfl (Nat.le_of_ble_eq_true rfl) rfl ?_
  refine k_aload_n g dX3_init_13 rfl rfl ?_
  refine k_iconst (v := 1) g dX3_init_14 rfl rfl ?_
  refine k_put (q0 := 0) (ws' := [(h0, .inr (3, [.null, .null, .ref q8, .int 1, .int 0])), (q8, aI t 4096)]) g dX3_init_15 rfl fl_X3_15 rfl rfl (tyX3_ok 3 (Nat.le_of_ble_eq_true rfl)) rfl rfl (Nat.le_of_ble_eq_true rfl) rfl ?_
  refine k_aload_n g dX3_init_18 rfl rfl ?_
  refine k_bipush (v := -9) g dX3_init_19 rfl rfl ?_
  refine k_put (q0 := 0) (ws' := [(h0, .inr (3, [.null, .null, .ref q8, .int 1, .int (-9)])), (q8, aI t 4096)]) g dX3_init_21 rfl fl_X3_19 rfl rfl (tyX3_ok 4 (Nat.le_of_ble_eq_true rfl)) rfl rfl (Nat.le_of_ble_eq_true rfl) rfl ?_
  refine k_aload_n g dX3_init_24 rfl rfl ?_
  refine k_aload_n g dX3_init_25 rfl rfl ?_
  refine k_put (q0 := 0) (ws' := [(h0, .inr (3, [.ref b1, .null, .ref q8, .int 1, .int (-9)])), (q8, aI t 4096)]) g dX3_init_26 rfl fl_X3_23 rfl rfl (tyX3_ok 0 (Nat.le_of_ble_eq_true rfl)) rfl rfl (Nat.le_of_ble_eq_true rfl) rfl ?_
  refine k_aload_n g dX3_init_29 rfl rfl ?_
  refine k_new (fs := [.null, .int 0, .null, .null, .int 0, .null, .null, .null, .null, .null, .null, .null]) g dX3_init_30 rfl kf_X4 (ug_1 (List.mem_of_getElem? (i := 156) rfl) rfl) (ug_1 (List.mem_of_getElem? (i := 157) rfl) rfl) (ug_1 (List.mem_of_getElem? (i := 8) rfl) rfl) (fun j hj => match j, hj with | 0, _ => rfl | 1, _ => rfl | 2, _ => rfl | 3, _ => rfl | 4, _ => rfl | 5, _ => rfl | 6, _ => rfl | 7, _ => rfl | 8, _ => rfl | 9, _ => rfl | 10, _ => rfl | 11, _ => rfl | j + 12, h => absurd h (by omega)) (Nat.le_of_ble_eq_true rfl) (Nat.le_of_ble_eq_true rfl) (fun q30 => ?_)
  show CW Z G A 33 [.ref h0, .ref b1] [.ref q30, .ref h0] ([(h0, .inr (3, [.ref b1, .null, .ref q8, .int 1, .int (-9)])), (q8, aI t 4096), (q30, .inr (4, [.null, .int 0, .null, .null, .int 0, .null, .null, .null, .null, .null, .null, .null]))]) 2 4108 _
  refine k_dup g dX3_init_33 rfl ?_
  refine k_aload_n g dX3_init_34 rfl rfl ?_
  refine k_init (As := [.ref b1]) (wr := [(h0, .inr (3, [.ref b1, .null, .ref q8, .int 1, .int (-9)])), (q8, aI t 4096)]) (rest := [.ref q30, .ref h0]) g dX3_init_35 rfl (ug_1 (List.mem_of_getElem? (i := 158) rfl) rfl) mw_X4_init (ug_1 (List.mem_of_getElem? (i := 159) rfl) rfl) rfl (Nat.le_of_ble_eq_true rfl) (c_X4_init _ G t q30 b1) rfl rfl rfl (Nat.le_of_ble_eq_true rfl) (Nat.le_of_ble_eq_true rfl) (Nat.le_of_ble_eq_true rfl) (Nat.le_of_ble_eq_true rfl) (fun f35 => ?_)
  show CW Z G A 38 [.ref h0, .ref b1] [.ref q30, .ref h0] ([(h0, .inr (3, [.ref b1, .null, .ref q8, .int 1, .int (-9)])), (q8, aI t 4096), (q30, .inr (4, [.ref b1, .int 0, .ref (f35 0), .ref (f35 1), .int 0, .ref (f35 2), .ref (f35 3), .ref (f35 4), .ref (f35 5), .ref (f35 6), .ref (f35 7), .ref (f35 8)])), ((f35 0), aI t 4), ((f35 1), aI t 4), ((f35 2), aI t 4), ((f35 3), aI t 4), ((f35 4), aI t 4), ((f35 5), aI t 16), ((f35 6), aI t 16), ((f35 7), aI t 4), ((f35 8), aI t 4)]) 11 4168 _
  refine k_put (q0 := 0) (ws' := [(h0, .inr (3, [.ref b1, .ref q30, .ref q8, .int 1, .int (-9)])), (q8, aI t 4096), (q30, .inr (4, [.ref b1, .int 0, .ref (f35 0), .ref (f35 1), .int 0, .ref (f35 2), .ref (f35 3), .ref (f35 4), .ref (f35 5), .ref (f35 6), .ref (f35 7), .ref (f35 8)])), ((f35 0), aI t 4), ((f35 1), aI t 4), ((f35 2), aI t 4), ((f35 3), aI t 4), ((f35 4), aI t 4), ((f35 5), aI t 16), ((f35 6), aI t 16), ((f35 7), aI t 4), ((f35 8), aI t 4)]) g dX3_init_38 rfl fl_X3_32 rfl rfl (tyX3_ok 1 (Nat.le_of_ble_eq_true rfl)) rfl rfl (Nat.le_of_ble_eq_true rfl) rfl ?_
  exact hret (fun i => match i with | 0 => q8 | 1 => q30 | 2 => (f35 0) | 3 => (f35 1) | 4 => (f35 2) | 5 => (f35 3) | 6 => (f35 4) | 7 => (f35 5) | 8 => (f35 6) | 9 => (f35 7) | 10 => (f35 8) | _ => 0) _ _ dX3_init_41
