def pX10 (t : Nat → ClassId) (h0 : Nat) (f : Nat → Nat) : va_W := [(h0, .inr (8, [.int 0, .ref (f 0), .int 0, .int 0, .ref (f 1), .ref (f 2), .int 0, .ref (f 11)])), (f 0, .inl (t 0, 43, .inl fN)), (f 1, aI t 12), (f 2, .inl (t 3, 4, .inr (.inr (.inr (.inr (fun j => some (f (3 + 2 * j)))))))), (f 3, .inr (5, [.ref (f 4), .int 0])), (f 4, aI t 40), (f 5, .inr (5, [.ref (f 6), .int 0])), (f 6, aI t 40), (f 7, .inr (5, [.ref (f 8), .int 0])), (f 8, aI t 40), (f 9, .inr (5, [.ref (f 10), .int 0])), (f 10, aI t 40), (f 11, aI t 16)]
set_option maxHeartbeats 400000 in
set_option maxRecDepth 100000 in
theorem c_X10_init (l : Launch) (G : va_G) (t : Nat → ClassId) (h0 : Nat) : Kt l G t 2 12 243 yX10_init cX10_init 2 [.ref h0] h0 (.inr (8, [.int 0, .null, .int 0, .int 0, .null, .null, .int 0, .null])) (pX10 t h0) := by
  refine kt_of [.ref h0, .null] (by decide) rfl (Nat.le_of_ble_eq_true rfl) rfl ?_
  intro Z A hl hnL g hA hret0 hret
  subst hl
  refine k_aload_n g dX10_init_0 rfl rfl ?_
  refine k_obj g dX10_init_1 rfl (ug_1 (List.mem_of_getElem? (i := 31) rfl) rfl) ob_i ob_c (Nat.le_of_ble_eq_true rfl) ?_
  refine k_aload_n g dX10_init_4 rfl rfl ?_
  refine k_iconst (v := 0) g dX10_init_5 rfl rfl ?_
  refine k_put (q0 := 0) (ws' := [(h0, .inr (8, [.int 0, .null, .int 0, .int 0, .null, .null, .int 0, .null]))]) g dX10_init_6 rfl fl_X10_9 rfl rfl (tyX10_ok 0 (Nat.le_of_ble_eq_true rfl)) rfl rfl (Nat.le_of_ble_eq_true rfl) rfl ?_
  refine k_aload_n g dX10_init_9 rfl rfl ?_
  refine k_bipush (v := 43) g dX10_init_10 rfl rfl ?_
  refine k_newa (atype := .int) (ty := .int) (N' := 43) (j := 0) (a0 := (43, .inl (fun _ => 0))) g dX10_init_12 rfl rfl ac_I rfl (fun _ => rfl) (by decide) (by decide) (Nat.le_of_ble_eq_true rfl) (Nat.le_of_ble_eq_true rfl) (Nat.le_of_ble_eq_true rfl) (fun q12 => ?_)
  show CW Z G A 14 [.ref h0, .null] [.ref q12, .ref h0] ([(h0, .inr (8, [.int 0, .null, .int 0, .int 0, .null, .null, .int 0, .null])), (q12, aI t 43)]) 1 43 _
  refine k_put (q0 := 0) (ws' := [(h0, .inr (8, [.int 0, .ref q12, .int 0, .int 0, .null, .null, .int 0, .null])), (q12, aI t 43)]) g dX10_init_14 rfl fl_X10_15 rfl rfl (tyX10_ok 1 (Nat.le_of_ble_eq_true rfl)) rfl rfl (Nat.le_of_ble_eq_true rfl) rfl ?_
  refine k_aload_n g dX10_init_17 rfl rfl ?_
  refine k_iconst (v := 0) g dX10_init_18 rfl rfl ?_
  refine k_put (q0 := 0) (ws' := [(h0, .inr (8, [.int 0, .ref q12, .int 0, .int 0, .null, .null, .int 0, .null])), (q12, aI t 43)]) g dX10_init_19 rfl fl_X10_19 rfl rfl (tyX10_ok 2 (Nat.le_of_ble_eq_true rfl)) rfl rfl (Nat.le_of_ble_eq_true rfl) rfl ?_
  refine k_aload_n g dX10_init_22 rfl rfl ?_
  refine k_iconst (v := 0) g dX10_init_23 rfl rfl ?_
  refine k_put (q0 := 0) (ws' := [(h0, .inr (8, [.int 0, .ref q12, .int 0, .int 0, .null, .null, .int 0, .null])), (q12, aI t 43)]) g dX10_init_24 rfl fl_X10_22 rfl rfl (tyX10_ok 3 (Nat.le_of_ble_eq_true rfl)) rfl rfl (Nat.le_of_ble_eq_true rfl) rfl ?_
  refine k_aload_n g dX10_init_27 rfl rfl ?_
  refine k_bipush (v := 12) g dX10_init_28 rfl rfl ?_
  refine k_newa (atype := .int) (ty := .int) (N' := 12) (j := 0) (a0 := (12, .inl (fun _ => 0))) g dX10_init_30 rfl rfl ac_I rfl (fun _ => rfl) (by decide) (by decide) (Nat.le_of_ble_eq_true rfl) (Nat.le_of_ble_eq_true rfl) (Nat.le_of_ble_eq_true rfl) (fun q30 => ?_)
  show CW Z G A 32 [.ref h0, .null] [.ref q30, .ref h0] ([(h0, .inr (8, [.int 0, .ref q12, .int 0, .int 0, .null, .null, .int 0, .null])), (q12, aI t 43), (q30, aI t 12)]) 2 55 _
  refine k_put (q0 := 0) (ws' := [(h0, .inr (8, [.int 0, .ref q12, .int 0, .int 0, .ref q30, .null, .int 0, .null])), (q12, aI t 43), (q30, aI t 12)]) g dX10_init_32 rfl fl_X10_25 rfl rfl (tyX10_ok 4 (Nat.le_of_ble_eq_true rfl)) rfl rfl (Nat.le_of_ble_eq_true rfl) rfl ?_
  refine k_aload_n g dX10_init_35 rfl rfl ?_
  refine k_iconst (v := 4) g dX10_init_36 rfl rfl ?_
  refine k_newq (N' := 4) g dX10_init_37 rfl (ug_1 (List.mem_of_getElem? (i := 32) rfl) rfl) (by decide) (by decide) (Nat.le_of_ble_eq_true rfl) (Nat.le_of_ble_eq_true rfl) (Nat.le_of_ble_eq_true rfl) (fun q37 => ?_)
  show CW Z G A 40 [.ref h0, .null] [.ref q37, .ref h0] ([(h0, .inr (8, [.int 0, .ref q12, .int 0, .int 0, .ref q30, .null, .int 0, .null])), (q12, aI t 43), (q30, aI t 12), (q37, .inl (t 3, 4, .inr (.inr (.inr (.inr (fun _ => none))))))]) 3 59 _
  refine k_dup g dX10_init_40 rfl ?_
  refine k_iconst (v := 0) g dX10_init_41 rfl rfl ?_
  refine k_new (fs := [.null, .int 0]) g dX10_init_42 rfl kf_X7 (ug_1 (List.mem_of_getElem? (i := 32) rfl) rfl) (ug_1 (List.mem_of_getElem? (i := 34) rfl) rfl) (ug_1 (List.mem_of_getElem? (i := 3) rfl) rfl) (fun j hj => match j, hj with | 0, _ => rfl | 1, _ => rfl | j + 2, h => absurd h (by omega)) (Nat.le_of_ble_eq_true rfl) (Nat.le_of_ble_eq_true rfl) (fun q42 => ?_)
  show CW Z G A 45 [.ref h0, .null] [.ref q42, .int 0, .ref q37, .ref q37, .ref h0] ([(h0, .inr (8, [.int 0, .ref q12, .int 0, .int 0, .ref q30, .null, .int 0, .null])), (q12, aI t 43), (q30, aI t 12), (q37, .inl (t 3, 4, .inr (.inr (.inr (.inr (fun _ => none)))))), (q42, .inr (5, [.null, .int 0]))]) 4 61 _
  refine k_dup g dX10_init_45 rfl ?_
  refine k_initN (As := []) (wr := [(h0, .inr (8, [.int 0, .ref q12, .int 0, .int 0, .ref q30, .null, .int 0, .null])), (q12, aI t 43), (q30, aI t 12), (q37, .inl (t 3, 4, .inr (.inr (.inr (.inr (fun _ => none))))))]) (rest := [.ref q42, .int 0, .ref q37, .ref q37, .ref h0]) g dX10_init_46 rfl g.2.2.2.2.2.2.2.2.1.1 mw_X7_init (ug_1 (List.mem_of_getElem? (i := 36) rfl) rfl) rfl (Nat.le_of_ble_eq_true rfl) (c_X7_init _ G t q42 ) rfl rfl rfl (Nat.le_of_ble_eq_true rfl) (Nat.le_of_ble_eq_true rfl) (Nat.le_of_ble_eq_true rfl) (Nat.le_of_ble_eq_true rfl) (fun f46 => ?_)
  show CW Z G A 49 [.ref h0, .null] [.ref q42, .int 0, .ref q37, .ref q37, .ref h0] ([(h0, .inr (8, [.int 0, .ref q12, .int 0, .int 0, .ref q30, .null, .int 0, .null])), (q12, aI t 43), (q30, aI t 12), (q37, .inl (t 3, 4, .inr (.inr (.inr (.inr (fun _ => none)))))), (q42, .inr (5, [.ref (f46 0), .int 0])), ((f46 0), aI t 40)]) 5 101 _
  refine k_aast (q0 := 3) (qk := 4) (ws' := [(h0, .inr (8, [.int 0, .ref q12, .int 0, .int 0, .ref q30, .null, .int 0, .null])), (q12, aI t 43), (q30, aI t 12), (q37, .inl (t 3, 4, .inr (.inr (.inr (.inr (va_up (fun _ => none) 0 (some q42))))))), (q42, .inr (5, [.ref (f46 0), .int 0])), ((f46 0), aI t 40)]) g dX10_init_49 rfl rfl rfl (inb_in (by decide)) rfl ?_
  refine k_dup g dX10_init_50 rfl ?_
  refine k_iconst (v := 1) g dX10_init_51 rfl rfl ?_
  refine k_new (fs := [.null, .int 0]) g dX10_init_52 rfl kf_X7 (ug_1 (List.mem_of_getElem? (i := 32) rfl) rfl) (ug_1 (List.mem_of_getElem? (i := 34) rfl) rfl) (ug_1 (List.mem_of_getElem? (i := 3) rfl) rfl) (fun j hj => match j, hj with | 0, _ => rfl | 1, _ => rfl | j + 2, h => absurd h (by omega)) (Nat.le_of_ble_eq_true rfl) (Nat.le_of_ble_eq_true rfl) (fun q52 => ?_)
  show CW Z G A 55 [.ref h0, .null] [.ref q52, .int 1, .ref q37, .ref q37, .ref h0] ([(h0, .inr (8, [.int 0, .ref q12, .int 0, .int 0, .ref q30, .null, .int 0, .null])), (q12, aI t 43), (q30, aI t 12), (q37, .inl (t 3, 4, .inr (.inr (.inr (.inr (va_up (fun _ => none) 0 (some q42))))))), (q42, .inr (5, [.ref (f46 0), .int 0])), ((f46 0), aI t 40), (q52, .inr (5, [.null, .int 0]))]) 6 103 _
  refine k_dup g dX10_init_55 rfl ?_
  refine k_initN (As := []) (wr := [(h0, .inr (8, [.int 0, .ref q12, .int 0, .int 0, .ref q30, .null, .int 0, .null])), (q12, aI t 43), (q30, aI t 12), (q37, .inl (t 3, 4, .inr (.inr (.inr (.inr (va_up (fun _ => none) 0 (some q42))))))), (q42, .inr (5, [.ref (f46 0), .int 0])), ((f46 0), aI t 40)]) (rest := [.ref q52, .int 1, .ref q37, .ref q37, .ref h0]) g dX10_init_56 rfl g.2.2.2.2.2.2.2.2.1.1 mw_X7_init (ug_1 (List.mem_of_getElem? (i := 36) rfl) rfl) rfl (Nat.le_of_ble_eq_true rfl) (c_X7_init _ G t q52 ) rfl rfl rfl (Nat.le_of_ble_eq_true rfl) (Nat.le_of_ble_eq_true rfl) (Nat.le_of_ble_eq_true rfl) (Nat.le_of_ble_eq_true rfl) (fun f56 => ?_)
  show CW Z G A 59 [.ref h0, .null] [.ref q52, .int 1, .ref q37, .ref q37, .ref h0] ([(h0, .inr (8, [.int 0, .ref q12, .int 0, .int 0, .ref q30, .null, .int 0, .null])), (q12, aI t 43), (q30, aI t 12), (q37, .inl (t 3, 4, .inr (.inr (.inr (.inr (va_up (fun _ => none) 0 (some q42))))))), (q42, .inr (5, [.ref (f46 0), .int 0])), ((f46 0), aI t 40), (q52, .inr (5, [.ref (f56 0), .int 0])), ((f56 0), aI t 40)]) 7 143 _
  refine k_aast (q0 := 3) (qk := 6) (ws' := [(h0, .inr (8, [.int 0, .ref q12, .int 0, .int 0, .ref q30, .null, .int 0, .null])), (q12, aI t 43), (q30, aI t 12), (q37, .inl (t 3, 4, .inr (.inr (.inr (.inr (va_up (va_up (fun _ => none) 0 (some q42)) 1 (some q52))))))), (q42, .inr (5, [.ref (f46 0), .int 0])), ((f46 0), aI t 40), (q52, .inr (5, [.ref (f56 0), .int 0])), ((f56 0), aI t 40)]) g dX10_init_59 rfl rfl rfl (inb_in (by decide)) rfl ?_
  refine k_dup g dX10_init_60 rfl ?_
  refine k_iconst (v := 2) g dX10_init_61 rfl rfl ?_
  refine k_new (fs := [.null, .int 0]) g dX10_init_62 rfl kf_X7 (ug_1 (List.mem_of_getElem? (i := 32) rfl) rfl) (ug_1 (List.mem_of_getElem? (i := 34) rfl) rfl) (ug_1 (List.mem_of_getElem? (i := 3) rfl) rfl) (fun j hj => match j, hj with | 0, _ => rfl | 1, _ => rfl | j + 2, h => absurd h (by omega)) (Nat.le_of_ble_eq_true rfl) (Nat.le_of_ble_eq_true rfl) (fun q62 => ?_)
  show CW Z G A 65 [.ref h0, .null] [.ref q62, .int 2, .ref q37, .ref q37, .ref h0] ([(h0, .inr (8, [.int 0, .ref q12, .int 0, .int 0, .ref q30, .null, .int 0, .null])), (q12, aI t 43), (q30, aI t 12), (q37, .inl (t 3, 4, .inr (.inr (.inr (.inr (va_up (va_up (fun _ => none) 0 (some q42)) 1 (some q52))))))), (q42, .inr (5, [.ref (f46 0), .int 0])), ((f46 0), aI t 40), (q52, .inr (5, [.ref (f56 0), .int 0])), ((f56 0), aI t 40), (q62, .inr (5, [.null, .int 0]))]) 8 145 _
  refine k_dup g dX10_init_65 rfl ?_
  refine k_initN (As := []) (wr := [(h0, .inr (8, [.int 0, .ref q12, .int 0, .int 0, .ref q30, .null, .int 0, .null])), (q12, aI t 43), (q30, aI t 12), (q37, .inl (t 3, 4, .inr (.inr (.inr (.inr (va_up (va_up (fun _ => none) 0 (some q42)) 1 (some q52))))))), (q42, .inr (5, [.ref (f46 0), .int 0])), ((f46 0), aI t 40), (q52, .inr (5, [.ref (f56 0), .int 0])), ((f56 0), aI t 40)]) (rest := [.ref q62, .int 2, .ref q37, .ref q37, .ref h0]) g dX10_init_66 rfl g.2.2.2.2.2.2.2.2.1.1 mw_X7_init (ug_1 (List.mem_of_getElem? (i := 36) rfl) rfl) rfl (Nat.le_of_ble_eq_true rfl) (c_X7_init _ G t q62 ) rfl rfl rfl (Nat.le_of_ble_eq_true rfl) (Nat.le_of_ble_eq_true rfl) (Nat.le_of_ble_eq_true rfl) (Nat.le_of_ble_eq_true rfl) (fun f66 => ?_)
  show CW Z G A 69 [.ref h0, .null] [.ref q62, .int 2, .ref q37, .ref q37, .ref h0] ([(h0, .inr (8, [.int 0, .ref q12, .int 0, .int 0, .ref q30, .null, .int 0, .null])), (q12, aI t 43), (q30, aI t 12), (q37, .inl (t 3, 4, .inr (.inr (.inr (.inr (va_up (va_up (fun _ => none) 0 (some q42)) 1 (some q52))))))), (q42, .inr (5, [.ref (f46 0), .int 0])), ((f46 0), aI t 40), (q52, .inr (5, [.ref (f56 0), .int 0])), ((f56 0), aI t 40), (q62, .inr (5, [.ref (f66 0), .int 0])), ((f66 0), aI t 40)]) 9 185 _
  refine k_aast (q0 := 3) (qk := 8) (ws' := [(h0, .inr (8, [.int 0, .ref q12, .int 0, .int 0, .ref q30, .null, .int 0, .null])), (q12, aI t 43), (q30, aI t 12), (q37, .inl (t 3, 4, .inr (.inr (.inr (.inr (va_up (va_up (va_up (fun _ => none) 0 (some q42)) 1 (some q52)) 2 (some q62))))))), (q42, .inr (5, [.ref (f46 0), .int 0])), ((f46 0), aI t 40), (q52, .inr (5, [.ref (f56 0), .int 0])), ((f56 0), aI t 40), (q62, .inr (5, [.ref (f66 0), .int 0])), ((f66 0), aI t 40)]) g dX10_init_69 rfl rfl rfl (inb_in (by decide)) rfl ?_
  refine k_dup g dX10_init_70 rfl ?_
  refine k_iconst (v := 3) g dX10_init_71 rfl rfl ?_
  refine k_new (fs := [.null, .int 0]) g dX10_init_72 rfl kf_X7 (ug_1 (List.mem_of_getElem? (i := 32) rfl) rfl) (ug_1 (List.mem_of_getElem? (i := 34) rfl) rfl) (ug_1 (List.mem_of_getElem? (i := 3) rfl) rfl) (fun j hj => match j, hj with | 0, _ => rfl | 1, _ => rfl | j + 2, h => absurd h (by omega)) (Nat.le_of_ble_eq_true rfl) (Nat.le_of_ble_eq_true rfl) (fun q72 => ?_)
  show CW Z G A 75 [.ref h0, .null] [.ref q72, .int 3, .ref q37, .ref q37, .ref h0] ([(h0, .inr (8, [.int 0, .ref q12, .int 0, .int 0, .ref q30, .null, .int 0, .null])), (q12, aI t 43), (q30, aI t 12), (q37, .inl (t 3, 4, .inr (.inr (.inr (.inr (va_up (va_up (va_up (fun _ => none) 0 (some q42)) 1 (some q52)) 2 (some q62))))))), (q42, .inr (5, [.ref (f46 0), .int 0])), ((f46 0), aI t 40), (q52, .inr (5, [.ref (f56 0), .int 0])), ((f56 0), aI t 40), (q62, .inr (5, [.ref (f66 0), .int 0])), ((f66 0), aI t 40), (q72, .inr (5, [.null, .int 0]))]) 10 187 _
  refine k_dup g dX10_init_75 rfl ?_
  refine k_initN (As := []) (wr := [(h0, .inr (8, [.int 0, .ref q12, .int 0, .int 0, .ref q30, .null, .int 0, .null])), (q12, aI t 43), (q30, aI t 12), (q37, .inl (t 3, 4, .inr (.inr (.inr (.inr (va_up (va_up (va_up (fun _ => none) 0 (some q42)) 1 (some q52)) 2 (some q62))))))), (q42, .inr (5, [.ref (f46 0), .int 0])), ((f46 0), aI t 40), (q52, .inr (5, [.ref (f56 0), .int 0])), ((f56 0), aI t 40), (q62, .inr (5, [.ref (f66 0), .int 0])), ((f66 0), aI t 40)]) (rest := [.ref q72, .int 3, .ref q37, .ref q37, .ref h0]) g dX10_init_76 rfl g.2.2.2.2.2.2.2.2.1.1 mw_X7_init (ug_1 (List.mem_of_getElem? (i := 36) rfl) rfl) rfl (Nat.le_of_ble_eq_true rfl) (c_X7_init _ G t q72 ) rfl rfl rfl (Nat.le_of_ble_eq_true rfl) (Nat.le_of_ble_eq_true rfl) (Nat.le_of_ble_eq_true rfl) (Nat.le_of_ble_eq_true rfl) (fun f76 => ?_)
  show CW Z G A 79 [.ref h0, .null] [.ref q72, .int 3, .ref q37, .ref q37, .ref h0] ([(h0, .inr (8, [.int 0, .ref q12, .int 0, .int 0, .ref q30, .null, .int 0, .null])), (q12, aI t 43), (q30, aI t 12), (q37, .inl (t 3, 4, .inr (.inr (.inr (.inr (va_up (va_up (va_up (fun _ => none) 0 (some q42)) 1 (some q52)) 2 (some q62))))))), (q42, .inr (5, [.ref (f46 0), .int 0])), ((f46 0), aI t 40), (q52, .inr (5, [.ref (f56 0), .int 0])), ((f56 0), aI t 40), (q62, .inr (5, [.ref (f66 0), .int 0])), ((f66 0), aI t 40), (q72, .inr (5, [.ref (f76 0), .int 0])), ((f76 0), aI t 40)]) 11 227 _
  refine k_aast (q0 := 3) (qk := 10) (ws' := [(h0, .inr (8, [.int 0, .ref q12, .int 0, .int 0, .ref q30, .null, .int 0, .null])), (q12, aI t 43), (q30, aI t 12), (q37, .inl (t 3, 4, .inr (.inr (.inr (.inr (va_up (va_up (va_up (va_up (fun _ => none) 0 (some q42)) 1 (some q52)) 2 (some q62)) 3 (some q72))))))), (q42, .inr (5, [.ref (f46 0), .int 0])), ((f46 0), aI t 40), (q52, .inr (5, [.ref (f56 0), .int 0])), ((f56 0), aI t 40), (q62, .inr (5, [.ref (f66 0), .int 0])), ((f66 0), aI t 40), (q72, .inr (5, [.ref (f76 0), .int 0])), ((f76 0), aI t 40)]) g dX10_init_79 rfl rfl rfl (inb_in (by decide)) rfl ?_
  refine k_put (q0 := 0) (ws' := [(h0, .inr (8, [.int 0, .ref q12, .int 0, .int 0, .ref q30, .ref q37, .int 0, .null])), (q12, aI t 43), (q30, aI t 12), (q37, .inl (t 3, 4, .inr (.inr (.inr (.inr (va_up (va_up (va_up (va_up (fun _ => none) 0 (some q42)) 1 (some q52)) 2 (some q62)) 3 (some q72))))))), (q42, .inr (5, [.ref (f46 0), .int 0])), ((f46 0), aI t 40), (q52, .inr (5, [.ref (f56 0), .int 0])), ((f56 0), aI t 40), (q62, .inr (5, [.ref (f66 0), .int 0])), ((f66 0), aI t 40), (q72, .inr (5, [.ref (f76 0), .int 0])), ((f76 0), aI t 40)]) g dX10_init_80 rfl fl_X10_31 rfl rfl (tyX10_ok 5 (Nat.le_of_ble_eq_true rfl)) rfl rfl (Nat.le_of_ble_eq_true rfl) rfl ?_
  refine k_aload_n g dX10_init_83 rfl rfl ?_
  refine k_iconst (v := 0) g dX10_init_84 rfl rfl ?_
  refine k_put (q0 := 0) (ws' := [(h0, .inr (8, [.int 0, .ref q12, .int 0, .int 0, .ref q30, .ref q37, .int 0, .null])), (q12, aI t 43), (q30, aI t 12), (q37, .inl (t 3, 4, .inr (.inr (.inr (.inr (va_up (va_up (va_up (va_up (fun _ => none) 0 (some q42)) 1 (some q52)) 2 (some q62)) 3 (some q72))))))), (q42, .inr (5, [.ref (f46 0), .int 0])), ((f46 0), aI t 40), (q52, .inr (5, [.ref (f56 0), .int 0])), ((f56 0), aI t 40), (q62, .inr (5, [.ref (f66 0), .int 0])), ((f66 0), aI t 40), (q72, .inr (5, [.ref (f76 0), .int 0])), ((f76 0), aI t 40)]) g dX10_init_85 rfl fl_X10_35 rfl rfl (tyX10_ok 6 (Nat.le_of_ble_eq_true rfl)) rfl rfl (Nat.le_of_ble_eq_true rfl) rfl ?_
  refine k_aload_n g dX10_init_88 rfl rfl ?_
  refine k_bipush (v := 16) g dX10_init_89 rfl rfl ?_
  refine k_newa (atype := .int) (ty := .int) (N' := 16) (j := 0) (a0 := (16, .inl (fun _ => 0))) g dX10_init_91 rfl rfl ac_I rfl (fun _ => rfl) (by decide) (by decide) (Nat.le_of_ble_eq_true rfl) (Nat.le_of_ble_eq_true rfl) (Nat.le_of_ble_eq_true rfl) (fun q91 => ?_)
  show CW Z G A 93 [.ref h0, .null] [.ref q91, .ref h0] ([(h0, .inr (8, [.int 0, .ref q12, .int 0, .int 0, .ref q30, .ref q37, .int 0, .null])), (q12, aI t 43), (q30, aI t 12), (q37, .inl (t 3, 4, .inr (.inr (.inr (.inr (va_up (va_up (va_up (va_up (fun _ => none) 0 (some q42)) 1 (some q52)) 2 (some q62)) 3 (some q72))))))), (q42, .inr (5, [.ref (f46 0), .int 0])), ((f46 0), aI t 40), (q52, .inr (5, [.ref (f56 0), .int 0])), ((f56 0), aI t 40), (q62, .inr (5, [.ref (f66 0), .int 0])), ((f66 0), aI t 40), (q72, .inr (5, [.ref (f76 0), .int 0])), ((f76 0), aI t 40), (q91, aI t 16)]) 12 243 _
  refine k_put (q0 := 0) (ws' := [(h0, .inr (8, [.int 0, .ref q12, .int 0, .int 0, .ref q30, .ref q37, .int 0, .ref q91])), (q12, aI t 43), (q30, aI t 12), (q37, .inl (t 3, 4, .inr (.inr (.inr (.inr (va_up (va_up (va_up (va_up (fun _ => none) 0 (some q42)) 1 (some q52)) 2 (some q62)) 3 (some q72))))))), (q42, .inr (5, [.ref (f46 0), .int 0])), ((f46 0), aI t 40), (q52, .inr (5, [.ref (f56 0), .int 0])), ((f56 0), aI t 40), (q62, .inr (5, [.ref (f66 0), .int 0])), ((f66 0), aI t 40), (q72, .inr (5, [.ref (f76 0), .int 0])), ((f76 0), aI t 40), (q91, aI t 16)]) g dX10_init_93 rfl fl_X10_38 rfl rfl (tyX10_ok 7 (Nat.le_of_ble_eq_true rfl)) rfl rfl (Nat.le_of_ble_eq_true rfl) rfl ?_
  refine k_bipush (v := 24) g dX10_init_96 rfl rfl ?_
  refine k_istore_n g dX10_init_98 rfl (by rw [hnL]; decide) rfl rfl ?_
  -- the rows of rules as one function
  refine k_conv (q0 := 3) (f' := fun j => some ((fun i => match i with | 0 => q12 | 1 => q30 | 2 => q37 | 3 => q42 | 4 => (f46 0) | 5 => q52 | 6 => (f56 0) | 7 => q62 | 8 => (f66 0) | 9 => q72 | 10 => (f76 0) | 11 => q91 | _ => 0) (3 + 2 * j))) rfl (fun j hj => match j, hj with | 0, _ => rfl | 1, _ => rfl | 2, _ => rfl | 3, _ => rfl | j + 4, h => absurd h (by omega)) rfl ?_
  have loop : ∀ (F : Nat → Nat) d j, j + d = 40 → 24 ≤ j → CW Z G A 99 [.ref h0, .int (nI j)] [] ([(h0, .inr (8, [.int 0, .ref (F 0), .int 0, .int 0, .ref (F 1), .ref (F 2), .int 0, .ref (F 11)])), (F 0, .inl (t 0, 43, .inl (fT j))), (F 1, aI t 12), (F 2, .inl (t 3, 4, .inr (.inr (.inr (.inr (fun j => some (F (3 + 2 * j)))))))), (F 3, .inr (5, [.ref (F 4), .int 0])), (F 4, aI t 40), (F 5, .inr (5, [.ref (F 6), .int 0])), (F 6, aI t 40), (F 7, .inr (5, [.ref (F 8), .int 0])), (F 8, aI t 40), (F 9, .inr (5, [.ref (F 10), .int 0])), (F 10, aI t 40), (F 11, aI t 16)]) 12 243 (MQ Z.2.1.2.2.1 (fun _ st o u => o = .returned none ∧ (∃ f : Nat → Nat, va_P G vwCl (pX10 t h0 f) u.heap ∧ va_D A (pX10 t h0 f)) ∧ va_F A st u) Z.2.1.2.1 Z.1.2.2.2.2 12 243 A) := by
    intro F d
    induction d with
    | zero =>
      intro j hj h24
      have : j = 40 := by omega
      subst this
      refine k_iload_n g dX10_init_99 rfl rfl ?_
      refine k_bipush (v := 40) g dX10_init_100 rfl rfl ?_
      refine k_cge g dX10_init_102 rfl (tgt := 119) rfl (fun _ => ?_) (fun q => absurd q (by decide))
      refine k_aload_n g dX10_init_119 rfl rfl ?_
      refine k_get (q0 := 0) g dX10_init_120 rfl fl_X10_15 rfl rfl ?_
      refine k_bipush (v := 40) g dX10_init_123 rfl rfl ?_
      refine k_bipush (v := 10) g dX10_init_125 rfl rfl ?_
      refine k_iast (q0 := 1) g dX10_init_127 rfl rfl (inb_in (by decide)) rfl ?_
      refine k_aload_n g dX10_init_128 rfl rfl ?_
      refine k_get (q0 := 0) g dX10_init_129 rfl fl_X10_15 rfl rfl ?_
      refine k_bipush (v := 41) g dX10_init_132 rfl rfl ?_
      refine k_bipush (v := 100) g dX10_init_134 rfl rfl ?_
      refine k_iast (q0 := 1) g dX10_init_136 rfl rfl (inb_in (by decide)) rfl ?_
      refine k_aload_n g dX10_init_137 rfl rfl ?_
      refine k_get (q0 := 0) g dX10_init_138 rfl fl_X10_15 rfl rfl ?_
      refine k_bipush (v := 42) g dX10_init_141 rfl rfl ?_
      refine k_iconst (v := 4) g dX10_init_143 rfl rfl ?_
      refine k_iast (q0 := 1) g dX10_init_144 rfl rfl (inb_in (by decide)) rfl ?_
      exact hret F _ _ dX10_init_145
    | succ d ih =>
      intro j hj h24
      refine k_iload_n g dX10_init_99 rfl rfl ?_
      refine k_bipush (v := 40) g dX10_init_100 rfl rfl ?_
      refine k_cge g dX10_init_102 rfl (tgt := 119) rfl (fun q => absurd (show nI j < 40 by rw [lt40 (by omega)]; omega) q) (fun _ => ?_)
      refine k_aload_n g dX10_init_105 rfl rfl ?_
      refine k_get (q0 := 0) g dX10_init_106 rfl fl_X10_15 rfl rfl ?_
      refine k_iload_n g dX10_init_109 rfl rfl ?_
      refine k_bipush (v := 99) g dX10_init_110 rfl rfl ?_
      refine k_iast (q0 := 1) (ws' := [(h0, .inr (8, [.int 0, .ref (F 0), .int 0, .int 0, .ref (F 1), .ref (F 2), .int 0, .ref (F 11)])), (F 0, .inl (t 0, 43, .inl (fT (j + 1)))), (F 1, aI t 12), (F 2, .inl (t 3, 4, .inr (.inr (.inr (.inr (fun j => some (F (3 + 2 * j)))))))), (F 3, .inr (5, [.ref (F 4), .int 0])), (F 4, aI t 40), (F 5, .inr (5, [.ref (F 6), .int 0])), (F 6, aI t 40), (F 7, .inr (5, [.ref (F 8), .int 0])), (F 8, aI t 40), (F 9, .inr (5, [.ref (F 10), .int 0])), (F 10, aI t 40), (F 11, aI t 16)]) g dX10_init_112 rfl rfl (inb_in (inb_n (by omega) (by omega))) (by rw [show (nI j).toNatClampNeg = j from ix_n (by omega), fT_s h24]; rfl) ?_
      refine k_iinc (b := 1) g dX10_init_113 rfl rfl rfl (by rw [hnL]; decide) rfl rfl ?_
      refine k_goto g dX10_init_116 (tgt := 99) rfl ?_
      have := ih (j + 1) (by omega) (by omega)
      rw [← nI_1] at this
      exact this
  have := loop (fun i => match i with | 0 => q12 | 1 => q30 | 2 => q37 | 3 => q42 | 4 => (f46 0) | 5 => q52 | 6 => (f56 0) | 7 => q62 | 8 => (f66 0) | 9 => q72 | 10 => (f76 0) | 11 => q91 | _ => 0) 16 24 rfl (by omega)
  rw [fT_0] at this
  exact this
