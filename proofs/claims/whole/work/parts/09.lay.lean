def entC : Ent := fun w k m m2 => match k with
  | 0 => .inr (9, [rf w 1, rf w 14, .int (m 2), rf w 27, rf w 30, rf w 32, .int (m 6), rf w 33, rf w 34, rf w 38, rf w 50, rf w 51])
  | 1 => .inr (8, [.int (m 0), rf w 2, .int (m 2), .int (m 3), rf w 3, rf w 4, .int (m 6), rf w 13])
  | 2 => .inl (w.2.2.1 0, 43, .inl m)
  | 3 => .inl (w.2.2.1 0, 12, .inl m)
  | 4 => .inl (w.2.2.1 3, 4, .inr (.inr (.inr (.inr (fun j => some (w.2.1 (5 + 2 * j)))))))
  | 5 => .inr (5, [rf w 6, .int (m 1)])
  | 6 => .inl (w.2.2.1 0, 40, .inl m)
  | 7 => .inr (5, [rf w 8, .int (m 1)])
  | 8 => .inl (w.2.2.1 0, 40, .inl m)
  | 9 => .inr (5, [rf w 10, .int (m 1)])
  | 10 => .inl (w.2.2.1 0, 40, .inl m)
  | 11 => .inr (5, [rf w 12, .int (m 1)])
  | 12 => .inl (w.2.2.1 0, 40, .inl m)
  | 13 => .inl (w.2.2.1 0, 16, .inl m)
  | 14 => .inr (8, [.int (m 0), rf w 15, .int (m 2), .int (m 3), rf w 16, rf w 17, .int (m 6), rf w 26])
  | 15 => .inl (w.2.2.1 0, 43, .inl m)
  | 16 => .inl (w.2.2.1 0, 12, .inl m)
  | 17 => .inl (w.2.2.1 3, 4, .inr (.inr (.inr (.inr (fun j => some (w.2.1 (18 + 2 * j)))))))
  | 18 => .inr (5, [rf w 19, .int (m 1)])
  | 19 => .inl (w.2.2.1 0, 40, .inl m)
  | 20 => .inr (5, [rf w 21, .int (m 1)])
  | 21 => .inl (w.2.2.1 0, 40, .inl m)
  | 22 => .inr (5, [rf w 23, .int (m 1)])
  | 23 => .inl (w.2.2.1 0, 40, .inl m)
  | 24 => .inr (5, [rf w 25, .int (m 1)])
  | 25 => .inl (w.2.2.1 0, 40, .inl m)
  | 26 => .inl (w.2.2.1 0, 16, .inl m)
  | 27 => .inr (1, [rf w 28, rf w 29, .int (m 2), .int (m 3)])
  | 28 => .inl (w.2.2.1 0, 40, .inl m)
  | 29 => .inl (w.2.2.1 0, 40, .inl m)
  | 30 => .inr (7, [rf w 31, .int (m 1), .int (m 2), .int (m 3)])
  | 31 => .inl (w.2.2.1 0, 40, .inl m)
  | 32 => .inl (w.2.2.1 0, 12, .inl m)
  | 33 => .inl (w.2.2.1 0, 7, .inl m)
  | 34 => .inr (6, [rf w 1, rf w 35, rf w 37, .int (m 3)])
  | 35 => .inr (5, [rf w 36, .int (m 1)])
  | 36 => .inl (w.2.2.1 0, 40, .inl m)
  | 37 => .inl (w.2.2.1 0, 40, .inl m)
  | 38 => .inr (3, [rf w 1, rf w 40, rf w 39, .int (m 3), .int (m 4)])
  | 39 => .inl (w.2.2.1 0, 4096, .inl m)
  | 40 => .inr (4, [rf w 1, .int (m 1), rf w 41, rf w 42, .int (m 4), rf w 43, rf w 44, rf w 45, rf w 46, rf w 47, rf w 48, rf w 49])
  | 41 => .inl (w.2.2.1 0, 4, .inl m)
  | 42 => .inl (w.2.2.1 0, 4, .inl m)
  | 43 => .inl (w.2.2.1 0, 4, .inl m)
  | 44 => .inl (w.2.2.1 0, 4, .inl m)
  | 45 => .inl (w.2.2.1 0, 4, .inl m)
  | 46 => .inl (w.2.2.1 0, 16, .inl m)
  | 47 => .inl (w.2.2.1 0, 16, .inl m)
  | 48 => .inl (w.2.2.1 0, 4, .inl m)
  | 49 => .inl (w.2.2.1 0, 4, .inl m)
  | 50 => .inr (2, [rf w 38, .int (m 1), .int (m 2), .int (m 3), .int (m 4), .int (m 5), .int (m 6)])
  | 51 => .inr (0, [rf w 38, rf w 52])
  | _ => .inl (w.2.2.1 1, 64, .inr (.inl m2))
def KC : Wk := (53, entC, true)
theorem eC_0 (w : W0) (m : Nat → Int32) (m2 : Nat → Int64) : KC.2.1 w 0 m m2 = .inr (9, [rf w 1, rf w 14, .int (m 2), rf w 27, rf w 30, rf w 32, .int (m 6), rf w 33, rf w 34, rf w 38, rf w 50, rf w 51]) := rfl
theorem lC_0 : 0 < KC.1 := Nat.le_of_ble_eq_true rfl
theorem sC_0_2 (w : W0) (m : Nat → Int32) (m2 : Nat → Int64) (x : Int32) : KC.2.1 w 0 (upd m 2 x) m2 = .inr (9, ([rf w 1, rf w 14, .int (m 2), rf w 27, rf w 30, rf w 32, .int (m 6), rf w 33, rf w 34, rf w 38, rf w 50, rf w 51] : List Value).set 2 (.int x)) := rfl
theorem sC_0_6 (w : W0) (m : Nat → Int32) (m2 : Nat → Int64) (x : Int32) : KC.2.1 w 0 (upd m 6 x) m2 = .inr (9, ([rf w 1, rf w 14, .int (m 2), rf w 27, rf w 30, rf w 32, .int (m 6), rf w 33, rf w 34, rf w 38, rf w 50, rf w 51] : List Value).set 6 (.int x)) := rfl
theorem eC_1 (w : W0) (m : Nat → Int32) (m2 : Nat → Int64) : KC.2.1 w 1 m m2 = .inr (8, [.int (m 0), rf w 2, .int (m 2), .int (m 3), rf w 3, rf w 4, .int (m 6), rf w 13]) := rfl
theorem lC_1 : 1 < KC.1 := Nat.le_of_ble_eq_true rfl
theorem sC_1_0 (w : W0) (m : Nat → Int32) (m2 : Nat → Int64) (x : Int32) : KC.2.1 w 1 (upd m 0 x) m2 = .inr (8, ([.int (m 0), rf w 2, .int (m 2), .int (m 3), rf w 3, rf w 4, .int (m 6), rf w 13] : List Value).set 0 (.int x)) := rfl
theorem sC_1_2 (w : W0) (m : Nat → Int32) (m2 : Nat → Int64) (x : Int32) : KC.2.1 w 1 (upd m 2 x) m2 = .inr (8, ([.int (m 0), rf w 2, .int (m 2), .int (m 3), rf w 3, rf w 4, .int (m 6), rf w 13] : List Value).set 2 (.int x)) := rfl
theorem sC_1_3 (w : W0) (m : Nat → Int32) (m2 : Nat → Int64) (x : Int32) : KC.2.1 w 1 (upd m 3 x) m2 = .inr (8, ([.int (m 0), rf w 2, .int (m 2), .int (m 3), rf w 3, rf w 4, .int (m 6), rf w 13] : List Value).set 3 (.int x)) := rfl
theorem sC_1_6 (w : W0) (m : Nat → Int32) (m2 : Nat → Int64) (x : Int32) : KC.2.1 w 1 (upd m 6 x) m2 = .inr (8, ([.int (m 0), rf w 2, .int (m 2), .int (m 3), rf w 3, rf w 4, .int (m 6), rf w 13] : List Value).set 6 (.int x)) := rfl
theorem eC_2 (w : W0) (m : Nat → Int32) (m2 : Nat → Int64) : KC.2.1 w 2 m m2 = .inl (w.2.2.1 0, 43, .inl m) := rfl
theorem lC_2 : 2 < KC.1 := Nat.le_of_ble_eq_true rfl
theorem eC_3 (w : W0) (m : Nat → Int32) (m2 : Nat → Int64) : KC.2.1 w 3 m m2 = .inl (w.2.2.1 0, 12, .inl m) := rfl
theorem lC_3 : 3 < KC.1 := Nat.le_of_ble_eq_true rfl
theorem eC_4 (w : W0) (m : Nat → Int32) (m2 : Nat → Int64) : KC.2.1 w 4 m m2 = .inl (w.2.2.1 3, 4, .inr (.inr (.inr (.inr (fun j => some (w.2.1 (5 + 2 * j))))))) := rfl
theorem lC_4 : 4 < KC.1 := Nat.le_of_ble_eq_true rfl
theorem eC_5 (w : W0) (m : Nat → Int32) (m2 : Nat → Int64) : KC.2.1 w 5 m m2 = .inr (5, [rf w 6, .int (m 1)]) := rfl
theorem lC_5 : 5 < KC.1 := Nat.le_of_ble_eq_true rfl
theorem sC_5_1 (w : W0) (m : Nat → Int32) (m2 : Nat → Int64) (x : Int32) : KC.2.1 w 5 (upd m 1 x) m2 = .inr (5, ([rf w 6, .int (m 1)] : List Value).set 1 (.int x)) := rfl
theorem eC_6 (w : W0) (m : Nat → Int32) (m2 : Nat → Int64) : KC.2.1 w 6 m m2 = .inl (w.2.2.1 0, 40, .inl m) := rfl
theorem lC_6 : 6 < KC.1 := Nat.le_of_ble_eq_true rfl
theorem eC_7 (w : W0) (m : Nat → Int32) (m2 : Nat → Int64) : KC.2.1 w 7 m m2 = .inr (5, [rf w 8, .int (m 1)]) := rfl
theorem lC_7 : 7 < KC.1 := Nat.le_of_ble_eq_true rfl
theorem sC_7_1 (w : W0) (m : Nat → Int32) (m2 : Nat → Int64) (x : Int32) : KC.2.1 w 7 (upd m 1 x) m2 = .inr (5, ([rf w 8, .int (m 1)] : List Value).set 1 (.int x)) := rfl
theorem eC_8 (w : W0) (m : Nat → Int32) (m2 : Nat → Int64) : KC.2.1 w 8 m m2 = .inl (w.2.2.1 0, 40, .inl m) := rfl
theorem lC_8 : 8 < KC.1 := Nat.le_of_ble_eq_true rfl
theorem eC_9 (w : W0) (m : Nat → Int32) (m2 : Nat → Int64) : KC.2.1 w 9 m m2 = .inr (5, [rf w 10, .int (m 1)]) := rfl
theorem lC_9 : 9 < KC.1 := Nat.le_of_ble_eq_true rfl
theorem sC_9_1 (w : W0) (m : Nat → Int32) (m2 : Nat → Int64) (x : Int32) : KC.2.1 w 9 (upd m 1 x) m2 = .inr (5, ([rf w 10, .int (m 1)] : List Value).set 1 (.int x)) := rfl
theorem eC_10 (w : W0) (m : Nat → Int32) (m2 : Nat → Int64) : KC.2.1 w 10 m m2 = .inl (w.2.2.1 0, 40, .inl m) := rfl
theorem lC_10 : 10 < KC.1 := Nat.le_of_ble_eq_true rfl
theorem eC_11 (w : W0) (m : Nat → Int32) (m2 : Nat → Int64) : KC.2.1 w 11 m m2 = .inr (5, [rf w 12, .int (m 1)]) := rfl
theorem lC_11 : 11 < KC.1 := Nat.le_of_ble_eq_true rfl
theorem sC_11_1 (w : W0) (m : Nat → Int32) (m2 : Nat → Int64) (x : Int32) : KC.2.1 w 11 (upd m 1 x) m2 = .inr (5, ([rf w 12, .int (m 1)] : List Value).set 1 (.int x)) := rfl
theorem eC_12 (w : W0) (m : Nat → Int32) (m2 : Nat → Int64) : KC.2.1 w 12 m m2 = .inl (w.2.2.1 0, 40, .inl m) := rfl
theorem lC_12 : 12 < KC.1 := Nat.le_of_ble_eq_true rfl
theorem eC_13 (w : W0) (m : Nat → Int32) (m2 : Nat → Int64) : KC.2.1 w 13 m m2 = .inl (w.2.2.1 0, 16, .inl m) := rfl
theorem lC_13 : 13 < KC.1 := Nat.le_of_ble_eq_true rfl
theorem eC_14 (w : W0) (m : Nat → Int32) (m2 : Nat → Int64) : KC.2.1 w 14 m m2 = .inr (8, [.int (m 0), rf w 15, .int (m 2), .int (m 3), rf w 16, rf w 17, .int (m 6), rf w 26]) := rfl
theorem lC_14 : 14 < KC.1 := Nat.le_of_ble_eq_true rfl
theorem sC_14_0 (w : W0) (m : Nat → Int32) (m2 : Nat → Int64) (x : Int32) : KC.2.1 w 14 (upd m 0 x) m2 = .inr (8, ([.int (m 0), rf w 15, .int (m 2), .int (m 3), rf w 16, rf w 17, .int (m 6), rf w 26] : List Value).set 0 (.int x)) := rfl
theorem sC_14_2 (w : W0) (m : Nat → Int32) (m2 : Nat → Int64) (x : Int32) : KC.2.1 w 14 (upd m 2 x) m2 = .inr (8, ([.int (m 0), rf w 15, .int (m 2), .int (m 3), rf w 16, rf w 17, .int (m 6), rf w 26] : List Value).set 2 (.int x)) := rfl
theorem sC_14_3 (w : W0) (m : Nat → Int32) (m2 : Nat → Int64) (x : Int32) : KC.2.1 w 14 (upd m 3 x) m2 = .inr (8, ([.int (m 0), rf w 15, .int (m 2), .int (m 3), rf w 16, rf w 17, .int (m 6), rf w 26] : List Value).set 3 (.int x)) := rfl
theorem sC_14_6 (w : W0) (m : Nat → Int32) (m2 : Nat → Int64) (x : Int32) : KC.2.1 w 14 (upd m 6 x) m2 = .inr (8, ([.int (m 0), rf w 15, .int (m 2), .int (m 3), rf w 16, rf w 17, .int (m 6), rf w 26] : List Value).set 6 (.int x)) := rfl
theorem eC_15 (w : W0) (m : Nat → Int32) (m2 : Nat → Int64) : KC.2.1 w 15 m m2 = .inl (w.2.2.1 0, 43, .inl m) := rfl
theorem lC_15 : 15 < KC.1 := Nat.le_of_ble_eq_true rfl
theorem eC_16 (w : W0) (m : Nat → Int32) (m2 : Nat → Int64) : KC.2.1 w 16 m m2 = .inl (w.2.2.1 0, 12, .inl m) := rfl
theorem lC_16 : 16 < KC.1 := Nat.le_of_ble_eq_true rfl
theorem eC_17 (w : W0) (m : Nat → Int32) (m2 : Nat → Int64) : KC.2.1 w 17 m m2 = .inl (w.2.2.1 3, 4, .inr (.inr (.inr (.inr (fun j => some (w.2.1 (18 + 2 * j))))))) := rfl
theorem lC_17 : 17 < KC.1 := Nat.le_of_ble_eq_true rfl
theorem eC_18 (w : W0) (m : Nat → Int32) (m2 : Nat → Int64) : KC.2.1 w 18 m m2 = .inr (5, [rf w 19, .int (m 1)]) := rfl
theorem lC_18 : 18 < KC.1 := Nat.le_of_ble_eq_true rfl
theorem sC_18_1 (w : W0) (m : Nat → Int32) (m2 : Nat → Int64) (x : Int32) : KC.2.1 w 18 (upd m 1 x) m2 = .inr (5, ([rf w 19, .int (m 1)] : List Value).set 1 (.int x)) := rfl
theorem eC_19 (w : W0) (m : Nat → Int32) (m2 : Nat → Int64) : KC.2.1 w 19 m m2 = .inl (w.2.2.1 0, 40, .inl m) := rfl
theorem lC_19 : 19 < KC.1 := Nat.le_of_ble_eq_true rfl
theorem eC_20 (w : W0) (m : Nat → Int32) (m2 : Nat → Int64) : KC.2.1 w 20 m m2 = .inr (5, [rf w 21, .int (m 1)]) := rfl
theorem lC_20 : 20 < KC.1 := Nat.le_of_ble_eq_true rfl
theorem sC_20_1 (w : W0) (m : Nat → Int32) (m2 : Nat → Int64) (x : Int32) : KC.2.1 w 20 (upd m 1 x) m2 = .inr (5, ([rf w 21, .int (m 1)] : List Value).set 1 (.int x)) := rfl
theorem eC_21 (w : W0) (m : Nat → Int32) (m2 : Nat → Int64) : KC.2.1 w 21 m m2 = .inl (w.2.2.1 0, 40, .inl m) := rfl
theorem lC_21 : 21 < KC.1 := Nat.le_of_ble_eq_true rfl
theorem eC_22 (w : W0) (m : Nat → Int32) (m2 : Nat → Int64) : KC.2.1 w 22 m m2 = .inr (5, [rf w 23, .int (m 1)]) := rfl
theorem lC_22 : 22 < KC.1 := Nat.le_of_ble_eq_true rfl
theorem sC_22_1 (w : W0) (m : Nat → Int32) (m2 : Nat → Int64) (x : Int32) : KC.2.1 w 22 (upd m 1 x) m2 = .inr (5, ([rf w 23, .int (m 1)] : List Value).set 1 (.int x)) := rfl
theorem eC_23 (w : W0) (m : Nat → Int32) (m2 : Nat → Int64) : KC.2.1 w 23 m m2 = .inl (w.2.2.1 0, 40, .inl m) := rfl
theorem lC_23 : 23 < KC.1 := Nat.le_of_ble_eq_true rfl
theorem eC_24 (w : W0) (m : Nat → Int32) (m2 : Nat → Int64) : KC.2.1 w 24 m m2 = .inr (5, [rf w 25, .int (m 1)]) := rfl
theorem lC_24 : 24 < KC.1 := Nat.le_of_ble_eq_true rfl
theorem sC_24_1 (w : W0) (m : Nat → Int32) (m2 : Nat → Int64) (x : Int32) : KC.2.1 w 24 (upd m 1 x) m2 = .inr (5, ([rf w 25, .int (m 1)] : List Value).set 1 (.int x)) := rfl
theorem eC_25 (w : W0) (m : Nat → Int32) (m2 : Nat → Int64) : KC.2.1 w 25 m m2 = .inl (w.2.2.1 0, 40, .inl m) := rfl
theorem lC_25 : 25 < KC.1 := Nat.le_of_ble_eq_true rfl
theorem eC_26 (w : W0) (m : Nat → Int32) (m2 : Nat → Int64) : KC.2.1 w 26 m m2 = .inl (w.2.2.1 0, 16, .inl m) := rfl
theorem lC_26 : 26 < KC.1 := Nat.le_of_ble_eq_true rfl
theorem eC_27 (w : W0) (m : Nat → Int32) (m2 : Nat → Int64) : KC.2.1 w 27 m m2 = .inr (1, [rf w 28, rf w 29, .int (m 2), .int (m 3)]) := rfl
theorem lC_27 : 27 < KC.1 := Nat.le_of_ble_eq_true rfl
theorem sC_27_2 (w : W0) (m : Nat → Int32) (m2 : Nat → Int64) (x : Int32) : KC.2.1 w 27 (upd m 2 x) m2 = .inr (1, ([rf w 28, rf w 29, .int (m 2), .int (m 3)] : List Value).set 2 (.int x)) := rfl
theorem sC_27_3 (w : W0) (m : Nat → Int32) (m2 : Nat → Int64) (x : Int32) : KC.2.1 w 27 (upd m 3 x) m2 = .inr (1, ([rf w 28, rf w 29, .int (m 2), .int (m 3)] : List Value).set 3 (.int x)) := rfl
theorem eC_28 (w : W0) (m : Nat → Int32) (m2 : Nat → Int64) : KC.2.1 w 28 m m2 = .inl (w.2.2.1 0, 40, .inl m) := rfl
theorem lC_28 : 28 < KC.1 := Nat.le_of_ble_eq_true rfl
theorem eC_29 (w : W0) (m : Nat → Int32) (m2 : Nat → Int64) : KC.2.1 w 29 m m2 = .inl (w.2.2.1 0, 40, .inl m) := rfl
theorem lC_29 : 29 < KC.1 := Nat.le_of_ble_eq_true rfl
theorem eC_30 (w : W0) (m : Nat → Int32) (m2 : Nat → Int64) : KC.2.1 w 30 m m2 = .inr (7, [rf w 31, .int (m 1), .int (m 2), .int (m 3)]) := rfl
theorem lC_30 : 30 < KC.1 := Nat.le_of_ble_eq_true rfl
theorem sC_30_1 (w : W0) (m : Nat → Int32) (m2 : Nat → Int64) (x : Int32) : KC.2.1 w 30 (upd m 1 x) m2 = .inr (7, ([rf w 31, .int (m 1), .int (m 2), .int (m 3)] : List Value).set 1 (.int x)) := rfl
theorem sC_30_2 (w : W0) (m : Nat → Int32) (m2 : Nat → Int64) (x : Int32) : KC.2.1 w 30 (upd m 2 x) m2 = .inr (7, ([rf w 31, .int (m 1), .int (m 2), .int (m 3)] : List Value).set 2 (.int x)) := rfl
theorem sC_30_3 (w : W0) (m : Nat → Int32) (m2 : Nat → Int64) (x : Int32) : KC.2.1 w 30 (upd m 3 x) m2 = .inr (7, ([rf w 31, .int (m 1), .int (m 2), .int (m 3)] : List Value).set 3 (.int x)) := rfl
theorem eC_31 (w : W0) (m : Nat → Int32) (m2 : Nat → Int64) : KC.2.1 w 31 m m2 = .inl (w.2.2.1 0, 40, .inl m) := rfl
theorem lC_31 : 31 < KC.1 := Nat.le_of_ble_eq_true rfl
theorem eC_32 (w : W0) (m : Nat → Int32) (m2 : Nat → Int64) : KC.2.1 w 32 m m2 = .inl (w.2.2.1 0, 12, .inl m) := rfl
theorem lC_32 : 32 < KC.1 := Nat.le_of_ble_eq_true rfl
theorem eC_33 (w : W0) (m : Nat → Int32) (m2 : Nat → Int64) : KC.2.1 w 33 m m2 = .inl (w.2.2.1 0, 7, .inl m) := rfl
theorem lC_33 : 33 < KC.1 := Nat.le_of_ble_eq_true rfl
theorem eC_34 (w : W0) (m : Nat → Int32) (m2 : Nat → Int64) : KC.2.1 w 34 m m2 = .inr (6, [rf w 1, rf w 35, rf w 37, .int (m 3)]) := rfl
theorem lC_34 : 34 < KC.1 := Nat.le_of_ble_eq_true rfl
theorem sC_34_3 (w : W0) (m : Nat → Int32) (m2 : Nat → Int64) (x : Int32) : KC.2.1 w 34 (upd m 3 x) m2 = .inr (6, ([rf w 1, rf w 35, rf w 37, .int (m 3)] : List Value).set 3 (.int x)) := rfl
theorem eC_35 (w : W0) (m : Nat → Int32) (m2 : Nat → Int64) : KC.2.1 w 35 m m2 = .inr (5, [rf w 36, .int (m 1)]) := rfl
theorem lC_35 : 35 < KC.1 := Nat.le_of_ble_eq_true rfl
theorem sC_35_1 (w : W0) (m : Nat → Int32) (m2 : Nat → Int64) (x : Int32) : KC.2.1 w 35 (upd m 1 x) m2 = .inr (5, ([rf w 36, .int (m 1)] : List Value).set 1 (.int x)) := rfl
theorem eC_36 (w : W0) (m : Nat → Int32) (m2 : Nat → Int64) : KC.2.1 w 36 m m2 = .inl (w.2.2.1 0, 40, .inl m) := rfl
theorem lC_36 : 36 < KC.1 := Nat.le_of_ble_eq_true rfl
theorem eC_37 (w : W0) (m : Nat → Int32) (m2 : Nat → Int64) : KC.2.1 w 37 m m2 = .inl (w.2.2.1 0, 40, .inl m) := rfl
theorem lC_37 : 37 < KC.1 := Nat.le_of_ble_eq_true rfl
theorem eC_38 (w : W0) (m : Nat → Int32) (m2 : Nat → Int64) : KC.2.1 w 38 m m2 = .inr (3, [rf w 1, rf w 40, rf w 39, .int (m 3), .int (m 4)]) := rfl
theorem lC_38 : 38 < KC.1 := Nat.le_of_ble_eq_true rfl
theorem sC_38_3 (w : W0) (m : Nat → Int32) (m2 : Nat → Int64) (x : Int32) : KC.2.1 w 38 (upd m 3 x) m2 = .inr (3, ([rf w 1, rf w 40, rf w 39, .int (m 3), .int (m 4)] : List Value).set 3 (.int x)) := rfl
theorem sC_38_4 (w : W0) (m : Nat → Int32) (m2 : Nat → Int64) (x : Int32) : KC.2.1 w 38 (upd m 4 x) m2 = .inr (3, ([rf w 1, rf w 40, rf w 39, .int (m 3), .int (m 4)] : List Value).set 4 (.int x)) := rfl
theorem eC_39 (w : W0) (m : Nat → Int32) (m2 : Nat → Int64) : KC.2.1 w 39 m m2 = .inl (w.2.2.1 0, 4096, .inl m) := rfl
theorem lC_39 : 39 < KC.1 := Nat.le_of_ble_eq_true rfl
theorem eC_40 (w : W0) (m : Nat → Int32) (m2 : Nat → Int64) : KC.2.1 w 40 m m2 = .inr (4, [rf w 1, .int (m 1), rf w 41, rf w 42, .int (m 4), rf w 43, rf w 44, rf w 45, rf w 46, rf w 47, rf w 48, rf w 49]) := rfl
theorem lC_40 : 40 < KC.1 := Nat.le_of_ble_eq_true rfl
theorem sC_40_1 (w : W0) (m : Nat → Int32) (m2 : Nat → Int64) (x : Int32) : KC.2.1 w 40 (upd m 1 x) m2 = .inr (4, ([rf w 1, .int (m 1), rf w 41, rf w 42, .int (m 4), rf w 43, rf w 44, rf w 45, rf w 46, rf w 47, rf w 48, rf w 49] : List Value).set 1 (.int x)) := rfl
theorem sC_40_4 (w : W0) (m : Nat → Int32) (m2 : Nat → Int64) (x : Int32) : KC.2.1 w 40 (upd m 4 x) m2 = .inr (4, ([rf w 1, .int (m 1), rf w 41, rf w 42, .int (m 4), rf w 43, rf w 44, rf w 45, rf w 46, rf w 47, rf w 48, rf w 49] : List Value).set 4 (.int x)) := rfl
theorem eC_41 (w : W0) (m : Nat → Int32) (m2 : Nat → Int64) : KC.2.1 w 41 m m2 = .inl (w.2.2.1 0, 4, .inl m) := rfl
theorem lC_41 : 41 < KC.1 := Nat.le_of_ble_eq_true rfl
theorem eC_42 (w : W0) (m : Nat → Int32) (m2 : Nat → Int64) : KC.2.1 w 42 m m2 = .inl (w.2.2.1 0, 4, .inl m) := rfl
theorem lC_42 : 42 < KC.1 := Nat.le_of_ble_eq_true rfl
theorem eC_43 (w : W0) (m : Nat → Int32) (m2 : Nat → Int64) : KC.2.1 w 43 m m2 = .inl (w.2.2.1 0, 4, .inl m) := rfl
theorem lC_43 : 43 < KC.1 := Nat.le_of_ble_eq_true rfl
theorem eC_44 (w : W0) (m : Nat → Int32) (m2 : Nat → Int64) : KC.2.1 w 44 m m2 = .inl (w.2.2.1 0, 4, .inl m) := rfl
theorem lC_44 : 44 < KC.1 := Nat.le_of_ble_eq_true rfl
theorem eC_45 (w : W0) (m : Nat → Int32) (m2 : Nat → Int64) : KC.2.1 w 45 m m2 = .inl (w.2.2.1 0, 4, .inl m) := rfl
theorem lC_45 : 45 < KC.1 := Nat.le_of_ble_eq_true rfl
theorem eC_46 (w : W0) (m : Nat → Int32) (m2 : Nat → Int64) : KC.2.1 w 46 m m2 = .inl (w.2.2.1 0, 16, .inl m) := rfl
theorem lC_46 : 46 < KC.1 := Nat.le_of_ble_eq_true rfl
theorem eC_47 (w : W0) (m : Nat → Int32) (m2 : Nat → Int64) : KC.2.1 w 47 m m2 = .inl (w.2.2.1 0, 16, .inl m) := rfl
theorem lC_47 : 47 < KC.1 := Nat.le_of_ble_eq_true rfl
theorem eC_48 (w : W0) (m : Nat → Int32) (m2 : Nat → Int64) : KC.2.1 w 48 m m2 = .inl (w.2.2.1 0, 4, .inl m) := rfl
theorem lC_48 : 48 < KC.1 := Nat.le_of_ble_eq_true rfl
theorem eC_49 (w : W0) (m : Nat → Int32) (m2 : Nat → Int64) : KC.2.1 w 49 m m2 = .inl (w.2.2.1 0, 4, .inl m) := rfl
theorem lC_49 : 49 < KC.1 := Nat.le_of_ble_eq_true rfl
theorem eC_50 (w : W0) (m : Nat → Int32) (m2 : Nat → Int64) : KC.2.1 w 50 m m2 = .inr (2, [rf w 38, .int (m 1), .int (m 2), .int (m 3), .int (m 4), .int (m 5), .int (m 6)]) := rfl
theorem lC_50 : 50 < KC.1 := Nat.le_of_ble_eq_true rfl
theorem sC_50_1 (w : W0) (m : Nat → Int32) (m2 : Nat → Int64) (x : Int32) : KC.2.1 w 50 (upd m 1 x) m2 = .inr (2, ([rf w 38, .int (m 1), .int (m 2), .int (m 3), .int (m 4), .int (m 5), .int (m 6)] : List Value).set 1 (.int x)) := rfl
theorem sC_50_2 (w : W0) (m : Nat → Int32) (m2 : Nat → Int64) (x : Int32) : KC.2.1 w 50 (upd m 2 x) m2 = .inr (2, ([rf w 38, .int (m 1), .int (m 2), .int (m 3), .int (m 4), .int (m 5), .int (m 6)] : List Value).set 2 (.int x)) := rfl
theorem sC_50_3 (w : W0) (m : Nat → Int32) (m2 : Nat → Int64) (x : Int32) : KC.2.1 w 50 (upd m 3 x) m2 = .inr (2, ([rf w 38, .int (m 1), .int (m 2), .int (m 3), .int (m 4), .int (m 5), .int (m 6)] : List Value).set 3 (.int x)) := rfl
theorem sC_50_4 (w : W0) (m : Nat → Int32) (m2 : Nat → Int64) (x : Int32) : KC.2.1 w 50 (upd m 4 x) m2 = .inr (2, ([rf w 38, .int (m 1), .int (m 2), .int (m 3), .int (m 4), .int (m 5), .int (m 6)] : List Value).set 4 (.int x)) := rfl
theorem sC_50_5 (w : W0) (m : Nat → Int32) (m2 : Nat → Int64) (x : Int32) : KC.2.1 w 50 (upd m 5 x) m2 = .inr (2, ([rf w 38, .int (m 1), .int (m 2), .int (m 3), .int (m 4), .int (m 5), .int (m 6)] : List Value).set 5 (.int x)) := rfl
theorem sC_50_6 (w : W0) (m : Nat → Int32) (m2 : Nat → Int64) (x : Int32) : KC.2.1 w 50 (upd m 6 x) m2 = .inr (2, ([rf w 38, .int (m 1), .int (m 2), .int (m 3), .int (m 4), .int (m 5), .int (m 6)] : List Value).set 6 (.int x)) := rfl
theorem eC_51 (w : W0) (m : Nat → Int32) (m2 : Nat → Int64) : KC.2.1 w 51 m m2 = .inr (0, [rf w 38, rf w 52]) := rfl
theorem lC_51 : 51 < KC.1 := Nat.le_of_ble_eq_true rfl
theorem eC_52 (w : W0) (m : Nat → Int32) (m2 : Nat → Int64) : KC.2.1 w 52 m m2 = .inl (w.2.2.1 1, 64, .inr (.inl m2)) := rfl
theorem lC_52 : 52 < KC.1 := Nat.le_of_ble_eq_true rfl
def entM : Ent := fun w k m m2 => match k with
  | 0 => .inr (10, [rf w 1, rf w 2, .int (m 2), rf w 3, rf w 4, .int (m 5), rf w 5, rf w 6, rf w 7, rf w 8, rf w 9, rf w 10, rf w 11, rf w 12, .int (m 14), .int (m 15), .int (m 16), .int (m 17), rf w 13, rf w 14, .int (m 20), .int (m 21), .int (m 22), rf w 15, rf w 16, rf w 17, .int (m 26), .int (m 27), .int (m 28), rf w 18, rf w 19, rf w 20, rf w 21, .int (m 33), .int (m 34), rf w 22, rf w 23, .int (m 37), rf w 24, .int (m 39), rf w 25, rf w 26, rf w 27, rf w 28, rf w 29, rf w 30, rf w 31, rf w 32, .int (m 48), .int (m 49), .int (m 50)])
  | 1 => .inl (w.2.2.1 0, 7, .inl m)
  | 2 => .inl (w.2.2.1 0, 47, .inl m)
  | 3 => .inl (w.2.2.1 0, 40, .inl m)
  | 4 => .inl (w.2.2.1 0, 40, .inl m)
  | 5 => .inl (w.2.2.1 0, 40, .inl m)
  | 6 => .inl (w.2.2.1 0, 480, .inl m)
  | 7 => .inl (w.2.2.1 0, 12, .inl m)
  | 8 => .inl (w.2.2.1 0, 160, .inl m)
  | 9 => .inl (w.2.2.1 0, 4, .inl m)
  | 10 => .inl (w.2.2.1 0, 8, .inl m)
  | 11 => .inl (w.2.2.1 2, 12, .inl m)
  | 12 => .inl (w.2.2.1 2, 4, .inl m)
  | 13 => .inl (w.2.2.1 0, 44, .inl m)
  | 14 => .inl (w.2.2.1 0, 44, .inl m)
  | 15 => .inl (w.2.2.1 0, 4, .inl m)
  | 16 => .inl (w.2.2.1 0, 4, .inl m)
  | 17 => .inl (w.2.2.1 0, 4, .inl m)
  | 18 => .inl (w.2.2.1 0, 4096, .inl m)
  | 19 => .inl (w.2.2.1 2, 16, .inl m)
  | 20 => .inl (w.2.2.1 2, 256, .inl m)
  | 21 => .inl (w.2.2.1 2, 16, .inl m)
  | 22 => .inl (w.2.2.1 2, 16, .inl m)
  | 23 => .inl (w.2.2.1 0, 12, .inl m)
  | 24 => .inl (w.2.2.1 0, 60, .inl m)
  | 25 => .inl (w.2.2.1 0, 47, .inl m)
  | 26 => .inl (w.2.2.1 0, 480, .inl m)
  | 27 => .inl (w.2.2.1 0, 12, .inl m)
  | 28 => .inl (w.2.2.1 0, 160, .inl m)
  | 29 => .inl (w.2.2.1 0, 4, .inl m)
  | 30 => .inl (w.2.2.1 0, 60, .inl m)
  | 31 => .inl (w.2.2.1 2, 12, .inl m)
  | _ => .inl (w.2.2.1 2, 4, .inl m)
def KM : Wk := (33, entM, false)
theorem eM_0 (w : W0) (m : Nat → Int32) (m2 : Nat → Int64) : KM.2.1 w 0 m m2 = .inr (10, [rf w 1, rf w 2, .int (m 2), rf w 3, rf w 4, .int (m 5), rf w 5, rf w 6, rf w 7, rf w 8, rf w 9, rf w 10, rf w 11, rf w 12, .int (m 14), .int (m 15), .int (m 16), .int (m 17), rf w 13, rf w 14, .int (m 20), .int (m 21), .int (m 22), rf w 15, rf w 16, rf w 17, .int (m 26), .int (m 27), .int (m 28), rf w 18, rf w 19, rf w 20, rf w 21, .int (m 33), .int (m 34), rf w 22, rf w 23, .int (m 37), rf w 24, .int (m 39), rf w 25, rf w 26, rf w 27, rf w 28, rf w 29, rf w 30, rf w 31, rf w 32, .int (m 48), .int (m 49), .int (m 50)]) := rfl
theorem lM_0 : 0 < KM.1 := Nat.le_of_ble_eq_true rfl
theorem sM_0_2 (w : W0) (m : Nat → Int32) (m2 : Nat → Int64) (x : Int32) : KM.2.1 w 0 (upd m 2 x) m2 = .inr (10, ([rf w 1, rf w 2, .int (m 2), rf w 3, rf w 4, .int (m 5), rf w 5, rf w 6, rf w 7, rf w 8, rf w 9, rf w 10, rf w 11, rf w 12, .int (m 14), .int (m 15), .int (m 16), .int (m 17), rf w 13, rf w 14, .int (m 20), .int (m 21), .int (m 22), rf w 15, rf w 16, rf w 17, .int (m 26), .int (m 27), .int (m 28), rf w 18, rf w 19, rf w 20, rf w 21, .int (m 33), .int (m 34), rf w 22, rf w 23, .int (m 37), rf w 24, .int (m 39), rf w 25, rf w 26, rf w 27, rf w 28, rf w 29, rf w 30, rf w 31, rf w 32, .int (m 48), .int (m 49), .int (m 50)] : List Value).set 2 (.int x)) := rfl
theorem sM_0_5 (w : W0) (m : Nat → Int32) (m2 : Nat → Int64) (x : Int32) : KM.2.1 w 0 (upd m 5 x) m2 = .inr (10, ([rf w 1, rf w 2, .int (m 2), rf w 3, rf w 4, .int (m 5), rf w 5, rf w 6, rf w 7, rf w 8, rf w 9, rf w 10, rf w 11, rf w 12, .int (m 14), .int (m 15), .int (m 16), .int (m 17), rf w 13, rf w 14, .int (m 20), .int (m 21), .int (m 22), rf w 15, rf w 16, rf w 17, .int (m 26), .int (m 27), .int (m 28), rf w 18, rf w 19, rf w 20, rf w 21, .int (m 33), .int (m 34), rf w 22, rf w 23, .int (m 37), rf w 24, .int (m 39), rf w 25, rf w 26, rf w 27, rf w 28, rf w 29, rf w 30, rf w 31, rf w 32, .int (m 48), .int (m 49), .int (m 50)] : List Value).set 5 (.int x)) := rfl
theorem sM_0_14 (w : W0) (m : Nat → Int32) (m2 : Nat → Int64) (x : Int32) : KM.2.1 w 0 (upd m 14 x) m2 = .inr (10, ([rf w 1, rf w 2, .int (m 2), rf w 3, rf w 4, .int (m 5), rf w 5, rf w 6, rf w 7, rf w 8, rf w 9, rf w 10, rf w 11, rf w 12, .int (m 14), .int (m 15), .int (m 16), .int (m 17), rf w 13, rf w 14, .int (m 20), .int (m 21), .int (m 22), rf w 15, rf w 16, rf w 17, .int (m 26), .int (m 27), .int (m 28), rf w 18, rf w 19, rf w 20, rf w 21, .int (m 33), .int (m 34), rf w 22, rf w 23, .int (m 37), rf w 24, .int (m 39), rf w 25, rf w 26, rf w 27, rf w 28, rf w 29, rf w 30, rf w 31, rf w 32, .int (m 48), .int (m 49), .int (m 50)] : List Value).set 14 (.int x)) := rfl
theorem sM_0_15 (w : W0) (m : Nat → Int32) (m2 : Nat → Int64) (x : Int32) : KM.2.1 w 0 (upd m 15 x) m2 = .inr (10, ([rf w 1, rf w 2, .int (m 2), rf w 3, rf w 4, .int (m 5), rf w 5, rf w 6, rf w 7, rf w 8, rf w 9, rf w 10, rf w 11, rf w 12, .int (m 14), .int (m 15), .int (m 16), .int (m 17), rf w 13, rf w 14, .int (m 20), .int (m 21), .int (m 22), rf w 15, rf w 16, rf w 17, .int (m 26), .int (m 27), .int (m 28), rf w 18, rf w 19, rf w 20, rf w 21, .int (m 33), .int (m 34), rf w 22, rf w 23, .int (m 37), rf w 24, .int (m 39), rf w 25, rf w 26, rf w 27, rf w 28, rf w 29, rf w 30, rf w 31, rf w 32, .int (m 48), .int (m 49), .int (m 50)] : List Value).set 15 (.int x)) := rfl
theorem sM_0_16 (w : W0) (m : Nat → Int32) (m2 : Nat → Int64) (x : Int32) : KM.2.1 w 0 (upd m 16 x) m2 = .inr (10, ([rf w 1, rf w 2, .int (m 2), rf w 3, rf w 4, .int (m 5), rf w 5, rf w 6, rf w 7, rf w 8, rf w 9, rf w 10, rf w 11, rf w 12, .int (m 14), .int (m 15), .int (m 16), .int (m 17), rf w 13, rf w 14, .int (m 20), .int (m 21), .int (m 22), rf w 15, rf w 16, rf w 17, .int (m 26), .int (m 27), .int (m 28), rf w 18, rf w 19, rf w 20, rf w 21, .int (m 33), .int (m 34), rf w 22, rf w 23, .int (m 37), rf w 24, .int (m 39), rf w 25, rf w 26, rf w 27, rf w 28, rf w 29, rf w 30, rf w 31, rf w 32, .int (m 48), .int (m 49), .int (m 50)] : List Value).set 16 (.int x)) := rfl
theorem sM_0_17 (w : W0) (m : Nat → Int32) (m2 : Nat → Int64) (x : Int32) : KM.2.1 w 0 (upd m 17 x) m2 = .inr (10, ([rf w 1, rf w 2, .int (m 2), rf w 3, rf w 4, .int (m 5), rf w 5, rf w 6, rf w 7, rf w 8, rf w 9, rf w 10, rf w 11, rf w 12, .int (m 14), .int (m 15), .int (m 16), .int (m 17), rf w 13, rf w 14, .int (m 20), .int (m 21), .int (m 22), rf w 15, rf w 16, rf w 17, .int (m 26), .int (m 27), .int (m 28), rf w 18, rf w 19, rf w 20, rf w 21, .int (m 33), .int (m 34), rf w 22, rf w 23, .int (m 37), rf w 24, .int (m 39), rf w 25, rf w 26, rf w 27, rf w 28, rf w 29, rf w 30, rf w 31, rf w 32, .int (m 48), .int (m 49), .int (m 50)] : List Value).set 17 (.int x)) := rfl
theorem sM_0_20 (w : W0) (m : Nat → Int32) (m2 : Nat → Int64) (x : Int32) : KM.2.1 w 0 (upd m 20 x) m2 = .inr (10, ([rf w 1, rf w 2, .int (m 2), rf w 3, rf w 4, .int (m 5), rf w 5, rf w 6, rf w 7, rf w 8, rf w 9, rf w 10, rf w 11, rf w 12, .int (m 14), .int (m 15), .int (m 16), .int (m 17), rf w 13, rf w 14, .int (m 20), .int (m 21), .int (m 22), rf w 15, rf w 16, rf w 17, .int (m 26), .int (m 27), .int (m 28), rf w 18, rf w 19, rf w 20, rf w 21, .int (m 33), .int (m 34), rf w 22, rf w 23, .int (m 37), rf w 24, .int (m 39), rf w 25, rf w 26, rf w 27, rf w 28, rf w 29, rf w 30, rf w 31, rf w 32, .int (m 48), .int (m 49), .int (m 50)] : List Value).set 20 (.int x)) := rfl
theorem sM_0_21 (w : W0) (m : Nat → Int32) (m2 : Nat → Int64) (x : Int32) : KM.2.1 w 0 (upd m 21 x) m2 = .inr (10, ([rf w 1, rf w 2, .int (m 2), rf w 3, rf w 4, .int (m 5), rf w 5, rf w 6, rf w 7, rf w 8, rf w 9, rf w 10, rf w 11, rf w 12, .int (m 14), .int (m 15), .int (m 16), .int (m 17), rf w 13, rf w 14, .int (m 20), .int (m 21), .int (m 22), rf w 15, rf w 16, rf w 17, .int (m 26), .int (m 27), .int (m 28), rf w 18, rf w 19, rf w 20, rf w 21, .int (m 33), .int (m 34), rf w 22, rf w 23, .int (m 37), rf w 24, .int (m 39), rf w 25, rf w 26, rf w 27, rf w 28, rf w 29, rf w 30, rf w 31, rf w 32, .int (m 48), .int (m 49), .int (m 50)] : List Value).set 21 (.int x)) := rfl
theorem sM_0_22 (w : W0) (m : Nat → Int32) (m2 : Nat → Int64) (x : Int32) : KM.2.1 w 0 (upd m 22 x) m2 = .inr (10, ([rf w 1, rf w 2, .int (m 2), rf w 3, rf w 4, .int (m 5), rf w 5, rf w 6, rf w 7, rf w 8, rf w 9, rf w 10, rf w 11, rf w 12, .int (m 14), .int (m 15), .int (m 16), .int (m 17), rf w 13, rf w 14, .int (m 20), .int (m 21), .int (m 22), rf w 15, rf w 16, rf w 17, .int (m 26), .int (m 27), .int (m 28), rf w 18, rf w 19, rf w 20, rf w 21, .int (m 33), .int (m 34), rf w 22, rf w 23, .int (m 37), rf w 24, .int (m 39), rf w 25, rf w 26, rf w 27, rf w 28, rf w 29, rf w 30, rf w 31, rf w 32, .int (m 48), .int (m 49), .int (m 50)] : List Value).set 22 (.int x)) := rfl
theorem sM_0_26 (w : W0) (m : Nat → Int32) (m2 : Nat → Int64) (x : Int32) : KM.2.1 w 0 (upd m 26 x) m2 = .inr (10, ([rf w 1, rf w 2, .int (m 2), rf w 3, rf w 4, .int (m 5), rf w 5, rf w 6, rf w 7, rf w 8, rf w 9, rf w 10, rf w 11, rf w 12, .int (m 14), .int (m 15), .int (m 16), .int (m 17), rf w 13, rf w 14, .int (m 20), .int (m 21), .int (m 22), rf w 15, rf w 16, rf w 17, .int (m 26), .int (m 27), .int (m 28), rf w 18, rf w 19, rf w 20, rf w 21, .int (m 33), .int (m 34), rf w 22, rf w 23, .int (m 37), rf w 24, .int (m 39), rf w 25, rf w 26, rf w 27, rf w 28, rf w 29, rf w 30, rf w 31, rf w 32, .int (m 48), .int (m 49), .int (m 50)] : List Value).set 26 (.int x)) := rfl
theorem sM_0_27 (w : W0) (m : Nat → Int32) (m2 : Nat → Int64) (x : Int32) : KM.2.1 w 0 (upd m 27 x) m2 = .inr (10, ([rf w 1, rf w 2, .int (m 2), rf w 3, rf w 4, .int (m 5), rf w 5, rf w 6, rf w 7, rf w 8, rf w 9, rf w 10, rf w 11, rf w 12, .int (m 14), .int (m 15), .int (m 16), .int (m 17), rf w 13, rf w 14, .int (m 20), .int (m 21), .int (m 22), rf w 15, rf w 16, rf w 17, .int (m 26), .int (m 27), .int (m 28), rf w 18, rf w 19, rf w 20, rf w 21, .int (m 33), .int (m 34), rf w 22, rf w 23, .int (m 37), rf w 24, .int (m 39), rf w 25, rf w 26, rf w 27, rf w 28, rf w 29, rf w 30, rf w 31, rf w 32, .int (m 48), .int (m 49), .int (m 50)] : List Value).set 27 (.int x)) := rfl
theorem sM_0_28 (w : W0) (m : Nat → Int32) (m2 : Nat → Int64) (x : Int32) : KM.2.1 w 0 (upd m 28 x) m2 = .inr (10, ([rf w 1, rf w 2, .int (m 2), rf w 3, rf w 4, .int (m 5), rf w 5, rf w 6, rf w 7, rf w 8, rf w 9, rf w 10, rf w 11, rf w 12, .int (m 14), .int (m 15), .int (m 16), .int (m 17), rf w 13, rf w 14, .int (m 20), .int (m 21), .int (m 22), rf w 15, rf w 16, rf w 17, .int (m 26), .int (m 27), .int (m 28), rf w 18, rf w 19, rf w 20, rf w 21, .int (m 33), .int (m 34), rf w 22, rf w 23, .int (m 37), rf w 24, .int (m 39), rf w 25, rf w 26, rf w 27, rf w 28, rf w 29, rf w 30, rf w 31, rf w 32, .int (m 48), .int (m 49), .int (m 50)] : List Value).set 28 (.int x)) := rfl
theorem sM_0_33 (w : W0) (m : Nat → Int32) (m2 : Nat → Int64) (x : Int32) : KM.2.1 w 0 (upd m 33 x) m2 = .inr (10, ([rf w 1, rf w 2, .int (m 2), rf w 3, rf w 4, .int (m 5), rf w 5, rf w 6, rf w 7, rf w 8, rf w 9, rf w 10, rf w 11, rf w 12, .int (m 14), .int (m 15), .int (m 16), .int (m 17), rf w 13, rf w 14, .int (m 20), .int (m 21), .int (m 22), rf w 15, rf w 16, rf w 17, .int (m 26), .int (m 27), .int (m 28), rf w 18, rf w 19, rf w 20, rf w 21, .int (m 33), .int (m 34), rf w 22, rf w 23, .int (m 37), rf w 24, .int (m 39), rf w 25, rf w 26, rf w 27, rf w 28, rf w 29, rf w 30, rf w 31, rf w 32, .int (m 48), .int (m 49), .int (m 50)] : List Value).set 33 (.int x)) := rfl
theorem sM_0_34 (w : W0) (m : Nat → Int32) (m2 : Nat → Int64) (x : Int32) : KM.2.1 w 0 (upd m 34 x) m2 = .inr (10, ([rf w 1, rf w 2, .int (m 2), rf w 3, rf w 4, .int (m 5), rf w 5, rf w 6, rf w 7, rf w 8, rf w 9, rf w 10, rf w 11, rf w 12, .int (m 14), .int (m 15), .int (m 16), .int (m 17), rf w 13, rf w 14, .int (m 20), .int (m 21), .int (m 22), rf w 15, rf w 16, rf w 17, .int (m 26), .int (m 27), .int (m 28), rf w 18, rf w 19, rf w 20, rf w 21, .int (m 33), .int (m 34), rf w 22, rf w 23, .int (m 37), rf w 24, .int (m 39), rf w 25, rf w 26, rf w 27, rf w 28, rf w 29, rf w 30, rf w 31, rf w 32, .int (m 48), .int (m 49), .int (m 50)] : List Value).set 34 (.int x)) := rfl
theorem sM_0_37 (w : W0) (m : Nat → Int32) (m2 : Nat → Int64) (x : Int32) : KM.2.1 w 0 (upd m 37 x) m2 = .inr (10, ([rf w 1, rf w 2, .int (m 2), rf w 3, rf w 4, .int (m 5), rf w 5, rf w 6, rf w 7, rf w 8, rf w 9, rf w 10, rf w 11, rf w 12, .int (m 14), .int (m 15), .int (m 16), .int (m 17), rf w 13, rf w 14, .int (m 20), .int (m 21), .int (m 22), rf w 15, rf w 16, rf w 17, .int (m 26), .int (m 27), .int (m 28), rf w 18, rf w 19, rf w 20, rf w 21, .int (m 33), .int (m 34), rf w 22, rf w 23, .int (m 37), rf w 24, .int (m 39), rf w 25, rf w 26, rf w 27, rf w 28, rf w 29, rf w 30, rf w 31, rf w 32, .int (m 48), .int (m 49), .int (m 50)] : List Value).set 37 (.int x)) := rfl
theorem sM_0_39 (w : W0) (m : Nat → Int32) (m2 : Nat → Int64) (x : Int32) : KM.2.1 w 0 (upd m 39 x) m2 = .inr (10, ([rf w 1, rf w 2, .int (m 2), rf w 3, rf w 4, .int (m 5), rf w 5, rf w 6, rf w 7, rf w 8, rf w 9, rf w 10, rf w 11, rf w 12, .int (m 14), .int (m 15), .int (m 16), .int (m 17), rf w 13, rf w 14, .int (m 20), .int (m 21), .int (m 22), rf w 15, rf w 16, rf w 17, .int (m 26), .int (m 27), .int (m 28), rf w 18, rf w 19, rf w 20, rf w 21, .int (m 33), .int (m 34), rf w 22, rf w 23, .int (m 37), rf w 24, .int (m 39), rf w 25, rf w 26, rf w 27, rf w 28, rf w 29, rf w 30, rf w 31, rf w 32, .int (m 48), .int (m 49), .int (m 50)] : List Value).set 39 (.int x)) := rfl
theorem sM_0_48 (w : W0) (m : Nat → Int32) (m2 : Nat → Int64) (x : Int32) : KM.2.1 w 0 (upd m 48 x) m2 = .inr (10, ([rf w 1, rf w 2, .int (m 2), rf w 3, rf w 4, .int (m 5), rf w 5, rf w 6, rf w 7, rf w 8, rf w 9, rf w 10, rf w 11, rf w 12, .int (m 14), .int (m 15), .int (m 16), .int (m 17), rf w 13, rf w 14, .int (m 20), .int (m 21), .int (m 22), rf w 15, rf w 16, rf w 17, .int (m 26), .int (m 27), .int (m 28), rf w 18, rf w 19, rf w 20, rf w 21, .int (m 33), .int (m 34), rf w 22, rf w 23, .int (m 37), rf w 24, .int (m 39), rf w 25, rf w 26, rf w 27, rf w 28, rf w 29, rf w 30, rf w 31, rf w 32, .int (m 48), .int (m 49), .int (m 50)] : List Value).set 48 (.int x)) := rfl
theorem sM_0_49 (w : W0) (m : Nat → Int32) (m2 : Nat → Int64) (x : Int32) : KM.2.1 w 0 (upd m 49 x) m2 = .inr (10, ([rf w 1, rf w 2, .int (m 2), rf w 3, rf w 4, .int (m 5), rf w 5, rf w 6, rf w 7, rf w 8, rf w 9, rf w 10, rf w 11, rf w 12, .int (m 14), .int (m 15), .int (m 16), .int (m 17), rf w 13, rf w 14, .int (m 20), .int (m 21), .int (m 22), rf w 15, rf w 16, rf w 17, .int (m 26), .int (m 27), .int (m 28), rf w 18, rf w 19, rf w 20, rf w 21, .int (m 33), .int (m 34), rf w 22, rf w 23, .int (m 37), rf w 24, .int (m 39), rf w 25, rf w 26, rf w 27, rf w 28, rf w 29, rf w 30, rf w 31, rf w 32, .int (m 48), .int (m 49), .int (m 50)] : List Value).set 49 (.int x)) := rfl
theorem sM_0_50 (w : W0) (m : Nat → Int32) (m2 : Nat → Int64) (x : Int32) : KM.2.1 w 0 (upd m 50 x) m2 = .inr (10, ([rf w 1, rf w 2, .int (m 2), rf w 3, rf w 4, .int (m 5), rf w 5, rf w 6, rf w 7, rf w 8, rf w 9, rf w 10, rf w 11, rf w 12, .int (m 14), .int (m 15), .int (m 16), .int (m 17), rf w 13, rf w 14, .int (m 20), .int (m 21), .int (m 22), rf w 15, rf w 16, rf w 17, .int (m 26), .int (m 27), .int (m 28), rf w 18, rf w 19, rf w 20, rf w 21, .int (m 33), .int (m 34), rf w 22, rf w 23, .int (m 37), rf w 24, .int (m 39), rf w 25, rf w 26, rf w 27, rf w 28, rf w 29, rf w 30, rf w 31, rf w 32, .int (m 48), .int (m 49), .int (m 50)] : List Value).set 50 (.int x)) := rfl
theorem eM_1 (w : W0) (m : Nat → Int32) (m2 : Nat → Int64) : KM.2.1 w 1 m m2 = .inl (w.2.2.1 0, 7, .inl m) := rfl
theorem lM_1 : 1 < KM.1 := Nat.le_of_ble_eq_true rfl
theorem eM_2 (w : W0) (m : Nat → Int32) (m2 : Nat → Int64) : KM.2.1 w 2 m m2 = .inl (w.2.2.1 0, 47, .inl m) := rfl
theorem lM_2 : 2 < KM.1 := Nat.le_of_ble_eq_true rfl
theorem eM_3 (w : W0) (m : Nat → Int32) (m2 : Nat → Int64) : KM.2.1 w 3 m m2 = .inl (w.2.2.1 0, 40, .inl m) := rfl
theorem lM_3 : 3 < KM.1 := Nat.le_of_ble_eq_true rfl
theorem eM_4 (w : W0) (m : Nat → Int32) (m2 : Nat → Int64) : KM.2.1 w 4 m m2 = .inl (w.2.2.1 0, 40, .inl m) := rfl
theorem lM_4 : 4 < KM.1 := Nat.le_of_ble_eq_true rfl
theorem eM_5 (w : W0) (m : Nat → Int32) (m2 : Nat → Int64) : KM.2.1 w 5 m m2 = .inl (w.2.2.1 0, 40, .inl m) := rfl
theorem lM_5 : 5 < KM.1 := Nat.le_of_ble_eq_true rfl
theorem eM_6 (w : W0) (m : Nat → Int32) (m2 : Nat → Int64) : KM.2.1 w 6 m m2 = .inl (w.2.2.1 0, 480, .inl m) := rfl
theorem lM_6 : 6 < KM.1 := Nat.le_of_ble_eq_true rfl
theorem eM_7 (w : W0) (m : Nat → Int32) (m2 : Nat → Int64) : KM.2.1 w 7 m m2 = .inl (w.2.2.1 0, 12, .inl m) := rfl
theorem lM_7 : 7 < KM.1 := Nat.le_of_ble_eq_true rfl
theorem eM_8 (w : W0) (m : Nat → Int32) (m2 : Nat → Int64) : KM.2.1 w 8 m m2 = .inl (w.2.2.1 0, 160, .inl m) := rfl
theorem lM_8 : 8 < KM.1 := Nat.le_of_ble_eq_true rfl
theorem eM_9 (w : W0) (m : Nat → Int32) (m2 : Nat → Int64) : KM.2.1 w 9 m m2 = .inl (w.2.2.1 0, 4, .inl m) := rfl
theorem lM_9 : 9 < KM.1 := Nat.le_of_ble_eq_true rfl
theorem eM_10 (w : W0) (m : Nat → Int32) (m2 : Nat → Int64) : KM.2.1 w 10 m m2 = .inl (w.2.2.1 0, 8, .inl m) := rfl
theorem lM_10 : 10 < KM.1 := Nat.le_of_ble_eq_true rfl
theorem eM_11 (w : W0) (m : Nat → Int32) (m2 : Nat → Int64) : KM.2.1 w 11 m m2 = .inl (w.2.2.1 2, 12, .inl m) := rfl
theorem lM_11 : 11 < KM.1 := Nat.le_of_ble_eq_true rfl
theorem eM_12 (w : W0) (m : Nat → Int32) (m2 : Nat → Int64) : KM.2.1 w 12 m m2 = .inl (w.2.2.1 2, 4, .inl m) := rfl
theorem lM_12 : 12 < KM.1 := Nat.le_of_ble_eq_true rfl
theorem eM_13 (w : W0) (m : Nat → Int32) (m2 : Nat → Int64) : KM.2.1 w 13 m m2 = .inl (w.2.2.1 0, 44, .inl m) := rfl
theorem lM_13 : 13 < KM.1 := Nat.le_of_ble_eq_true rfl
theorem eM_14 (w : W0) (m : Nat → Int32) (m2 : Nat → Int64) : KM.2.1 w 14 m m2 = .inl (w.2.2.1 0, 44, .inl m) := rfl
theorem lM_14 : 14 < KM.1 := Nat.le_of_ble_eq_true rfl
theorem eM_15 (w : W0) (m : Nat → Int32) (m2 : Nat → Int64) : KM.2.1 w 15 m m2 = .inl (w.2.2.1 0, 4, .inl m) := rfl
theorem lM_15 : 15 < KM.1 := Nat.le_of_ble_eq_true rfl
theorem eM_16 (w : W0) (m : Nat → Int32) (m2 : Nat → Int64) : KM.2.1 w 16 m m2 = .inl (w.2.2.1 0, 4, .inl m) := rfl
theorem lM_16 : 16 < KM.1 := Nat.le_of_ble_eq_true rfl
theorem eM_17 (w : W0) (m : Nat → Int32) (m2 : Nat → Int64) : KM.2.1 w 17 m m2 = .inl (w.2.2.1 0, 4, .inl m) := rfl
theorem lM_17 : 17 < KM.1 := Nat.le_of_ble_eq_true rfl
theorem eM_18 (w : W0) (m : Nat → Int32) (m2 : Nat → Int64) : KM.2.1 w 18 m m2 = .inl (w.2.2.1 0, 4096, .inl m) := rfl
theorem lM_18 : 18 < KM.1 := Nat.le_of_ble_eq_true rfl
theorem eM_19 (w : W0) (m : Nat → Int32) (m2 : Nat → Int64) : KM.2.1 w 19 m m2 = .inl (w.2.2.1 2, 16, .inl m) := rfl
theorem lM_19 : 19 < KM.1 := Nat.le_of_ble_eq_true rfl
theorem eM_20 (w : W0) (m : Nat → Int32) (m2 : Nat → Int64) : KM.2.1 w 20 m m2 = .inl (w.2.2.1 2, 256, .inl m) := rfl
theorem lM_20 : 20 < KM.1 := Nat.le_of_ble_eq_true rfl
theorem eM_21 (w : W0) (m : Nat → Int32) (m2 : Nat → Int64) : KM.2.1 w 21 m m2 = .inl (w.2.2.1 2, 16, .inl m) := rfl
theorem lM_21 : 21 < KM.1 := Nat.le_of_ble_eq_true rfl
theorem eM_22 (w : W0) (m : Nat → Int32) (m2 : Nat → Int64) : KM.2.1 w 22 m m2 = .inl (w.2.2.1 2, 16, .inl m) := rfl
theorem lM_22 : 22 < KM.1 := Nat.le_of_ble_eq_true rfl
theorem eM_23 (w : W0) (m : Nat → Int32) (m2 : Nat → Int64) : KM.2.1 w 23 m m2 = .inl (w.2.2.1 0, 12, .inl m) := rfl
theorem lM_23 : 23 < KM.1 := Nat.le_of_ble_eq_true rfl
theorem eM_24 (w : W0) (m : Nat → Int32) (m2 : Nat → Int64) : KM.2.1 w 24 m m2 = .inl (w.2.2.1 0, 60, .inl m) := rfl
theorem lM_24 : 24 < KM.1 := Nat.le_of_ble_eq_true rfl
theorem eM_25 (w : W0) (m : Nat → Int32) (m2 : Nat → Int64) : KM.2.1 w 25 m m2 = .inl (w.2.2.1 0, 47, .inl m) := rfl
theorem lM_25 : 25 < KM.1 := Nat.le_of_ble_eq_true rfl
theorem eM_26 (w : W0) (m : Nat → Int32) (m2 : Nat → Int64) : KM.2.1 w 26 m m2 = .inl (w.2.2.1 0, 480, .inl m) := rfl
theorem lM_26 : 26 < KM.1 := Nat.le_of_ble_eq_true rfl
theorem eM_27 (w : W0) (m : Nat → Int32) (m2 : Nat → Int64) : KM.2.1 w 27 m m2 = .inl (w.2.2.1 0, 12, .inl m) := rfl
theorem lM_27 : 27 < KM.1 := Nat.le_of_ble_eq_true rfl
theorem eM_28 (w : W0) (m : Nat → Int32) (m2 : Nat → Int64) : KM.2.1 w 28 m m2 = .inl (w.2.2.1 0, 160, .inl m) := rfl
theorem lM_28 : 28 < KM.1 := Nat.le_of_ble_eq_true rfl
theorem eM_29 (w : W0) (m : Nat → Int32) (m2 : Nat → Int64) : KM.2.1 w 29 m m2 = .inl (w.2.2.1 0, 4, .inl m) := rfl
theorem lM_29 : 29 < KM.1 := Nat.le_of_ble_eq_true rfl
theorem eM_30 (w : W0) (m : Nat → Int32) (m2 : Nat → Int64) : KM.2.1 w 30 m m2 = .inl (w.2.2.1 0, 60, .inl m) := rfl
theorem lM_30 : 30 < KM.1 := Nat.le_of_ble_eq_true rfl
theorem eM_31 (w : W0) (m : Nat → Int32) (m2 : Nat → Int64) : KM.2.1 w 31 m m2 = .inl (w.2.2.1 2, 12, .inl m) := rfl
theorem lM_31 : 31 < KM.1 := Nat.le_of_ble_eq_true rfl
theorem eM_32 (w : W0) (m : Nat → Int32) (m2 : Nat → Int64) : KM.2.1 w 32 m m2 = .inl (w.2.2.1 2, 4, .inl m) := rfl
theorem lM_32 : 32 < KM.1 := Nat.le_of_ble_eq_true rfl
def isRl (k : Nat) : Bool := k == 5 || k == 7 || k == 9 || k == 11 || k == 18 || k == 20 || k == 22 || k == 24 || k == 35
theorem isRl_or {k : Nat} (h : isRl k = true) : k = 5 ∨ k = 7 ∨ k = 9 ∨ k = 11 ∨ k = 18 ∨ k = 20 ∨ k = 22 ∨ k = 24 ∨ k = 35 := by
  simpa [isRl, Bool.or_eq_true, or_assoc] using h
theorem eC_r {k : Nat} (h : isRl k = true) (w : W0) (m : Nat → Int32) (m2 : Nat → Int64) : KC.2.1 w k m m2 = .inr (5, [rf w (k + 1), .int (m 1)]) := by
  rcases isRl_or h with rfl | rfl | rfl | rfl | rfl | rfl | rfl | rfl | rfl <;> rfl
theorem sC_r {k : Nat} (h : isRl k = true) (w : W0) (m : Nat → Int32) (m2 : Nat → Int64) (x : Int32) : KC.2.1 w k (upd m 1 x) m2 = .inr (5, ([rf w (k + 1), .int (m 1)] : List Value).set 1 (.int x)) := by
  rcases isRl_or h with rfl | rfl | rfl | rfl | rfl | rfl | rfl | rfl | rfl <;> rfl
theorem eC_p {k : Nat} (h : isRl k = true) (w : W0) (m : Nat → Int32) (m2 : Nat → Int64) : KC.2.1 w (k + 1) m m2 = .inl (w.2.2.1 0, 40, .inl m) := by
  rcases isRl_or h with rfl | rfl | rfl | rfl | rfl | rfl | rfl | rfl | rfl <;> rfl
theorem lC_r {k : Nat} (h : isRl k = true) : k < KC.1 := by
  have : KC.1 = 53 := rfl
  rcases isRl_or h with rfl | rfl | rfl | rfl | rfl | rfl | rfl | rfl | rfl <;> omega
theorem lC_p {k : Nat} (h : isRl k = true) : k + 1 < KC.1 := by
  have : KC.1 = 53 := rfl
  rcases isRl_or h with rfl | rfl | rfl | rfl | rfl | rfl | rfl | rfl | rfl <;> omega
theorem rl_t {i : Int32} (h : inb i 4 = true) : isRl (5 + 2 * ix i) = true := by
  have h2 : ix i < 4 := Nat.not_le.mp fun q => inb_in h (Or.inr q)
  have : ix i = 0 ∨ ix i = 1 ∨ ix i = 2 ∨ ix i = 3 := by omega
  rcases this with e | e | e | e <;> rw [e] <;> rfl
theorem rl_k {i : Int32} (h : inb i 4 = true) : isRl (18 + 2 * ix i) = true := by
  have h2 : ix i < 4 := Nat.not_le.mp fun q => inb_in h (Or.inr q)
  have : ix i = 0 ∨ ix i = 1 ∨ ix i = 2 ∨ ix i = 3 := by omega
  rcases this with e | e | e | e <;> rw [e] <;> rfl
theorem sg_of {w : W0} {Z : Zx} {cc : ByteArray} {own : String} {D : Nat} (g : Good KC w Z cc own D) : Sg w (AV KC w) Z.1.2.2.2.2 Z.1.2.2.2.2.heap := g.2.2.2.2.2.2.2.2.2.1 rfl
