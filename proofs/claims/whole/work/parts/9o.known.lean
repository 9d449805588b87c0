/-! THE LAW: what its start knows -/
theorem tb_1 {w : Cond} (h : w ∈ tables_1_1) : w ∈ lw_tbl := List.mem_append_right _ (List.mem_append_left _ h)
theorem tb_2 {w : Cond} (h : w ∈ tables_1_2) : w ∈ lw_tbl := List.mem_append_right _ (List.mem_append_right _ (List.mem_append_left _ h))
section Known
variable {args : Array Value} {s : State}
theorem nw_of (hts : ∀ w ∈ lw_tbl, w.before args s = true) : NW s := ⟨va_Nw.of rfl (hts _ (tb_1 (List.mem_of_getElem? (i := 35) rfl))), va_Nw.of rfl (hts _ (tb_1 (List.mem_of_getElem? (i := 88) rfl))), va_Nw.of rfl (hts _ (tb_1 (List.mem_of_getElem? (i := 108) rfl))), va_Nw.of rfl (hts _ (tb_1 (List.mem_of_getElem? (i := 136) rfl))), va_AO.of (hts _ (tb_1 (List.mem_of_getElem? (i := 33) rfl)))⟩
theorem kn_of (hts : ∀ w ∈ lw_tbl, w.before args s = true) : ∃ (G : va_G) (t : Nat → ClassId), va_K G vwCl (tyL t) s := by
  have ht : ∀ u ∈ Ug, u.before args s = true := fun u hu => hts u (Ug_tbl hu)
  have hc : ∀ c : Nat, ∃ p : ClassId × (Nat → Nat), ∀ q, vwCl[c]? = some q → u_Kn s q.1 q.2.1 q.2.2 p.1 p.2 := by
    intro c
    match c with
    | 0 =>
      obtain ⟨a, i, h⟩ := u_known (n := 2) ht kx_X0 (ht (Cond.instantiable RX0 2) (ug_2 (List.mem_of_getElem? (i := 7) rfl) rfl))
      exact ⟨(a, i), fun q hq => by cases hq; exact h⟩
    | 1 =>
      obtain ⟨a, i, h⟩ := u_known (n := 4) ht kx_X1 (ht (Cond.instantiable RX1 4) (ug_1 (List.mem_of_getElem? (i := 87) rfl) rfl))
      exact ⟨(a, i), fun q hq => by cases hq; exact h⟩
    | 2 =>
      obtain ⟨a, i, h⟩ := u_known (n := 7) ht kx_X2 (ht (Cond.instantiable RX2 7) (ug_1 (List.mem_of_getElem? (i := 219) rfl) rfl))
      exact ⟨(a, i), fun q hq => by cases hq; exact h⟩
    | 3 =>
      obtain ⟨a, i, h⟩ := u_known (n := 5) ht kx_X3 (ht (Cond.instantiable RX3 5) (ug_1 (List.mem_of_getElem? (i := 151) rfl) rfl))
      exact ⟨(a, i), fun q hq => by cases hq; exact h⟩
    | 4 =>
      obtain ⟨a, i, h⟩ := u_known (n := 12) ht kx_X4 (ht (Cond.instantiable RX4 12) (ug_1 (List.mem_of_getElem? (i := 157) rfl) rfl))
      exact ⟨(a, i), fun q hq => by cases hq; exact h⟩
    | 5 =>
      obtain ⟨a, i, h⟩ := u_known (n := 2) ht kx_X7 (ht (Cond.instantiable RX7 2) (ug_1 (List.mem_of_getElem? (i := 34) rfl) rfl))
      exact ⟨(a, i), fun q hq => by cases hq; exact h⟩
    | 6 =>
      obtain ⟨a, i, h⟩ := u_known (n := 4) ht kx_X8 (ht (Cond.instantiable RX8 4) (ug_1 (List.mem_of_getElem? (i := 130) rfl) rfl))
      exact ⟨(a, i), fun q hq => by cases hq; exact h⟩
    | 7 =>
      obtain ⟨a, i, h⟩ := u_known (n := 4) ht kx_X9 (ht (Cond.instantiable RX9 4) (ug_1 (List.mem_of_getElem? (i := 107) rfl) rfl))
      exact ⟨(a, i), fun q hq => by cases hq; exact h⟩
    | 8 =>
      obtain ⟨a, i, h⟩ := u_known (n := 8) ht kx_X10 (ht (Cond.instantiable RX10 8) (ug_1 (List.mem_of_getElem? (i := 27) rfl) rfl))
      exact ⟨(a, i), fun q hq => by cases hq; exact h⟩
    | 9 =>
      obtain ⟨a, i, h⟩ := u_known (n := 12) ht kx_X11 (ht (Cond.instantiable RX11 12) (ug_1 (List.mem_of_getElem? (i := 19) rfl) rfl))
      exact ⟨(a, i), fun q hq => by cases hq; exact h⟩
    | 10 =>
      obtain ⟨a, i, h⟩ := u_known (n := 51) ht kx_X12 (ht (Cond.instantiable RX12 51) (ug_4 (List.mem_of_getElem? (i := 39) rfl) rfl))
      exact ⟨(a, i), fun q hq => by cases hq; exact h⟩
    | c + 11 =>
      obtain ⟨a, i, h⟩ := u_known (n := 2) ht kx_X7 (ht (Cond.instantiable RX7 2) (ug_1 (List.mem_of_getElem? (i := 34) rfl) rfl))
      exact ⟨(a, i), fun q hq => by cases hq⟩
  obtain ⟨c0, k0, p0, x1, x2, x3⟩ := Cond.arrayClass_spec (ht _ ac_I)
  obtain ⟨c1, k1, p1, y1, y2, y3⟩ := Cond.arrayClass_spec (ht _ ac_J)
  obtain ⟨c2, k2, p2, z1, z2, z3⟩ := Cond.arrayClass_spec (ht _ ac_Z)
  obtain ⟨comp, c3, k3, v1, v2, v3, v4, v5⟩ := Cond.arrayOver_spec (va_AO.use (A := args) (nw_of hts).2.2.2.2)
  refine ⟨(fun c => (Classical.choose (hc c)).1, fun c => (Classical.choose (hc c)).2), fun j => match j with | 0 => c0 | 1 => c1 | 2 => c2 | _ => c3, fun c q hq => Classical.choose_spec (hc c) q hq, fun k q hk => ?_⟩
  match k, hk with
  | 0, hk => cases hk; exact ⟨fun n z => ⟨fun k h => (by cases h), k0, x2, p0, x3⟩, x1⟩
  | 1, hk => cases hk; exact ⟨fun n z => ⟨fun k h => (by cases h), k1, y2, p1, y3⟩, y1⟩
  | 2, hk => cases hk; exact ⟨fun n z => ⟨fun k h => (by cases h), k2, z2, p2, z3⟩, z1⟩
  | 3, hk => cases hk; exact ⟨fun n z => ⟨fun k h => (by cases h), k3, v3, comp, v4⟩, k3, comp, v3, v4, v1, v5⟩
  | k + 4, hk => cases hk
theorem sg_at (hts : ∀ w ∈ lw_tbl, w.before args s = true) (hg : (Jvm.Cond.and given_1 narrow_1).before args s = true) {A : Nat → Prop} (hA : ∀ a : Nat, a < s.heap.size → ¬ A a) : ∃ S : Nat → Nat, ∀ (G : va_G) (f : Nat → Nat) (t : Nat → ClassId), Sg (G, f, t, S) A s s.heap := by
  have hs := flat_of_before _ hg
  have hi : (Cond.initialized "FerryPlans").before args s = true := hts _ (Ug_tbl (ug_1 (List.mem_of_getElem? (i := 1) rfl) rfl))
  obtain ⟨t0, e0, T0⟩ := va_Tof (A := A) (tm := .static "FerryPlans" "GREATEST" "[I") (ty := .int) (N := 6) (f := fun j => .int (g0 j)) (by decide) (hs _ (by decide +kernel)) (va_eqt (hs _ (by decide +kernel))) (fun j hj => match j, hj with | 0, _ => va_eqt (hs _ (by decide +kernel)) | 1, _ => va_eqt (hs _ (by decide +kernel)) | 2, _ => va_eqt (hs _ (by decide +kernel)) | 3, _ => va_eqt (hs _ (by decide +kernel)) | 4, _ => va_eqt (hs _ (by decide +kernel)) | 5, _ => va_eqt (hs _ (by decide +kernel)) | j + 6, h => absurd h (by omega)) hA
  obtain ⟨t1, e1, T1⟩ := va_Tof (A := A) (tm := .static "FerryPlans" "COMMON_LEAST" "[I") (ty := .int) (N := 3) (f := fun j => .int (g1 j)) (by decide) (hs _ (by decide +kernel)) (va_eqt (hs _ (by decide +kernel))) (fun j hj => match j, hj with | 0, _ => va_eqt (hs _ (by decide +kernel)) | 1, _ => va_eqt (hs _ (by decide +kernel)) | 2, _ => va_eqt (hs _ (by decide +kernel)) | j + 3, h => absurd h (by omega)) hA
  obtain ⟨t2, e2, T2⟩ := va_Tof (A := A) (tm := .static "FerryPlans" "COMMON_GREATEST" "[I") (ty := .int) (N := 3) (f := fun j => .int (g2 j)) (by decide) (hs _ (by decide +kernel)) (va_eqt (hs _ (by decide +kernel))) (fun j hj => match j, hj with | 0, _ => va_eqt (hs _ (by decide +kernel)) | 1, _ => va_eqt (hs _ (by decide +kernel)) | 2, _ => va_eqt (hs _ (by decide +kernel)) | j + 3, h => absurd h (by omega)) hA
  exact ⟨fun j => match j with | 0 => t0 | 1 => t1 | _ => t2, fun G f t => ⟨va_Zof (hts _ (tb_2 (List.mem_of_getElem? (i := 78) rfl))) hi e0 hA, T0, va_Zof (hts _ (tb_2 (List.mem_of_getElem? (i := 96) rfl))) hi e1 hA, T1, va_Zof (hts _ (tb_2 (List.mem_of_getElem? (i := 98) rfl))) hi e2 hA, T2, va_Nw.of rfl (hts _ (tb_2 (List.mem_of_getElem? (i := 156) rfl)))⟩⟩
end Known
theorem Sg.narrow {w : W0} {A B : Nat → Prop} {U : State} {H : Heap} (h : Sg w A U H) (hq : ∀ q, B q → A q) : Sg w B U H := by
  obtain ⟨h1, h2, h3, h4, h5, h6, h7⟩ := h
  exact ⟨h1.narrow hq, h2.narrow hq, h3.narrow hq, h4.narrow hq, h5.narrow hq, h6.narrow hq, h7⟩
theorem wsOf_len {K : Wk} {w : W0} {M : Mm} : (wsOf K w M).length = K.1 := by simp [wsOf]
theorem d_two {A : Nat → Prop} {K1 K2 : Wk} {w1 w2 : W0} {M1 M2 : Mm} (h : va_D A (wsOf K1 w1 M1 ++ wsOf K2 w2 M2)) : Apart K1 w1 ∧ Apart K2 w2 ∧ (∀ i, i < K1.1 → A (w1.2.1 i)) ∧ (∀ i, i < K2.1 → A (w2.2.1 i)) ∧ ∀ i j, i < K1.1 → j < K2.1 → w1.2.1 i ≠ w2.2.1 j := by
  have a1 : ∀ i, i < K1.1 → (wsOf K1 w1 M1 ++ wsOf K2 w2 M2)[i]? = some (w1.2.1 i, K1.2.1 w1 i (M1.1 i) (M1.2 i)) := fun i hi => by
    rw [List.getElem?_append_left (by rw [wsOf_len]; exact hi), wsOf_get hi]
  have a2 : ∀ i, i < K2.1 → (wsOf K1 w1 M1 ++ wsOf K2 w2 M2)[K1.1 + i]? = some (w2.2.1 i, K2.2.1 w2 i (M2.1 i) (M2.2 i)) := fun i hi => by
    rw [List.getElem?_append_right (by rw [wsOf_len]; omega), wsOf_len, show K1.1 + i - K1.1 = i by omega, wsOf_get hi]
  refine ⟨fun i j hi hj e => h.1 i j _ _ (a1 i hi) (a1 j hj) e, fun i j hi hj e => ?_, fun i hi => h.2 i _ (a1 i hi), fun i hi => h.2 _ _ (a2 i hi), fun i j hi hj e => ?_⟩
  · have := h.1 _ _ _ _ (a2 i hi) (a2 j hj) e
    omega
  · have := h.1 _ _ _ _ (a1 i hi) (a2 j hj) e
    omega
