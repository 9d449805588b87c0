theorem worth_v {N : Nat} (hN : 100000 ≤ N) {M : Mm} (h : WB M) {j : Nat} (hj : j < 4) (x1 : Int32) (G : Int32 → Mm → Rs) : itr (B_X12_worth_32 N x1 (nI j) G) N (M.1 2 41, 0) M = G (Int32.ofInt (uZ (M.1 2) (v15 M) (v17 M) j)) M := by
  obtain ⟨u, a1, a2⟩ := worth_u hN h hj x1 G
  rw [a1, ← a2, Int32.ofInt_toInt]
theorem worth_w {M : Mm} (h : WB M) {j : Nat} (hj : j < 4) : (Int32.ofInt (uZ (M.1 2) (v15 M) (v17 M) j)).toInt = uZ (M.1 2) (v15 M) (v17 M) j := by
  obtain ⟨u, -, a2⟩ := worth_u (N := 100000) (by omega) h hj 0 (fun x M => some (x, M))
  rw [← a2, Int32.ofInt_toInt]
theorem tZ_b {M : Mm} (h : WB M) {j : Nat} (hj : j < 4) : 0 ≤ tZ (M.1 2) (v15 M) (v16 M) (v17 M) j ∧ tZ (M.1 2) (v15 M) (v16 M) (v17 M) j ≤ 500000 := by
  have u := uZn_b h hj 4 (by omega)
  rw [uZn_4] at u
  have d := h.1.1 (6 * j + 3) (by omega)
  have c := h.1.1 (6 * j + 4) (by omega)
  have l := h.2.2.1 j hj
  unfold tZ
  split
  · omega
  · have a : 0 ≤ (if uZ (M.1 2) (v15 M) (v17 M) j < zz (M.1 2) (6 * j + 3) then uZ (M.1 2) (v15 M) (v17 M) j else zz (M.1 2) (6 * j + 3)) ∧ (if uZ (M.1 2) (v15 M) (v17 M) j < zz (M.1 2) (6 * j + 3) then uZ (M.1 2) (v15 M) (v17 M) j else zz (M.1 2) (6 * j + 3)) ≤ 999 := by split <;> omega
    have b := mul_b a.1 a.2 l.1 l.2
    have e : 0 ≤ (if zz (M.1 2) (6 * j + 3) < uZ (M.1 2) (v15 M) (v17 M) j ∧ 0 < v16 M j - zz (M.1 2) (6 * j + 4) then (uZ (M.1 2) (v15 M) (v17 M) j - zz (M.1 2) (6 * j + 3)) * (v16 M j - zz (M.1 2) (6 * j + 4)) else 0) ∧ (if zz (M.1 2) (6 * j + 3) < uZ (M.1 2) (v15 M) (v17 M) j ∧ 0 < v16 M j - zz (M.1 2) (6 * j + 4) then (uZ (M.1 2) (v15 M) (v17 M) j - zz (M.1 2) (6 * j + 3)) * (v16 M j - zz (M.1 2) (6 * j + 4)) else 0) ≤ 999 * 198 := by
      split
      · rename_i hh
        exact mul_b (by omega) (by omega) (by omega) (by omega)
      · omega
    omega
theorem worth1 {N : Nat} (hN : 100000 ≤ N) {M : Mm} (h : WB M) (G : Int32 → Mm → Rs) : ∃ x : Int32, itr (B_X12_worth_4 N G) N (0, 0) M = G x M ∧ x.toInt = sm 4 (tZ (M.1 2) (v15 M) (v16 M) (v17 M)) := by
  have hbn : ∀ n, n ≤ 4 → 0 ≤ sm n (tZ (M.1 2) (v15 M) (v16 M) (v17 M)) ∧ sm n (tZ (M.1 2) (v15 M) (v16 M) (v17 M)) ≤ 500000 * n := by
    intro n
    induction n with
    | zero => intro _; unfold sm; omega
    | succ n ih => intro hn; have := ih (by omega); have := tZ_b h (j := n) (by omega); rw [sm_s]; omega
  obtain ⟨s', M', rec, ⟨x, hs, hM, hx⟩, he⟩ := itr_go (B := B_X12_worth_4 N G) (fun j s M' => ∃ x : Int32, s = (x, nI j) ∧ M' = M ∧ x.toInt = sm j (tZ (M.1 2) (v15 M) (v16 M) (v17 M))) 4
    (fun rec j s M1 hj ⟨x, hs, hM, hx⟩ => by
      subst hs; subst hM
      have hb := hbn j (by omega)
      by_cases hl : M1.1 16 j = 0
      · refine ⟨(x, nI (j + 1)), M1, ⟨_, rfl, rfl, ?_⟩, ?_⟩
        · rw [sm_s, hx]
          have : v16 M1 j = 0 := by unfold v16; rw [hl]; rfl
          unfold tZ
          rw [if_pos this]
          omega
        · unfold B_X12_worth_4
          simp (disch := omega) only [lt4, hj, if_true, inb_n, ix_n, hl, nI_1]
      · have hl' : ¬ v16 M1 j = 0 := fun e => hl (by rw [toI_eq]; exact e)
        have i41 : ix (41 : Int32) = 41 := rfl
        have a2 := worth_w h hj
        have a1 := fun G => worth_v hN h hj x G
        generalize Int32.ofInt (uZ (M1.1 2) (v15 M1) (v17 M1) j) = u at a1 a2
        have ub := uZn_b h hj 4 (by omega)
        rw [uZn_4] at ub
        have d := h.1.1 (6 * j + 3) (by omega)
        have c := h.1.1 (6 * j + 4) (by omega)
        have l := h.2.2.1 j hj
        have zd : zz (M1.1 2) (6 * j + 3) = (M1.1 2 (6 * j + 3)).toInt := rfl
        have zc : zz (M1.1 2) (6 * j + 4) = (M1.1 2 (6 * j + 4)).toInt := rfl
        have zl : v16 M1 j = (M1.1 16 j).toInt := rfl
        have x6 : (M1.1 16 j - M1.1 2 (6 * j + 4)).toInt = v16 M1 j - zz (M1.1 2) (6 * j + 4) := by rw [i_sub (by omega) (by omega)]; rfl
        -- what this harbour adds
        have fin : ∀ y : Int32, y.toInt = tZ (M1.1 2) (v15 M1) (v16 M1) (v17 M1) j → ∃ s' M', (∃ x' : Int32, s' = (x', nI (j + 1)) ∧ M' = M1 ∧ x'.toInt = sm (j + 1) (tZ (M1.1 2) (v15 M1) (v16 M1) (v17 M1))) ∧ rec (x + y, nI j + 1) M1 = rec s' M' := by
          intro y hy
          have hb2 := tZ_b h hj
          refine ⟨(x + y, nI (j + 1)), M1, ⟨_, rfl, rfl, ?_⟩, by rw [nI_1]⟩
          rw [i_add (by omega) (by omega), hx, hy, sm_s]
        unfold B_X12_worth_4
        rw [i41]
        simp (disch := omega) only [lt4, hj, if_true, inb_n, ix_n, hl, if_false]
        rw [a1]
        simp (disch := omega) only [lmul6, add3, add4, inb_n, ix_n, if_true, lt_eq]
        rw [bd_of (least_m _ _)]
        simp only [Int32.add_zero]
        have q0 : (if u < M1.1 2 (6 * j + 3) then u else M1.1 2 (6 * j + 3)).toInt = (if uZ (M1.1 2) (v15 M1) (v17 M1) j < zz (M1.1 2) (6 * j + 3) then uZ (M1.1 2) (v15 M1) (v17 M1) j else zz (M1.1 2) (6 * j + 3)) := by
          by_cases hlt : u < M1.1 2 (6 * j + 3)
          · rw [if_pos hlt]
            rw [toI_lt, a2] at hlt
            rw [if_pos (by rw [zd]; exact hlt), a2]
          · rw [if_neg hlt]
            rw [toI_lt, a2] at hlt
            rw [if_neg (by rw [zd]; exact hlt)]
            rfl
        generalize (if u < M1.1 2 (6 * j + 3) then u else M1.1 2 (6 * j + 3)) = mn at q0 ⊢
        have qb : 0 ≤ mn.toInt ∧ mn.toInt ≤ 999 := by rw [q0]; split <;> omega
        have q1b := mul_b qb.1 qb.2 l.1 l.2
        have q1 : (mn * M1.1 16 j).toInt = mn.toInt * v16 M1 j := by rw [i_mul (by rw [← zl]; omega) (by rw [← zl]; omega)]; rfl
        have tz : tZ (M1.1 2) (v15 M1) (v16 M1) (v17 M1) j = mn.toInt * v16 M1 j + (if zz (M1.1 2) (6 * j + 3) < uZ (M1.1 2) (v15 M1) (v17 M1) j ∧ 0 < v16 M1 j - zz (M1.1 2) (6 * j + 4) then (uZ (M1.1 2) (v15 M1) (v17 M1) j - zz (M1.1 2) (6 * j + 3)) * (v16 M1 j - zz (M1.1 2) (6 * j + 4)) else 0) := by
          unfold tZ
          rw [if_neg hl', q0]
        by_cases hdu : M1.1 2 (6 * j + 3) < u
        · have hdu' := hdu
          rw [toI_lt, a2] at hdu'
          rw [if_pos hdu]
          by_cases hp6 : 0 < M1.1 16 j - M1.1 2 (6 * j + 4)
          · have hp6' := hp6
            rw [zI, x6] at hp6'
            rw [if_pos hp6]
            refine fin (mn * M1.1 16 j + (u - M1.1 2 (6 * j + 3)) * (M1.1 16 j - M1.1 2 (6 * j + 4))) ?_
            have s1 : (u - M1.1 2 (6 * j + 3)).toInt = uZ (M1.1 2) (v15 M1) (v17 M1) j - zz (M1.1 2) (6 * j + 3) := by rw [i_sub (by omega) (by omega), a2]; rfl
            have s2b := mul_b (x := uZ (M1.1 2) (v15 M1) (v17 M1) j - zz (M1.1 2) (6 * j + 3)) (y := v16 M1 j - zz (M1.1 2) (6 * j + 4)) (a := 999) (b := 198) (by omega) (by omega) (by omega) (by omega)
            have s2 : ((u - M1.1 2 (6 * j + 3)) * (M1.1 16 j - M1.1 2 (6 * j + 4))).toInt = (uZ (M1.1 2) (v15 M1) (v17 M1) j - zz (M1.1 2) (6 * j + 3)) * (v16 M1 j - zz (M1.1 2) (6 * j + 4)) := by rw [i_mul (by rw [s1, x6]; omega) (by rw [s1, x6]; omega), s1, x6]
            rw [i_add (by rw [q1, s2]; omega) (by rw [q1, s2]; omega), q1, s2, tz, if_pos ⟨hdu', hp6'⟩]
          · have hp6' := hp6
            rw [zI, x6] at hp6'
            rw [if_neg hp6]
            refine fin (mn * M1.1 16 j) ?_
            rw [q1, tz, if_neg (fun z => hp6' z.2)]
            omega
        · have hdu' := hdu
          rw [toI_lt, a2] at hdu'
          rw [if_neg hdu]
          refine fin (mn * M1.1 16 j) ?_
          rw [q1, tz, if_neg (fun z => hdu' z.1)]
          omega) N 0 (0, 0) M (by omega) (by omega) ⟨0, by rw [nI_0], rfl, rfl⟩
  subst hs; subst hM
  refine ⟨x, ?_, hx⟩
  rw [he]
  unfold B_X12_worth_4
  simp (disch := omega) only [lt4, Nat.lt_irrefl, if_false]
theorem worth_e {N : Nat} (hN : 100000 ≤ N) {M : Mm} (h : WB M) : ∃ x : Int32, f_X12_worth N M = some (x, M) ∧ x.toInt = wZ (M.1 2) (v15 M) (v16 M) (v17 M) := by
  obtain ⟨x0, a1, a2⟩ := worth1 hN h (fun z12 M13 => itr (B_X12_worth_161 N fun z15 M16 => some (z15, M16)) N (z12, 0) M13)
  have tb : 0 ≤ sm 4 (tZ (M.1 2) (v15 M) (v16 M) (v17 M)) ∧ sm 4 (tZ (M.1 2) (v15 M) (v16 M) (v17 M)) ≤ 2000000 := by
    have t0 := tZ_b h (j := 0) (by omega); have t1 := tZ_b h (j := 1) (by omega); have t2 := tZ_b h (j := 2) (by omega); have t3 := tZ_b h (j := 3) (by omega)
    rw [← s4_sm]; unfold s4; omega
  have pb : ∀ i, i < 4 → 0 ≤ v17 M i * v15 M i ∧ v17 M i * v15 M i ≤ 1200 * 3000 := fun i hi => mul_b (h.2.2.2 i hi).1 (h.2.2.2 i hi).2 (h.2.1 i hi).1 (h.2.1 i hi).2
  have sb : ∀ n, n ≤ 4 → 0 ≤ sm n (fun i => v17 M i * v15 M i) ∧ sm n (fun i => v17 M i * v15 M i) ≤ 3600000 * n := by
    intro n
    induction n with
    | zero => intro _; unfold sm; omega
    | succ n ih => intro hn; have := ih (by omega); have := pb n (by omega); rw [sm_s]; omega
  obtain ⟨s', M', rec, ⟨x, hs, hM, hx⟩, he⟩ := itr_go (B := B_X12_worth_161 N fun z15 M16 => some (z15, M16)) (fun j s M' => ∃ x : Int32, s = (x, nI j) ∧ M' = M ∧ x.toInt = sm 4 (tZ (M.1 2) (v15 M) (v16 M) (v17 M)) - sm j (fun i => v17 M i * v15 M i)) 4
    (fun rec j s M1 hj ⟨x, hs, hM, hx⟩ => by
      subst hs; subst hM
      have b := sb j (by omega)
      have c := pb j hj
      have m1 : (M1.1 17 j * M1.1 15 j).toInt = v17 M1 j * v15 M1 j := i_mul (by show _ ≤ v17 M1 j * v15 M1 j; omega) (by show v17 M1 j * v15 M1 j < _; omega)
      refine ⟨(x - M1.1 17 j * M1.1 15 j, nI (j + 1)), M1, ⟨_, rfl, rfl, ?_⟩, ?_⟩
      · rw [i_sub (by rw [m1]; omega) (by rw [m1]; omega), m1, hx, sm_s j]
        omega
      · unfold B_X12_worth_161
        simp (disch := omega) only [lt4, hj, if_true, inb_n, ix_n, lt_eq, nI_1]) N 0 (x0, 0) M (by omega) (by omega) ⟨x0, by rw [nI_0], rfl, by rw [a2]; unfold sm; omega⟩
  subst hs; subst hM
  refine ⟨x, ?_, ?_⟩
  · unfold f_X12_worth
    rw [a1, he]
    unfold B_X12_worth_161
    simp (disch := omega) only [lt4, Nat.lt_irrefl, if_false]
  · rw [hx, ← s4_sm, ← s4_sm]
    unfold s4 wZ
    dsimp only
    omega
/-- a try: the greatest worth so far, nothing else -/
theorem tries_e {N : Nat} (hN : 100000 ≤ N) {M : Mm} (h : WB M) : ∃ M', f_X12_tries N M = some (0, M') ∧ (M'.1 0 26).toInt = mx (M.1 0 26).toInt (wZ (M.1 2) (v15 M) (v16 M) (v17 M)) ∧ Fr [0] M M' ∧ ∀ i, i ≠ 26 → M'.1 0 i = M.1 0 i := by
  obtain ⟨x, a1, a2⟩ := worth_e hN h
  unfold f_X12_tries
  rw [bd_of a1]
  by_cases hlt : M.1 0 26 < x
  · rw [if_pos hlt]
    refine ⟨wI M 0 26 x, rfl, ?_, (Fr.rf _ M).wI (by simp), fun i hi => ?_⟩
    · rw [toI_lt, a2] at hlt
      unfold mx
      rw [if_pos hlt]
      simp [wI_g, upd_g, a2]
    · simp [wI_g, upd_g, hi]
  · rw [if_neg hlt]
    refine ⟨M, rfl, ?_, Fr.rf _ M, fun _ _ => rfl⟩
    rw [toI_lt, a2] at hlt
    unfold mx
    rw [if_neg hlt]
