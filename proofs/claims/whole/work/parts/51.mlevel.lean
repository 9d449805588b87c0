/-! the reference: rows of prices that are tried -/
theorem uZ_congr {nu : Nat → Int32} {sp pr pr' : Nat → Int} {j : Nat} (h : ∀ i, i < 4 → 0 < sp i → pr i = pr' i) : uZ nu sp pr j = uZ nu sp pr' j := by
  have k : ∀ u i, i < 4 → uZ1 nu sp pr j u i = uZ1 nu sp pr' j u i := by
    intro u i hi
    unfold uZ1
    by_cases hs : 0 < sp i
    · rw [if_pos hs, if_pos hs, h i hi hs]
    · rw [if_neg hs, if_neg hs]
  unfold uZ
  rw [k _ 0 (by omega), k _ 1 (by omega), k _ 2 (by omega), k _ 3 (by omega)]
theorem wZ_congr {nu : Nat → Int32} {sp lk pr pr' : Nat → Int} (h0 : ∀ i, i < 4 → 0 ≤ sp i) (h : ∀ i, i < 4 → 0 < sp i → pr i = pr' i) : wZ nu sp lk pr = wZ nu sp lk pr' := by
  have t : ∀ j, tZ nu sp lk pr j = tZ nu sp lk pr' j := by
    intro j
    unfold tZ
    rw [uZ_congr h]
  have m : ∀ i, i < 4 → pr i * sp i = pr' i * sp i := by
    intro i hi
    by_cases hs : 0 < sp i
    · rw [h i hi hs]
    · have : sp i = 0 := by have := h0 i hi; omega
      rw [this]; simp
  unfold wZ
  rw [t, t, t, t, m 0 (by omega), m 1 (by omega), m 2 (by omega), m 3 (by omega)]
/-- while prices are tried: no more than v is found, and what was found stays -/
def TI (v : Int) (M0 M : Mm) : Prop := Fr [0, 17] M0 M ∧ (∀ i, i ≠ 26 → M.1 0 i = M0.1 0 i) ∧ (∀ h, h < 4 → 0 ≤ v17 M h ∧ v17 M h ≤ 1200) ∧ (M0.1 0 26).toInt ≤ (M.1 0 26).toInt ∧ (M.1 0 26).toInt ≤ v
def Cap (v : Int) (M0 : Mm) : Prop := WB M0 ∧ ∀ pr : Nat → Int, (∀ i, i < 4 → 0 ≤ pr i) → wZ (M0.1 2) (v15 M0) (v16 M0) pr ≤ v
section Try
variable {N : Nat} {v : Int} {M0 M : Mm}
theorem TI.rf (hc : Cap v M0) (h : (M0.1 0 26).toInt ≤ v) : TI v M0 M0 := ⟨Fr.rf _ _, fun _ _ => rfl, hc.1.2.2.2, Int.le_refl _, h⟩
theorem TI.e2 (h : TI v M0 M) : M.1 2 = M0.1 2 := h.1.1 2 (by simp)
theorem TI.e15 (h : TI v M0 M) : v15 M = v15 M0 := by unfold v15; rw [h.1.1 15 (by simp)]
theorem TI.e16 (h : TI v M0 M) : v16 M = v16 M0 := by unfold v16; rw [h.1.1 16 (by simp)]
theorem TI.wb (hc : Cap v M0) (h : TI v M0 M) : WB M := by
  obtain ⟨⟨w1, w2, w3, -⟩, -⟩ := hc
  exact ⟨by rw [h.e2]; exact w1, by rw [h.e15]; exact w2, by rw [h.e16]; exact w3, h.2.2.1⟩
theorem TI.set (h : TI v M0 M) {i : Nat} {x : Int32} (hx : 0 ≤ x.toInt ∧ x.toInt ≤ 1200) : TI v M0 (wI M 17 i x) := by
  obtain ⟨a, b, c, d, e⟩ := h
  refine ⟨a.wI (by simp), fun k hk => by rw [wI_g, if_neg (by omega)]; exact b k hk, fun k hk => ?_, by rw [wI_g, if_neg (by omega)]; exact d, by rw [wI_g, if_neg (by omega)]; exact e⟩
  unfold v17
  simp only [wI_g, if_true, upd_g]
  split
  · exact hx
  · exact c k hk
theorem TI.try (hN : 100000 ≤ N) (hc : Cap v M0) (h : TI v M0 M) : ∃ M', f_X12_tries N M = some (0, M') ∧ TI v M0 M' ∧ M'.1 17 = M.1 17 ∧ wZ (M0.1 2) (v15 M0) (v16 M0) (v17 M) ≤ (M'.1 0 26).toInt ∧ (M.1 0 26).toInt ≤ (M'.1 0 26).toInt := by
  obtain ⟨M', a1, a2, a3, a4⟩ := tries_e hN (h.wb hc)
  have e17 : M'.1 17 = M.1 17 := a3.1 17 (by simp)
  rw [h.e2, h.e15, h.e16] at a2
  have hcap := hc.2 (v17 M) (fun i hi => (h.2.2.1 i hi).1)
  obtain ⟨b1, b2, b3, b4, b5⟩ := h
  unfold mx at a2
  refine ⟨M', a1, ⟨b1.tr (a3.mono (by simp)), fun i hi => (a4 i hi).trans (b2 i hi), by unfold v17; rw [e17]; exact b3, ?_, ?_⟩, e17, ?_, ?_⟩
  · rw [a2]; split <;> omega
  · rw [a2]; split <;> omega
  · rw [a2]; split <;> omega
  · rw [a2]; split <;> omega
theorem level_e (hN : 100000 ≤ N) (hc : Cap v M0) (h : TI v M0 M) {j : Nat} (hj : j < 4) {lv : Int32} (hl : 0 ≤ lv.toInt ∧ lv.toInt ≤ 999) : ∃ M', f_X12_triesLevel N (nI j) lv M = some (0, M') ∧ TI v M0 M' ∧ wZ (M0.1 2) (v15 M0) (v16 M0) (lvZ (M0.1 2) (v15 M0) j lv.toInt) ≤ (M'.1 0 26).toInt ∧ (M.1 0 26).toInt ≤ (M'.1 0 26).toInt := by
  obtain ⟨s', M', rec, ⟨hs, hT, hb, hv⟩, he⟩ := itr_go (B := B_X12_triesLevel_2 N (nI j) lv fun _ M6 => bd (f_X12_tries N M6) fun _ M8 => some (0, M8)) (fun i s M' => s = nI i ∧ TI v M0 M' ∧ M'.1 0 26 = M.1 0 26 ∧ ∀ k, k < i → v17 M' k = lvZ (M0.1 2) (v15 M0) j lv.toInt k) 4
    (fun rec i s M1 hi ⟨hs, hT, hb, hv⟩ => by
      subst hs
      have e2 := hT.e2
      have z := hc.1.1.1 (24 + 4 * i + j) (by omega)
      have e1 : (lv - M0.1 2 (24 + 4 * i + j)).toInt = lv.toInt - zz (M0.1 2) (24 + 4 * i + j) := i_sub (by unfold zz at z; omega) (by unfold zz at z; omega)
      have hs15 : (M1.1 15 i).toInt = v15 M0 i := by rw [← hT.e15]; rfl
      have fin : ∀ x : Int32, x.toInt = lvZ (M0.1 2) (v15 M0) j lv.toInt i → ∃ s' M', (s' = nI (i + 1) ∧ TI v M0 M' ∧ M'.1 0 26 = M.1 0 26 ∧ ∀ k, k < i + 1 → v17 M' k = lvZ (M0.1 2) (v15 M0) j lv.toInt k) ∧ rec (nI i + 1) (wI M1 17 i x) = rec s' M' := by
        intro x hx
        have hxb : 0 ≤ x.toInt ∧ x.toInt ≤ 1200 := by
          rw [hx]; unfold lvZ cut0
          split
          · split <;> omega
          · omega
        refine ⟨nI (i + 1), wI M1 17 i x, ⟨rfl, hT.set hxb, by rw [wI_g, if_neg (by omega)]; exact hb, fun k hk => ?_⟩, by rw [nI_1]⟩
        by_cases e : k = i
        · subst e
          rw [← hx]
          unfold v17
          simp [wI_g, upd_g]
        · rw [← hv k (by omega)]
          unfold v17
          simp [wI_g, upd_g, e]
      unfold lvZ cut0 at fin
      unfold B_X12_triesLevel_2
      simp (disch := omega) only [lt4, hi, if_true, lmul4, ladd24, nI_add, inb_n, ix_n, lt_eq, e2, zI, hs15, e1]
      by_cases h1 : 0 < v15 M0 i
      · rw [if_pos h1]
        rw [if_pos h1] at fin
        by_cases h2 : 0 < lv.toInt - zz (M0.1 2) (24 + 4 * i + j)
        · rw [if_pos h2]
          rw [if_pos h2] at fin
          exact fin _ e1
        · rw [if_neg h2]
          rw [if_neg h2] at fin
          exact fin 0 rfl
      · rw [if_neg h1]
        rw [if_neg h1] at fin
        exact fin 0 rfl) N 0 0 M (by omega) (by omega) ⟨nI_0.symm, h, rfl, fun k hk => absurd hk (by omega)⟩
  subst hs
  obtain ⟨M2, a1, a2, a3, a4, a5⟩ := hT.try hN hc
  refine ⟨M2, ?_, a2, ?_, by rw [← hb]; exact a5⟩
  · unfold f_X12_triesLevel
    rw [he]
    simp (disch := omega) only [B_X12_triesLevel_2, lt4, Nat.lt_irrefl, if_false]
    rw [bd_of a1]
  · rw [← wZ_congr (fun i hi => (hc.1.2.1 i hi).1) (fun i hi _ => hv i hi)]
    exact a4
theorem price_e {i k : Nat} (hc : Cap v M0) (h : TI v M0 M) (hi : i < 4) (hk : k < 9) : ∃ x : Int32, f_X12_priceOf N (nI i) (nI k) M = some (x, M) ∧ x.toInt = prZ (M0.1 2) (v16 M0) i k ∧ 0 ≤ x.toInt ∧ x.toInt ≤ 999 := by
  have e2 := h.e2
  unfold f_X12_priceOf
  by_cases h8 : k = 8
  · subst h8
    exact ⟨0, rfl, by unfold prZ; rw [if_pos rfl]; rfl, by decide, by decide⟩
  · rw [if_neg (by rw [eq8 (by omega)]; exact h8)]
    have ed : nI k / 2 = nI (k / 2) := by
      show nI k / nI 2 = _
      rw [pk_div (by omega) (by omega) (by omega)]
    have er : nI k - nI k / 2 * 2 = nI (k % 2) := by
      show nI k - nI k / nI 2 * nI 2 = _
      rw [pk_rem (by omega) (by omega) (by omega)]
    have hl16 : (M.1 16 (k / 2)).toInt = v16 M0 (k / 2) := by rw [← h.e16]; rfl
    simp only [lt_eq]
    rw [er, ed]
    simp (disch := omega) only [inb_n, ix_n, if_true, lmul4, lmul6, ladd24, nI_add, add3, eq0, e2]
    have i41 : ix (41 : Int32) = 41 := rfl
    rw [i41]
    by_cases h0 : M.1 16 (k / 2) = 0
    · rw [if_pos h0]
      refine ⟨0, rfl, ?_, by decide, by decide⟩
      unfold prZ
      have : v16 M0 (k / 2) = 0 := by rw [← hl16, h0]; rfl
      rw [if_neg h8, if_pos this]
      rfl
    · rw [if_neg h0]
      have h0' : ¬ v16 M0 (k / 2) = 0 := fun e => h0 (by rw [toI_eq, hl16, e]; rfl)
      have z1 := hc.1.1.1 41 (by omega)
      have z2 := hc.1.1.1 (6 * (k / 2) + 3) (by omega)
      have z3 := hc.1.1.1 (24 + 4 * i + k / 2) (by omega)
      have fin : ∀ y : Int32, (0 ≤ y.toInt ∧ y.toInt ≤ 999) → ∃ x : Int32, (if 0 < y - M0.1 2 (24 + 4 * i + k / 2) then some (y - M0.1 2 (24 + 4 * i + k / 2), M) else some (0, M)) = some (x, M) ∧ x.toInt = cut0 (y.toInt - zz (M0.1 2) (24 + 4 * i + k / 2)) ∧ 0 ≤ x.toInt ∧ x.toInt ≤ 999 := by
        intro y hy
        have e1 : (y - M0.1 2 (24 + 4 * i + k / 2)).toInt = y.toInt - zz (M0.1 2) (24 + 4 * i + k / 2) := i_sub (by unfold zz at z3; omega) (by unfold zz at z3; omega)
        unfold cut0
        by_cases hp : 0 < y - M0.1 2 (24 + 4 * i + k / 2)
        · rw [if_pos hp]
          rw [zI, e1] at hp
          rw [if_pos hp]
          exact ⟨_, rfl, e1, by omega, by omega⟩
        · rw [if_neg hp]
          rw [zI, e1] at hp
          rw [if_neg hp]
          exact ⟨0, rfl, rfl, by decide, by decide⟩
      unfold prZ
      rw [if_neg h8, if_neg h0']
      by_cases hm : k % 2 = 0
      · rw [if_pos hm, if_pos hm]
        exact fin (M0.1 2 41) z1
      · rw [if_neg hm, if_neg hm]
        exact fin (M0.1 2 (6 * (k / 2) + 3)) z2
end Try
