/-! the class: a taker's own way -/
def WayP (ng : Nat) (la : Int) (F : Nat → Nat → Int) (d : Int) (S H : Nat → Int) (k : Nat) (pr wy : Int32) : Prop :=
  pr.toInt ≤ la ∧ (0 < H k → pr.toInt ≤ d) ∧ (∀ g, g < ng → 0 < S g → pr.toInt ≤ F g k) ∧ ((wy = -2 ∧ pr.toInt = la) ∨ (wy = -1 ∧ 0 < H k ∧ pr.toInt = d) ∨ ∃ g, g < ng ∧ wy = nI g ∧ 0 < S g ∧ pr.toInt = F g k)
def vF (M : Mm) : Nat → Nat → Int := fun g k => (M.1 46 (4 * g + k)).toInt
def vS (M : Mm) : Nat → Int := fun g => (M.1 42 g).toInt
def vH (M : Mm) : Nat → Int := fun k => (M.1 45 k).toInt
def vX (M : Mm) : Nat → Nat → Int := fun g k => if k < 4 then (M.1 47 (4 * g + k)).toInt else 0
theorem fow_loop {N : Nat} (hN : 100000 ≤ N) {M : Mm} {ng t : Nat} {d : Int} (e1 : M.1 40 1 = nI ng) (hng : ng ≤ 4) (ht : t < 4) (hw : WayP 0 (zz (M.1 2) 41) (vF M) d (vS M) (vH M) t (M.1 48 t) (M.1 49 t)) (G : Unit → Mm → Rs) :
    ∃ M', itr (B_X4_findOwnWay_79 N (nI t) G) N 0 M = G () M' ∧ Fr [48, 49] M M' ∧ (∀ k, k ≠ t → M'.1 48 k = M.1 48 k ∧ M'.1 49 k = M.1 49 k) ∧ WayP ng (zz (M.1 2) 41) (vF M) d (vS M) (vH M) t (M'.1 48 t) (M'.1 49 t) := by
  obtain ⟨s', M', rec, ⟨hs, hF, ho, hv⟩, he⟩ := itr_go (B := B_X4_findOwnWay_79 N (nI t) G) (fun j s M' => s = nI j ∧ Fr [48, 49] M M' ∧ (∀ k, k ≠ t → M'.1 48 k = M.1 48 k ∧ M'.1 49 k = M.1 49 k) ∧ WayP j (zz (M.1 2) 41) (vF M) d (vS M) (vH M) t (M'.1 48 t) (M'.1 49 t)) ng
    (fun rec j s M1 hj ⟨hs, hF, ho, hv⟩ => by
      subst hs
      have e40 : M1.1 40 = M.1 40 := hF.1 40 (by simp)
      have e42 : M1.1 42 = M.1 42 := hF.1 42 (by simp)
      have e46 : M1.1 46 = M.1 46 := hF.1 46 (by simp)
      obtain ⟨v1, v2, v3, v4⟩ := hv
      have ef : vF M j t = (M.1 46 (4 * j + t)).toInt := rfl
      by_cases hs : 0 < vS M j
      · have hs' : 0 < (M.1 42 j).toInt := hs
        by_cases hlt : (M.1 46 (4 * j + t)).toInt < (M1.1 48 t).toInt
        · refine ⟨nI (j + 1), wI (wI M1 48 t (M.1 46 (4 * j + t))) 49 t (nI j), ⟨rfl, (hF.wI (by simp)).wI (by simp), fun k hk => ?_, ?_⟩, ?_⟩
          · have := ho k hk
            simp [wI_g, upd_g, hk, this]
          · have a1 : (wI (wI M1 48 t (M.1 46 (4 * j + t))) 49 t (nI j)).1 48 t = M.1 46 (4 * j + t) := by simp [wI_g, upd_g]
            have a2 : (wI (wI M1 48 t (M.1 46 (4 * j + t))) 49 t (nI j)).1 49 t = nI j := by simp [wI_g, upd_g]
            rw [a1, a2]
            refine ⟨by omega, fun z => by have := v2 z; omega, fun g hg hsg => ?_, Or.inr (Or.inr ⟨j, by omega, rfl, hs, rfl⟩)⟩
            by_cases e : g = j
            · subst e; exact Int.le_refl _
            · have := v3 g (by omega) hsg; omega
          · unfold B_X4_findOwnWay_79
            rw [e40, e1, e42, e46]
            simp (disch := omega) only [nlt, hj, if_true, inb_n, ix_n, mul4, nI_add, lt_eq, zI, hs']
            rw [if_pos (by rw [toI_lt]; exact hlt), nI_1]
        · refine ⟨nI (j + 1), M1, ⟨rfl, hF, ho, v1, v2, fun g hg hsg => ?_, ?_⟩, ?_⟩
          · by_cases e : g = j
            · subst e; omega
            · exact v3 g (by omega) hsg
          · rcases v4 with h | h | ⟨g, h1, h2⟩
            · exact Or.inl h
            · exact Or.inr (Or.inl h)
            · exact Or.inr (Or.inr ⟨g, by omega, h2⟩)
          · unfold B_X4_findOwnWay_79
            rw [e40, e1, e42, e46]
            simp (disch := omega) only [nlt, hj, if_true, inb_n, ix_n, mul4, nI_add, lt_eq, zI, hs']
            rw [if_neg (by rw [toI_lt]; exact hlt), nI_1]
      · have hs' : ¬ 0 < (M.1 42 j).toInt := hs
        refine ⟨nI (j + 1), M1, ⟨rfl, hF, ho, v1, v2, fun g hg hsg => ?_, ?_⟩, ?_⟩
        · by_cases e : g = j
          · subst e; exact absurd hsg hs
          · exact v3 g (by omega) hsg
        · rcases v4 with h | h | ⟨g, h1, h2⟩
          · exact Or.inl h
          · exact Or.inr (Or.inl h)
          · exact Or.inr (Or.inr ⟨g, by omega, h2⟩)
        · unfold B_X4_findOwnWay_79
          rw [e40, e1, e42, e46]
          simp (disch := omega) only [nlt, hj, if_true, inb_n, ix_n, mul4, nI_add, lt_eq, zI, hs', if_false, nI_1]) N 0 0 M (by omega) (by omega) ⟨nI_0.symm, Fr.rf _ _, fun _ _ => ⟨rfl, rfl⟩, hw⟩
  subst hs
  refine ⟨M', ?_, hF, ho, hv⟩
  rw [he]
  have e40 : M'.1 40 = M.1 40 := hF.1 40 (by simp)
  unfold B_X4_findOwnWay_79
  rw [e40, e1]
  simp (disch := omega) only [nlt, Nat.lt_irrefl, if_false]
theorem fow {N : Nat} (hN : 100000 ≤ N) {M : Mm} {ng t h : Nat} (e1 : M.1 40 1 = nI ng) (hng : ng ≤ 4) (ht : t < 4) (hh : h < 4) (e43 : M.1 43 t = nI h) :
    ∃ M', f_X4_findOwnWay N (nI t) M = some (0, M') ∧ Fr [48, 49] M M' ∧ (∀ k, k ≠ t → M'.1 48 k = M.1 48 k ∧ M'.1 49 k = M.1 49 k) ∧ WayP ng (zz (M.1 2) 41) (vF M) (zz (M.1 2) (6 * h + 3)) (vS M) (vH M) t (M'.1 48 t) (M'.1 49 t) := by
  -- before the givers are asked
  have key : ∀ Ma : Mm, Fr [48, 49] M Ma → (∀ k, k ≠ t → Ma.1 48 k = M.1 48 k ∧ Ma.1 49 k = M.1 49 k) → WayP 0 (zz (M.1 2) 41) (vF M) (zz (M.1 2) (6 * h + 3)) (vS M) (vH M) t (Ma.1 48 t) (Ma.1 49 t) →
      ∃ M', itr (B_X4_findOwnWay_79 N (nI t) fun _ M11 => some (0, M11)) N 0 Ma = some (0, M') ∧ Fr [48, 49] M M' ∧ (∀ k, k ≠ t → M'.1 48 k = M.1 48 k ∧ M'.1 49 k = M.1 49 k) ∧ WayP ng (zz (M.1 2) 41) (vF M) (zz (M.1 2) (6 * h + 3)) (vS M) (vH M) t (M'.1 48 t) (M'.1 49 t) := by
    intro Ma hF ho hw
    have q2 : Ma.1 2 = M.1 2 := hF.1 2 (by simp)
    have qF : vF Ma = vF M := by unfold vF; rw [hF.1 46 (by simp)]
    have qS : vS Ma = vS M := by unfold vS; rw [hF.1 42 (by simp)]
    have qH : vH Ma = vH M := by unfold vH; rw [hF.1 45 (by simp)]
    obtain ⟨M', a1, a2, a3, a4⟩ := fow_loop hN (M := Ma) (ng := ng) (t := t) (d := zz (M.1 2) (6 * h + 3)) (by rw [hF.1 40 (by simp)]; exact e1) hng ht (by rw [q2, qF, qS, qH]; exact hw) (fun _ M11 => some (0, M11))
    rw [q2, qF, qS, qH] at a4
    exact ⟨M', a1, hF.tr a2, fun k hk => ⟨(a3 k hk).1.trans (ho k hk).1, (a3 k hk).2.trans (ho k hk).2⟩, a4⟩
  have i41 : ix (41 : Int32) = 41 := rfl
  have b2 : (wI (wI M 48 t (M.1 2 41)) 49 t (-2)).1 2 = M.1 2 := by simp [wI_g]
  have b43 : (wI (wI M 48 t (M.1 2 41)) 49 t (-2)).1 43 = M.1 43 := by simp [wI_g]
  have b45 : (wI (wI M 48 t (M.1 2 41)) 49 t (-2)).1 45 = M.1 45 := by simp [wI_g]
  have b48 : (wI (wI M 48 t (M.1 2 41)) 49 t (-2)).1 48 t = M.1 2 41 := by simp [wI_g, upd_g]
  have b49 : (wI (wI M 48 t (M.1 2 41)) 49 t (-2)).1 49 t = -2 := by simp [wI_g, upd_g]
  have bF : Fr [48, 49] M (wI (wI M 48 t (M.1 2 41)) 49 t (-2)) := ((Fr.rf _ M).wI (by simp)).wI (by simp)
  have bo : ∀ k, k ≠ t → (wI (wI M 48 t (M.1 2 41)) 49 t (-2)).1 48 k = M.1 48 k ∧ (wI (wI M 48 t (M.1 2 41)) 49 t (-2)).1 49 k = M.1 49 k := fun k hk => by simp [wI_g, upd_g, hk]
  unfold f_X4_findOwnWay
  rw [i41]
  simp (disch := omega) only [inb_n, ix_n, if_true, lt_eq]
  rw [b43, b45, b2, e43]
  simp (disch := omega) only [mul6, add3, inb_n, ix_n, if_true]
  rw [b48]
  by_cases hH : 0 < (M.1 45 t).toInt
  · rw [if_pos (by rw [zI]; exact hH)]
    by_cases hd : (M.1 2 (6 * h + 3)).toInt < (M.1 2 41).toInt
    · rw [if_pos (by rw [toI_lt]; exact hd)]
      refine key _ ((bF.wI (by simp)).wI (by simp)) (fun k hk => ?_) ?_
      · have := bo k hk
        simp [wI_g, upd_g, hk]
      · have c48 : (wI (wI (wI (wI M 48 t (M.1 2 41)) 49 t (-2)) 48 t (M.1 2 (6 * h + 3))) 49 t (-1)).1 48 t = M.1 2 (6 * h + 3) := by simp [wI_g, upd_g]
        have c49 : (wI (wI (wI (wI M 48 t (M.1 2 41)) 49 t (-2)) 48 t (M.1 2 (6 * h + 3))) 49 t (-1)).1 49 t = -1 := by simp [wI_g, upd_g]
        rw [c48, c49]
        unfold zz
        exact ⟨by omega, fun _ => Int.le_refl _, fun g hg => absurd hg (by omega), Or.inr (Or.inl ⟨rfl, hH, rfl⟩)⟩
    · rw [if_neg (by rw [toI_lt]; exact hd)]
      refine key _ bF bo ?_
      rw [b48, b49]
      unfold zz
      exact ⟨Int.le_refl _, fun _ => by omega, fun g hg => absurd hg (by omega), Or.inl ⟨rfl, rfl⟩⟩
  · rw [if_neg (by rw [zI]; exact hH)]
    refine key _ bF bo ?_
    rw [b48, b49]
    unfold zz
    exact ⟨Int.le_refl _, fun z => absurd z hH, fun g hg => absurd hg (by omega), Or.inl ⟨rfl, rfl⟩⟩
