/-! image and restore: what is copied -/
section Copies
variable {N : Nat} {M : Mm}
theorem cp1 {B : (Unit → Mm → Rs) → (Int32 → Mm → Rs) → Int32 → Mm → Rs} {src dst n : Nat} (hne : src ≠ dst) (hB : ∀ G rec j M, j < n → B G rec (nI j) M = rec (nI (j + 1)) (wI M dst j (M.1 src j))) (hE : ∀ G rec M, B G rec (nI n) M = G () M) (hn : n < N) : ∃ M', (∀ G, itr (B G) N 0 M = G () M') ∧ Fr [dst] M M' ∧ ∀ i, i < n → M'.1 dst i = M.1 src i := by
  obtain ⟨s', Ma, ⟨hs, hF, hv⟩, he⟩ := itr_fam (B := B) (fun j s M' => s = nI j ∧ Fr [dst] M M' ∧ ∀ i, i < j → M'.1 dst i = M.1 src i) n
    (fun j s Mx hj ⟨hs, hF, hv⟩ => by
      subst hs
      refine ⟨_, _, ⟨rfl, hF.wI (by simp), fun i hi => ?_⟩, fun G rec => hB G rec j Mx hj⟩
      rw [wI_g, if_pos rfl, upd_g]
      by_cases e : i = j
      · rw [if_pos e, e, hF.1 src (by simp [hne])]
      · rw [if_neg e]; exact hv i (by omega)) n 0 0 M (by omega) ⟨nI_0.symm, Fr.rf _ _, fun i hi => by omega⟩
  subst hs
  refine ⟨Ma, fun G => ?_, hF, hv⟩
  obtain ⟨N', hN'⟩ : ∃ N', N = (N' + 1) + n := ⟨N - n - 1, by omega⟩
  rw [hN', he G (N' + 1), itr_s, hE]
theorem cp2 {B : (Unit → Mm → Rs) → (Int32 → Mm → Rs) → Int32 → Mm → Rs} {src dst src2 dst2 n : Nat} (h1 : src ≠ dst) (h2 : src ≠ dst2) (h3 : src2 ≠ dst) (h4 : src2 ≠ dst2) (h5 : dst ≠ dst2) (hB : ∀ G rec j M, j < n → B G rec (nI j) M = rec (nI (j + 1)) (wI (wI M dst j (M.1 src j)) dst2 j (zn ((wI M dst j (M.1 src j)).1 src2 j)))) (hE : ∀ G rec M, B G rec (nI n) M = G () M) (hn : n < N) : ∃ M', (∀ G, itr (B G) N 0 M = G () M') ∧ Fr [dst, dst2] M M' ∧ (∀ i, i < n → M'.1 dst i = M.1 src i) ∧ ∀ i, i < n → M'.1 dst2 i = zn (M.1 src2 i) := by
  obtain ⟨s', Ma, ⟨hs, hF, hv, hw⟩, he⟩ := itr_fam (B := B) (fun j s M' => s = nI j ∧ Fr [dst, dst2] M M' ∧ (∀ i, i < j → M'.1 dst i = M.1 src i) ∧ ∀ i, i < j → M'.1 dst2 i = zn (M.1 src2 i)) n
    (fun j s Mx hj ⟨hs, hF, hv, hw⟩ => by
      subst hs
      refine ⟨_, _, ⟨rfl, (hF.wI (by simp)).wI (by simp), fun i hi => ?_, fun i hi => ?_⟩, fun G rec => hB G rec j Mx hj⟩
      · rw [wI_g, if_neg h5, wI_g, if_pos rfl, upd_g]
        by_cases e : i = j
        · rw [if_pos e, e, hF.1 src (by simp [h1, h2])]
        · rw [if_neg e]; exact hv i (by omega)
      · rw [wI_g, if_pos rfl, upd_g]
        by_cases e : i = j
        · rw [if_pos e, e, wI_g, if_neg h3, hF.1 src2 (by simp [h3, h4])]
        · rw [if_neg e, wI_g, if_neg (fun q => h5 q.symm)]; exact hw i (by omega)) n 0 0 M (by omega) ⟨nI_0.symm, Fr.rf _ _, fun i hi => by omega, fun i hi => by omega⟩
  subst hs
  refine ⟨Ma, fun G => ?_, hF, hv, hw⟩
  obtain ⟨N', hN'⟩ : ∃ N', N = (N' + 1) + n := ⟨N - n - 1, by omega⟩
  rw [hN', he G (N' + 1), itr_s, hE]
theorem cpy_in {f g : Nat → Int32} {n i : Nat} (h : i < n) : va_cpy f g 0 0 n i = f i := by
  rw [pk_cpy_in (by omega) (by omega)]
  congr 1
  omega

theorem copya_e (hN : 100000 ≤ N) : ∃ M', f_X10_copya N M = some (0, M') ∧ Fr [14, 15, 16, 18, 19, 20, 21, 22, 23, 24, 25, 26] M M' ∧ (M'.1 14 0 = M.1 1 0 ∧ M'.1 14 2 = M.1 1 2 ∧ M'.1 14 3 = M.1 1 3 ∧ M'.1 14 6 = M.1 1 6) ∧ (∀ i, i < 43 → M'.1 15 i = M.1 2 i) ∧ (∀ i, i < 12 → M'.1 16 i = M.1 3 i) ∧ (∀ h, h < 4 → M'.1 (18 + 2 * h) 1 = M.1 (5 + 2 * h) 1 ∧ ∀ i, i < 40 → M'.1 (19 + 2 * h) i = M.1 (6 + 2 * h) i) ∧ ∀ i, i < 16 → M'.1 26 i = M.1 13 i := by
  unfold f_X10_copya
  simp only [lt_eq]
  generalize hM5 : wR (wI (wI (wR (wI M 14 0 (M.1 1 0)) 15 (va_cpy ((wI M 14 0 (M.1 1 0)).1 2) ((wI M 14 0 (M.1 1 0)).1 15) 0 0 43)) 14 2 ((wR (wI M 14 0 (M.1 1 0)) 15 (va_cpy ((wI M 14 0 (M.1 1 0)).1 2) ((wI M 14 0 (M.1 1 0)).1 15) 0 0 43)).1 1 2)) 14 3 ((wI (wR (wI M 14 0 (M.1 1 0)) 15 (va_cpy ((wI M 14 0 (M.1 1 0)).1 2) ((wI M 14 0 (M.1 1 0)).1 15) 0 0 43)) 14 2 ((wR (wI M 14 0 (M.1 1 0)) 15 (va_cpy ((wI M 14 0 (M.1 1 0)).1 2) ((wI M 14 0 (M.1 1 0)).1 15) 0 0 43)).1 1 2)).1 1 3)) 16 (va_cpy ((wI (wI (wR (wI M 14 0 (M.1 1 0)) 15 (va_cpy ((wI M 14 0 (M.1 1 0)).1 2) ((wI M 14 0 (M.1 1 0)).1 15) 0 0 43)) 14 2 ((wR (wI M 14 0 (M.1 1 0)) 15 (va_cpy ((wI M 14 0 (M.1 1 0)).1 2) ((wI M 14 0 (M.1 1 0)).1 15) 0 0 43)).1 1 2)) 14 3 ((wI (wR (wI M 14 0 (M.1 1 0)) 15 (va_cpy ((wI M 14 0 (M.1 1 0)).1 2) ((wI M 14 0 (M.1 1 0)).1 15) 0 0 43)) 14 2 ((wR (wI M 14 0 (M.1 1 0)) 15 (va_cpy ((wI M 14 0 (M.1 1 0)).1 2) ((wI M 14 0 (M.1 1 0)).1 15) 0 0 43)).1 1 2)).1 1 3)).1 3) ((wI (wI (wR (wI M 14 0 (M.1 1 0)) 15 (va_cpy ((wI M 14 0 (M.1 1 0)).1 2) ((wI M 14 0 (M.1 1 0)).1 15) 0 0 43)) 14 2 ((wR (wI M 14 0 (M.1 1 0)) 15 (va_cpy ((wI M 14 0 (M.1 1 0)).1 2) ((wI M 14 0 (M.1 1 0)).1 15) 0 0 43)).1 1 2)) 14 3 ((wI (wR (wI M 14 0 (M.1 1 0)) 15 (va_cpy ((wI M 14 0 (M.1 1 0)).1 2) ((wI M 14 0 (M.1 1 0)).1 15) 0 0 43)) 14 2 ((wR (wI M 14 0 (M.1 1 0)) 15 (va_cpy ((wI M 14 0 (M.1 1 0)).1 2) ((wI M 14 0 (M.1 1 0)).1 15) 0 0 43)).1 1 2)).1 1 3)).1 16) 0 0 12) = M5
  have F5 : Fr [14, 15, 16] M M5 := by
    rw [← hM5]
    exact (((((Fr.rf _ _).wI (by simp)).wR (by simp)).wI (by simp)).wI (by simp)).wR (by simp)
  have a0 : M5.1 14 0 = M.1 1 0 := by rw [← hM5]; simp [wI_g, wR_g, upd_g]
  have a2 : M5.1 14 2 = M.1 1 2 := by rw [← hM5]; simp [wI_g, wR_g, upd_g]
  have a3 : M5.1 14 3 = M.1 1 3 := by rw [← hM5]; simp [wI_g, wR_g, upd_g]
  have b2 : ∀ i, i < 43 → M5.1 15 i = M.1 2 i := fun i hi => by
    rw [← hM5]
    simp only [wI_g, wR_g]
    simp
    exact cpy_in hi
  have b3 : ∀ i, i < 12 → M5.1 16 i = M.1 3 i := fun i hi => by
    rw [← hM5]
    simp only [wI_g, wR_g]
    simp
    exact cpy_in hi
  clear hM5
  obtain ⟨s', Ma, ⟨hs, hF, hv⟩, he⟩ := itr_fam (B := fun G => B_X10_copya_56 N G) (fun j s M' => s = nI j ∧ Fr [18, 19, 20, 21, 22, 23, 24, 25] M5 M' ∧ ∀ h, h < j → M'.1 (18 + 2 * h) 1 = M5.1 (5 + 2 * h) 1 ∧ ∀ i, i < 40 → M'.1 (19 + 2 * h) i = M5.1 (6 + 2 * h) i) 4
    (fun j s Mx hj ⟨hs, hF, hv⟩ => by
      subst hs
      have F2 : Fr [18, 19, 20, 21, 22, 23, 24, 25] Mx (wI (wR Mx (19 + 2 * j) (va_cpy (Mx.1 (6 + 2 * j)) (Mx.1 (19 + 2 * j)) 0 0 40)) (18 + 2 * j) 1 (Mx.1 (5 + 2 * j) 1)) := ((Fr.rf _ _).wR (by simp; omega)).wI (by simp; omega)
      refine ⟨nI (j + 1), wI (wR Mx (19 + 2 * j) (va_cpy (Mx.1 (6 + 2 * j)) (Mx.1 (19 + 2 * j)) 0 0 40)) (18 + 2 * j) 1 (Mx.1 (5 + 2 * j) 1), ⟨rfl, hF.tr F2, fun h hh => ?_⟩, fun G rec => ?_⟩
      · by_cases e : h = j
        · subst e
          refine ⟨?_, fun i hi => ?_⟩
          · rw [wI_g, if_pos rfl, upd_at, hF.1 _ (by simp; omega)]
          · rw [wI_g, if_neg (by omega), wR_g, if_pos rfl, cpy_in hi, hF.1 _ (by simp; omega)]
        · have q := hv h (by omega)
          rw [wI_g, if_neg (by omega), wR_g, if_neg (by omega), wI_g, if_neg (by omega), wR_g, if_neg (by omega)]
          exact q
      · unfold B_X10_copya_56
        have e1 : f_X7_copy N (18 + 2 * j) (5 + 2 * j) Mx = some (0, wI (wR Mx (19 + 2 * j) (va_cpy (Mx.1 (6 + 2 * j)) (Mx.1 (19 + 2 * j)) 0 0 40)) (18 + 2 * j) 1 (Mx.1 (5 + 2 * j) 1)) := by
          unfold f_X7_copy
          simp only [lt_eq]
          rw [show 18 + 2 * j + 1 = 19 + 2 * j by omega, show 5 + 2 * j + 1 = 6 + 2 * j by omega]
          rw [wR_g, if_neg (by omega)]
        rw [if_pos (by rw [lt4 (by omega)]; exact hj), inb_n (by omega) (by omega), ix_n (by omega), if_pos rfl, if_pos rfl, bd_of e1, nI_1]) 4 0 0 M5 (by omega) ⟨nI_0.symm, Fr.rf _ _, fun h hh => by omega⟩
  subst hs
  obtain ⟨N', hN'⟩ : ∃ N', N = (N' + 1) + 4 := ⟨N - 5, by omega⟩
  have eB : ∀ G rec, B_X10_copya_56 N G rec (nI 4) Ma = G () Ma := fun G rec => by
    unfold B_X10_copya_56
    rw [if_neg (show ¬ nI 4 < 4 by decide)]
  have eI : ∀ G, itr (B_X10_copya_56 N G) N 0 M5 = G () Ma := fun G => by
    have q := he G (N' + 1)
    rw [← hN'] at q
    rw [q, itr_s, eB]
  rw [eI]
  have fz : ∀ k, k ∉ [18, 19, 20, 21, 22, 23, 24, 25] → Ma.1 k = M5.1 k := fun k hk => hF.1 k hk
  refine ⟨_, rfl, ((F5.mono (by simp)).tr (hF.mono (by simp))).wI (by simp) |>.wR (by simp), ⟨?_, ?_, ?_, ?_⟩, fun i hi => ?_, fun i hi => ?_, fun h hh => ⟨?_, fun i hi => ?_⟩, fun i hi => ?_⟩
  · rw [wR_g, if_neg (by omega), wI_g, if_pos rfl, upd_ne (by omega), fz 14 (by decide)]; exact a0
  · rw [wR_g, if_neg (by omega), wI_g, if_pos rfl, upd_ne (by omega), fz 14 (by decide)]; exact a2
  · rw [wR_g, if_neg (by omega), wI_g, if_pos rfl, upd_ne (by omega), fz 14 (by decide)]; exact a3
  · rw [wR_g, if_neg (by omega), wI_g, if_pos rfl, upd_at, fz 1 (by decide), F5.1 1 (by decide)]
  · rw [wR_g, if_neg (by omega), wI_g, if_neg (by omega), fz 15 (by decide)]; exact b2 i hi
  · rw [wR_g, if_neg (by omega), wI_g, if_neg (by omega), fz 16 (by decide)]; exact b3 i hi
  · rw [wR_g, if_neg (by omega), wI_g, if_neg (by omega), (hv h hh).1, F5.1 _ (by simp; omega)]
  · rw [wR_g, if_neg (by omega), wI_g, if_neg (by omega), (hv h hh).2 i hi, F5.1 _ (by simp; omega)]
  · rw [wR_g, if_pos rfl, cpy_in hi, wI_g, if_neg (by omega), fz 13 (by decide), F5.1 13 (by decide)]

theorem copyb_e (hN : 100000 ≤ N) : ∃ M', f_X10_copyb N M = some (0, M') ∧ Fr [1, 2, 3, 5, 6, 7, 8, 9, 10, 11, 12, 13] M M' ∧ (M'.1 1 0 = M.1 14 0 ∧ M'.1 1 2 = M.1 14 2 ∧ M'.1 1 3 = M.1 14 3 ∧ M'.1 1 6 = M.1 14 6) ∧ (∀ i, i < 43 → M'.1 2 i = M.1 15 i) ∧ (∀ i, i < 12 → M'.1 3 i = M.1 16 i) ∧ (∀ h, h < 4 → M'.1 (5 + 2 * h) 1 = M.1 (18 + 2 * h) 1 ∧ ∀ i, i < 40 → M'.1 (6 + 2 * h) i = M.1 (19 + 2 * h) i) ∧ ∀ i, i < 16 → M'.1 13 i = M.1 26 i := by
  unfold f_X10_copyb
  simp only [lt_eq]
  generalize hM5 : wR (wI (wI (wR (wI M 1 0 (M.1 14 0)) 2 (va_cpy ((wI M 1 0 (M.1 14 0)).1 15) ((wI M 1 0 (M.1 14 0)).1 2) 0 0 43)) 1 2 ((wR (wI M 1 0 (M.1 14 0)) 2 (va_cpy ((wI M 1 0 (M.1 14 0)).1 15) ((wI M 1 0 (M.1 14 0)).1 2) 0 0 43)).1 14 2)) 1 3 ((wI (wR (wI M 1 0 (M.1 14 0)) 2 (va_cpy ((wI M 1 0 (M.1 14 0)).1 15) ((wI M 1 0 (M.1 14 0)).1 2) 0 0 43)) 1 2 ((wR (wI M 1 0 (M.1 14 0)) 2 (va_cpy ((wI M 1 0 (M.1 14 0)).1 15) ((wI M 1 0 (M.1 14 0)).1 2) 0 0 43)).1 14 2)).1 14 3)) 3 (va_cpy ((wI (wI (wR (wI M 1 0 (M.1 14 0)) 2 (va_cpy ((wI M 1 0 (M.1 14 0)).1 15) ((wI M 1 0 (M.1 14 0)).1 2) 0 0 43)) 1 2 ((wR (wI M 1 0 (M.1 14 0)) 2 (va_cpy ((wI M 1 0 (M.1 14 0)).1 15) ((wI M 1 0 (M.1 14 0)).1 2) 0 0 43)).1 14 2)) 1 3 ((wI (wR (wI M 1 0 (M.1 14 0)) 2 (va_cpy ((wI M 1 0 (M.1 14 0)).1 15) ((wI M 1 0 (M.1 14 0)).1 2) 0 0 43)) 1 2 ((wR (wI M 1 0 (M.1 14 0)) 2 (va_cpy ((wI M 1 0 (M.1 14 0)).1 15) ((wI M 1 0 (M.1 14 0)).1 2) 0 0 43)).1 14 2)).1 14 3)).1 16) ((wI (wI (wR (wI M 1 0 (M.1 14 0)) 2 (va_cpy ((wI M 1 0 (M.1 14 0)).1 15) ((wI M 1 0 (M.1 14 0)).1 2) 0 0 43)) 1 2 ((wR (wI M 1 0 (M.1 14 0)) 2 (va_cpy ((wI M 1 0 (M.1 14 0)).1 15) ((wI M 1 0 (M.1 14 0)).1 2) 0 0 43)).1 14 2)) 1 3 ((wI (wR (wI M 1 0 (M.1 14 0)) 2 (va_cpy ((wI M 1 0 (M.1 14 0)).1 15) ((wI M 1 0 (M.1 14 0)).1 2) 0 0 43)) 1 2 ((wR (wI M 1 0 (M.1 14 0)) 2 (va_cpy ((wI M 1 0 (M.1 14 0)).1 15) ((wI M 1 0 (M.1 14 0)).1 2) 0 0 43)).1 14 2)).1 14 3)).1 3) 0 0 12) = M5
  have F5 : Fr [1, 2, 3] M M5 := by
    rw [← hM5]
    exact (((((Fr.rf _ _).wI (by simp)).wR (by simp)).wI (by simp)).wI (by simp)).wR (by simp)
  have a0 : M5.1 1 0 = M.1 14 0 := by rw [← hM5]; simp [wI_g, wR_g, upd_g]
  have a2 : M5.1 1 2 = M.1 14 2 := by rw [← hM5]; simp [wI_g, wR_g, upd_g]
  have a3 : M5.1 1 3 = M.1 14 3 := by rw [← hM5]; simp [wI_g, wR_g, upd_g]
  have b2 : ∀ i, i < 43 → M5.1 2 i = M.1 15 i := fun i hi => by
    rw [← hM5]
    simp only [wI_g, wR_g]
    simp
    exact cpy_in hi
  have b3 : ∀ i, i < 12 → M5.1 3 i = M.1 16 i := fun i hi => by
    rw [← hM5]
    simp only [wI_g, wR_g]
    simp
    exact cpy_in hi
  clear hM5
  obtain ⟨s', Ma, ⟨hs, hF, hv⟩, he⟩ := itr_fam (B := fun G => B_X10_copyb_56 N G) (fun j s M' => s = nI j ∧ Fr [5, 6, 7, 8, 9, 10, 11, 12] M5 M' ∧ ∀ h, h < j → M'.1 (5 + 2 * h) 1 = M5.1 (18 + 2 * h) 1 ∧ ∀ i, i < 40 → M'.1 (6 + 2 * h) i = M5.1 (19 + 2 * h) i) 4
    (fun j s Mx hj ⟨hs, hF, hv⟩ => by
      subst hs
      have F2 : Fr [5, 6, 7, 8, 9, 10, 11, 12] Mx (wI (wR Mx (6 + 2 * j) (va_cpy (Mx.1 (19 + 2 * j)) (Mx.1 (6 + 2 * j)) 0 0 40)) (5 + 2 * j) 1 (Mx.1 (18 + 2 * j) 1)) := ((Fr.rf _ _).wR (by simp; omega)).wI (by simp; omega)
      refine ⟨nI (j + 1), wI (wR Mx (6 + 2 * j) (va_cpy (Mx.1 (19 + 2 * j)) (Mx.1 (6 + 2 * j)) 0 0 40)) (5 + 2 * j) 1 (Mx.1 (18 + 2 * j) 1), ⟨rfl, hF.tr F2, fun h hh => ?_⟩, fun G rec => ?_⟩
      · by_cases e : h = j
        · subst e
          refine ⟨?_, fun i hi => ?_⟩
          · rw [wI_g, if_pos rfl, upd_at, hF.1 _ (by simp; omega)]
          · rw [wI_g, if_neg (by omega), wR_g, if_pos rfl, cpy_in hi, hF.1 _ (by simp; omega)]
        · have q := hv h (by omega)
          rw [wI_g, if_neg (by omega), wR_g, if_neg (by omega), wI_g, if_neg (by omega), wR_g, if_neg (by omega)]
          exact q
      · unfold B_X10_copyb_56
        have e1 : f_X7_copy N (5 + 2 * j) (18 + 2 * j) Mx = some (0, wI (wR Mx (6 + 2 * j) (va_cpy (Mx.1 (19 + 2 * j)) (Mx.1 (6 + 2 * j)) 0 0 40)) (5 + 2 * j) 1 (Mx.1 (18 + 2 * j) 1)) := by
          unfold f_X7_copy
          simp only [lt_eq]
          rw [show 5 + 2 * j + 1 = 6 + 2 * j by omega, show 18 + 2 * j + 1 = 19 + 2 * j by omega]
          rw [wR_g, if_neg (by omega)]
        rw [if_pos (by rw [lt4 (by omega)]; exact hj), inb_n (by omega) (by omega), ix_n (by omega), if_pos rfl, if_pos rfl, bd_of e1, nI_1]) 4 0 0 M5 (by omega) ⟨nI_0.symm, Fr.rf _ _, fun h hh => by omega⟩
  subst hs
  obtain ⟨N', hN'⟩ : ∃ N', N = (N' + 1) + 4 := ⟨N - 5, by omega⟩
  have eB : ∀ G rec, B_X10_copyb_56 N G rec (nI 4) Ma = G () Ma := fun G rec => by
    unfold B_X10_copyb_56
    rw [if_neg (show ¬ nI 4 < 4 by decide)]
  have eI : ∀ G, itr (B_X10_copyb_56 N G) N 0 M5 = G () Ma := fun G => by
    have q := he G (N' + 1)
    rw [← hN'] at q
    rw [q, itr_s, eB]
  rw [eI]
  have fz : ∀ k, k ∉ [5, 6, 7, 8, 9, 10, 11, 12] → Ma.1 k = M5.1 k := fun k hk => hF.1 k hk
  refine ⟨_, rfl, ((F5.mono (by simp)).tr (hF.mono (by simp))).wI (by simp) |>.wR (by simp), ⟨?_, ?_, ?_, ?_⟩, fun i hi => ?_, fun i hi => ?_, fun h hh => ⟨?_, fun i hi => ?_⟩, fun i hi => ?_⟩
  · rw [wR_g, if_neg (by omega), wI_g, if_pos rfl, upd_ne (by omega), fz 1 (by decide)]; exact a0
  · rw [wR_g, if_neg (by omega), wI_g, if_pos rfl, upd_ne (by omega), fz 1 (by decide)]; exact a2
  · rw [wR_g, if_neg (by omega), wI_g, if_pos rfl, upd_ne (by omega), fz 1 (by decide)]; exact a3
  · rw [wR_g, if_neg (by omega), wI_g, if_pos rfl, upd_at, fz 14 (by decide), F5.1 14 (by decide)]
  · rw [wR_g, if_neg (by omega), wI_g, if_neg (by omega), fz 2 (by decide)]; exact b2 i hi
  · rw [wR_g, if_neg (by omega), wI_g, if_neg (by omega), fz 3 (by decide)]; exact b3 i hi
  · rw [wR_g, if_neg (by omega), wI_g, if_neg (by omega), (hv h hh).1, F5.1 _ (by simp; omega)]
  · rw [wR_g, if_neg (by omega), wI_g, if_neg (by omega), (hv h hh).2 i hi, F5.1 _ (by simp; omega)]
  · rw [wR_g, if_pos rfl, cpy_in hi, wI_g, if_neg (by omega), fz 26 (by decide), F5.1 26 (by decide)]

theorem mimage_e (hN : 100000 ≤ N) : ∃ M', Fr [25, 26, 27, 31, 28, 29, 32, 30] M M' ∧ ((∀ i, i < 47 → M'.1 25 i = M.1 2 i) ∧ (∀ i, i < 480 → M'.1 26 i = M.1 6 i) ∧ (∀ i, i < 12 → M'.1 27 i = M.1 7 i) ∧ (∀ i, i < 12 → M'.1 31 i = zn (M.1 11 i)) ∧ (∀ i, i < 160 → M'.1 28 i = M.1 8 i) ∧ (∀ i, i < 4 → M'.1 29 i = M.1 9 i) ∧ (∀ i, i < 4 → M'.1 32 i = zn (M.1 12 i)) ∧ (∀ i, i < 60 → M'.1 30 i = M.1 24 i)) ∧ ∀ G1 : Mm → Rs, (itr (B_X12_image_7 N fun _ Ma => itr (B_X12_image_33 N fun _ Mb => itr (B_X12_image_60 N fun _ Mc => itr (B_X12_image_98 N fun _ Md => itr (B_X12_image_125 N fun _ Me => itr (B_X12_image_162 N fun _ Mf => G1 Mf) N 0 Me) N 0 Md) N 0 Mc) N 0 Mb) N 0 Ma) N 0 M) = G1 M' := by
  obtain ⟨Ma, a1, a2, a3⟩ := cp1 (N := N) (M := M) (B := fun G => B_X12_image_7 N G) (src := 2) (dst := 25) (n := 47) (by omega) (fun G rec j M hj => by
      unfold B_X12_image_7
      rw [if_pos (by rw [ltc (c := 47) (n := 47) rfl (by omega) (by omega)]; exact hj), inb_n (by omega) (by omega), ix_n (by omega), if_pos rfl, if_pos rfl, lt_eq, nI_1]) (fun G rec M => by
      unfold B_X12_image_7
      rw [if_neg (by rw [ltc (c := 47) (n := 47) rfl (by omega) (by omega)]; omega)]) (by omega)
  obtain ⟨Mb, b1, b2, b3⟩ := cp1 (N := N) (M := Ma) (B := fun G => B_X12_image_33 N G) (src := 6) (dst := 26) (n := 480) (by omega) (fun G rec j M hj => by
      unfold B_X12_image_33
      rw [if_pos (by rw [ltc (c := 480) (n := 480) rfl (by omega) (by omega)]; exact hj), inb_n (by omega) (by omega), ix_n (by omega), if_pos rfl, if_pos rfl, lt_eq, nI_1]) (fun G rec M => by
      unfold B_X12_image_33
      rw [if_neg (by rw [ltc (c := 480) (n := 480) rfl (by omega) (by omega)]; omega)]) (by omega)
  obtain ⟨Mc, c1, c2, c3, c4⟩ := cp2 (N := N) (M := Mb) (B := fun G => B_X12_image_60 N G) (src := 7) (dst := 27) (src2 := 11) (dst2 := 31) (n := 12) (by omega) (by omega) (by omega) (by omega) (by omega) (fun G rec j M hj => by
      unfold B_X12_image_60
      simp only [lt_eq]
      rw [if_pos (by rw [ltc (c := 12) (n := 12) rfl (by omega) (by omega)]; exact hj), inb_n (by omega) (by omega), ix_n (by omega), if_pos rfl, if_pos rfl, if_pos rfl, if_pos rfl, nI_1]) (fun G rec M => by
      unfold B_X12_image_60
      rw [if_neg (by rw [ltc (c := 12) (n := 12) rfl (by omega) (by omega)]; omega)]) (by omega)
  obtain ⟨Md, d1, d2, d3⟩ := cp1 (N := N) (M := Mc) (B := fun G => B_X12_image_98 N G) (src := 8) (dst := 28) (n := 160) (by omega) (fun G rec j M hj => by
      unfold B_X12_image_98
      rw [if_pos (by rw [ltc (c := 160) (n := 160) rfl (by omega) (by omega)]; exact hj), inb_n (by omega) (by omega), ix_n (by omega), if_pos rfl, if_pos rfl, lt_eq, nI_1]) (fun G rec M => by
      unfold B_X12_image_98
      rw [if_neg (by rw [ltc (c := 160) (n := 160) rfl (by omega) (by omega)]; omega)]) (by omega)
  obtain ⟨Me, e1, e2, e3, e4⟩ := cp2 (N := N) (M := Md) (B := fun G => B_X12_image_125 N G) (src := 9) (dst := 29) (src2 := 12) (dst2 := 32) (n := 4) (by omega) (by omega) (by omega) (by omega) (by omega) (fun G rec j M hj => by
      unfold B_X12_image_125
      simp only [lt_eq]
      rw [if_pos (by rw [ltc (c := 4) (n := 4) rfl (by omega) (by omega)]; exact hj), inb_n (by omega) (by omega), ix_n (by omega), if_pos rfl, if_pos rfl, if_pos rfl, if_pos rfl, nI_1]) (fun G rec M => by
      unfold B_X12_image_125
      rw [if_neg (by rw [ltc (c := 4) (n := 4) rfl (by omega) (by omega)]; omega)]) (by omega)
  obtain ⟨Mf, f1, f2, f3⟩ := cp1 (N := N) (M := Me) (B := fun G => B_X12_image_162 N G) (src := 24) (dst := 30) (n := 60) (by omega) (fun G rec j M hj => by
      unfold B_X12_image_162
      rw [if_pos (by rw [ltc (c := 60) (n := 60) rfl (by omega) (by omega)]; exact hj), inb_n (by omega) (by omega), ix_n (by omega), if_pos rfl, if_pos rfl, lt_eq, nI_1]) (fun G rec M => by
      unfold B_X12_image_162
      rw [if_neg (by rw [ltc (c := 60) (n := 60) rfl (by omega) (by omega)]; omega)]) (by omega)
  refine ⟨Mf, ((((((a2.mono (by simp)).tr (b2.mono (by simp))).tr (c2.mono (by simp))).tr (d2.mono (by simp))).tr (e2.mono (by simp))).tr (f2.mono (by simp))), ⟨fun i hi => ?_, fun i hi => ?_, fun i hi => ?_, fun i hi => ?_, fun i hi => ?_, fun i hi => ?_, fun i hi => ?_, fun i hi => ?_⟩, fun G1 => ?_⟩
  · rw [f2.1 25 (by decide), e2.1 25 (by decide), d2.1 25 (by decide), c2.1 25 (by decide), b2.1 25 (by decide), a3 i hi]
  · rw [f2.1 26 (by decide), e2.1 26 (by decide), d2.1 26 (by decide), c2.1 26 (by decide), b3 i hi, a2.1 6 (by decide)]
  · rw [f2.1 27 (by decide), e2.1 27 (by decide), d2.1 27 (by decide), c3 i hi, b2.1 7 (by decide), a2.1 7 (by decide)]
  · rw [f2.1 31 (by decide), e2.1 31 (by decide), d2.1 31 (by decide), c4 i hi, b2.1 11 (by decide), a2.1 11 (by decide)]
  · rw [f2.1 28 (by decide), e2.1 28 (by decide), d3 i hi, c2.1 8 (by decide), b2.1 8 (by decide), a2.1 8 (by decide)]
  · rw [f2.1 29 (by decide), e3 i hi, d2.1 9 (by decide), c2.1 9 (by decide), b2.1 9 (by decide), a2.1 9 (by decide)]
  · rw [f2.1 32 (by decide), e4 i hi, d2.1 12 (by decide), c2.1 12 (by decide), b2.1 12 (by decide), a2.1 12 (by decide)]
  · rw [f3 i hi, e2.1 24 (by decide), d2.1 24 (by decide), c2.1 24 (by decide), b2.1 24 (by decide), a2.1 24 (by decide)]
  · rw [a1, b1, c1, d1, e1, f1]
theorem mrestore_e (hN : 100000 ≤ N) : ∃ M', Fr [2, 6, 7, 11, 8, 9, 12, 24] M M' ∧ ((∀ i, i < 47 → M'.1 2 i = M.1 25 i) ∧ (∀ i, i < 480 → M'.1 6 i = M.1 26 i) ∧ (∀ i, i < 12 → M'.1 7 i = M.1 27 i) ∧ (∀ i, i < 12 → M'.1 11 i = zn (M.1 31 i)) ∧ (∀ i, i < 160 → M'.1 8 i = M.1 28 i) ∧ (∀ i, i < 4 → M'.1 9 i = M.1 29 i) ∧ (∀ i, i < 4 → M'.1 12 i = zn (M.1 32 i)) ∧ (∀ i, i < 60 → M'.1 24 i = M.1 30 i)) ∧ ∀ G1 : Mm → Rs, (itr (B_X12_restore_16 N fun _ Ma => itr (B_X12_restore_42 N fun _ Mb => itr (B_X12_restore_69 N fun _ Mc => itr (B_X12_restore_107 N fun _ Md => itr (B_X12_restore_134 N fun _ Me => itr (B_X12_restore_171 N fun _ Mf => G1 Mf) N 0 Me) N 0 Md) N 0 Mc) N 0 Mb) N 0 Ma) N 0 M) = G1 M' := by
  obtain ⟨Ma, a1, a2, a3⟩ := cp1 (N := N) (M := M) (B := fun G => B_X12_restore_16 N G) (src := 25) (dst := 2) (n := 47) (by omega) (fun G rec j M hj => by
      unfold B_X12_restore_16
      rw [if_pos (by rw [ltc (c := 47) (n := 47) rfl (by omega) (by omega)]; exact hj), inb_n (by omega) (by omega), ix_n (by omega), if_pos rfl, if_pos rfl, lt_eq, nI_1]) (fun G rec M => by
      unfold B_X12_restore_16
      rw [if_neg (by rw [ltc (c := 47) (n := 47) rfl (by omega) (by omega)]; omega)]) (by omega)
  obtain ⟨Mb, b1, b2, b3⟩ := cp1 (N := N) (M := Ma) (B := fun G => B_X12_restore_42 N G) (src := 26) (dst := 6) (n := 480) (by omega) (fun G rec j M hj => by
      unfold B_X12_restore_42
      rw [if_pos (by rw [ltc (c := 480) (n := 480) rfl (by omega) (by omega)]; exact hj), inb_n (by omega) (by omega), ix_n (by omega), if_pos rfl, if_pos rfl, lt_eq, nI_1]) (fun G rec M => by
      unfold B_X12_restore_42
      rw [if_neg (by rw [ltc (c := 480) (n := 480) rfl (by omega) (by omega)]; omega)]) (by omega)
  obtain ⟨Mc, c1, c2, c3, c4⟩ := cp2 (N := N) (M := Mb) (B := fun G => B_X12_restore_69 N G) (src := 27) (dst := 7) (src2 := 31) (dst2 := 11) (n := 12) (by omega) (by omega) (by omega) (by omega) (by omega) (fun G rec j M hj => by
      unfold B_X12_restore_69
      simp only [lt_eq]
      rw [if_pos (by rw [ltc (c := 12) (n := 12) rfl (by omega) (by omega)]; exact hj), inb_n (by omega) (by omega), ix_n (by omega), if_pos rfl, if_pos rfl, if_pos rfl, if_pos rfl, nI_1]) (fun G rec M => by
      unfold B_X12_restore_69
      rw [if_neg (by rw [ltc (c := 12) (n := 12) rfl (by omega) (by omega)]; omega)]) (by omega)
  obtain ⟨Md, d1, d2, d3⟩ := cp1 (N := N) (M := Mc) (B := fun G => B_X12_restore_107 N G) (src := 28) (dst := 8) (n := 160) (by omega) (fun G rec j M hj => by
      unfold B_X12_restore_107
      rw [if_pos (by rw [ltc (c := 160) (n := 160) rfl (by omega) (by omega)]; exact hj), inb_n (by omega) (by omega), ix_n (by omega), if_pos rfl, if_pos rfl, lt_eq, nI_1]) (fun G rec M => by
      unfold B_X12_restore_107
      rw [if_neg (by rw [ltc (c := 160) (n := 160) rfl (by omega) (by omega)]; omega)]) (by omega)
  obtain ⟨Me, e1, e2, e3, e4⟩ := cp2 (N := N) (M := Md) (B := fun G => B_X12_restore_134 N G) (src := 29) (dst := 9) (src2 := 32) (dst2 := 12) (n := 4) (by omega) (by omega) (by omega) (by omega) (by omega) (fun G rec j M hj => by
      unfold B_X12_restore_134
      simp only [lt_eq]
      rw [if_pos (by rw [ltc (c := 4) (n := 4) rfl (by omega) (by omega)]; exact hj), inb_n (by omega) (by omega), ix_n (by omega), if_pos rfl, if_pos rfl, if_pos rfl, if_pos rfl, nI_1]) (fun G rec M => by
      unfold B_X12_restore_134
      rw [if_neg (by rw [ltc (c := 4) (n := 4) rfl (by omega) (by omega)]; omega)]) (by omega)
  obtain ⟨Mf, f1, f2, f3⟩ := cp1 (N := N) (M := Me) (B := fun G => B_X12_restore_171 N G) (src := 30) (dst := 24) (n := 60) (by omega) (fun G rec j M hj => by
      unfold B_X12_restore_171
      rw [if_pos (by rw [ltc (c := 60) (n := 60) rfl (by omega) (by omega)]; exact hj), inb_n (by omega) (by omega), ix_n (by omega), if_pos rfl, if_pos rfl, lt_eq, nI_1]) (fun G rec M => by
      unfold B_X12_restore_171
      rw [if_neg (by rw [ltc (c := 60) (n := 60) rfl (by omega) (by omega)]; omega)]) (by omega)
  refine ⟨Mf, ((((((a2.mono (by simp)).tr (b2.mono (by simp))).tr (c2.mono (by simp))).tr (d2.mono (by simp))).tr (e2.mono (by simp))).tr (f2.mono (by simp))), ⟨fun i hi => ?_, fun i hi => ?_, fun i hi => ?_, fun i hi => ?_, fun i hi => ?_, fun i hi => ?_, fun i hi => ?_, fun i hi => ?_⟩, fun G1 => ?_⟩
  · rw [f2.1 2 (by decide), e2.1 2 (by decide), d2.1 2 (by decide), c2.1 2 (by decide), b2.1 2 (by decide), a3 i hi]
  · rw [f2.1 6 (by decide), e2.1 6 (by decide), d2.1 6 (by decide), c2.1 6 (by decide), b3 i hi, a2.1 26 (by decide)]
  · rw [f2.1 7 (by decide), e2.1 7 (by decide), d2.1 7 (by decide), c3 i hi, b2.1 27 (by decide), a2.1 27 (by decide)]
  · rw [f2.1 11 (by decide), e2.1 11 (by decide), d2.1 11 (by decide), c4 i hi, b2.1 31 (by decide), a2.1 31 (by decide)]
  · rw [f2.1 8 (by decide), e2.1 8 (by decide), d3 i hi, c2.1 28 (by decide), b2.1 28 (by decide), a2.1 28 (by decide)]
  · rw [f2.1 9 (by decide), e3 i hi, d2.1 29 (by decide), c2.1 29 (by decide), b2.1 29 (by decide), a2.1 29 (by decide)]
  · rw [f2.1 12 (by decide), e4 i hi, d2.1 32 (by decide), c2.1 32 (by decide), b2.1 32 (by decide), a2.1 32 (by decide)]
  · rw [f3 i hi, e2.1 30 (by decide), d2.1 30 (by decide), c2.1 30 (by decide), b2.1 30 (by decide), a2.1 30 (by decide)]
  · rw [a1, b1, c1, d1, e1, f1]
end Copies
