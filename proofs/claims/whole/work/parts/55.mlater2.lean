theorem rk_pos {f : Nat → Int} {n j : Nat} (hj : j < n) (h : 0 < f j) : 0 < rk (isG f) n := by
  have := rk_lt (q := isG f) (isG_t h) hj
  omega
theorem rk_same {f : Nat → Int} {i j : Nat} (hi : i < 4) (hj : j < 4) (h1 : 0 < f i) (h2 : 0 < f j) (h : rk (isG f) 4 = 1) : i = j := by
  by_cases a : i < j
  · have := rk_lt (q := isG f) (isG_t h1) a
    have := rk_lt (q := isG f) (isG_t h2) hj
    omega
  · by_cases b : j < i
    · have := rk_lt (q := isG f) (isG_t h2) b
      have := rk_lt (q := isG f) (isG_t h1) hi
      omega
    · omega
theorem rk_two {f : Nat → Int} {a b c : Nat} (ha : a < 4) (hb : b < 4) (hc : c < 4) (h1 : 0 < f a) (h2 : 0 < f b) (h3 : 0 < f c) (hab : a ≠ b) (h : rk (isG f) 4 = 2) : c = a ∨ c = b := by
  have k : ∀ x y, x < 4 → y < 4 → 0 < f x → 0 < f y → rk (isG f) x = rk (isG f) y → x = y := by
    intro x y hx hy px py e
    by_cases a : x < y
    · have := rk_lt (q := isG f) (isG_t px) a; omega
    · by_cases b : y < x
      · have := rk_lt (q := isG f) (isG_t py) b; omega
      · omega
  have ra := rk_lt (q := isG f) (isG_t h1) ha
  have rb := rk_lt (q := isG f) (isG_t h2) hb
  have rc := rk_lt (q := isG f) (isG_t h3) hc
  have nab : rk (isG f) a ≠ rk (isG f) b := fun e => hab (k a b ha hb h1 h2 e)
  by_cases e : rk (isG f) c = rk (isG f) a
  · exact Or.inl (k c a hc ha h3 h1 e)
  · exact Or.inr (k c b hc hb h3 h2 (by omega))
theorem later_e {N : Nat} (hN : 100000 ≤ N) {M : Mm} {p w : Nat} (hn : NumB (M.1 2)) (hp : p < 256) (hw : w < 16) (hT : ∀ h, h < 4 → ¬ M.1 2 (43 + h) = 1 → balZ (M.1 2) p w h = 0) :
    ∃ x M', f_X12_laterOf N (nI p) (nI w) M = some (x, M') ∧ x.toInt = latZ (M.1 2) p w ∧ 0 ≤ x.toInt ∧ x.toInt ≤ 300000000 ∧ Fr [0, 15, 16, 17] M M' ∧ ∀ i, i ≠ 26 → i ≠ 27 → i ≠ 28 → M'.1 0 i = M.1 0 i := by
  obtain ⟨M2, a1, a2, a3⟩ := flacks hN hn hp hw hT
  obtain ⟨-, r, -, -, -, -, -, -, c1, c2, c3, c4⟩ := lat_of hN hn hp hw
  have e2 : M2.1 2 = M.1 2 := a2.1 2 (by simp)
  have s15 : ∀ i, i < 4 → spZ (M.1 2) p w i = v15 M2 i := fun i hi => (a3 i hi).1.symm
  have s16 : ∀ i, i < 4 → lkZ (M.1 2) p w i = v16 M2 i := fun i hi => (a3 i hi).2.symm
  have hF : Fin (M.1 2) (v15 M2) (v16 M2) r.toInt := c4.congr s15 s16
  have h0 : ∀ i, i < 4 → 0 ≤ v15 M2 i ∧ 0 ≤ v16 M2 i := fun i hi => by rw [← s15 i hi, ← s16 i hi]; exact sl_nn i
  have h4 : rk (isG (v15 M2)) 4 + rk (isG (v16 M2)) 4 ≤ 4 := by
    rw [← isG_congr (Nat.le_refl 4) s15, ← isG_congr (Nat.le_refl 4) s16]
    exact sl_sum
  have b15 : ∀ h, h < 4 → 0 ≤ v15 M2 h ∧ v15 M2 h ≤ 3000 := fun h hh => by
    rw [← s15 h hh]
    have := balZ_b hn p w hh
    unfold spZ
    split <;> omega
  have b16 : ∀ h, h < 4 → 0 ≤ v16 M2 h ∧ v16 M2 h ≤ 198 := fun h hh => by
    rw [← s16 h hh]
    have := balZ_b hn p w hh
    unfold lkZ
    split <;> omega
  -- the first loop
  unfold f_X12_laterOf
  rw [bd_of a1]
  obtain ⟨M3, d1, d2, d3, d4, d5⟩ := later1 hN M2 (fun z11 M12 =>
      (lt' (wI M12 0 26 0) fun M13 =>
      (if z11.2 = 0 then
        (some (0, M13))
      else
        (bd (f_X12_tries N  M13) fun r14 M15 =>
        (itr (B_X12_laterOf_100 N z11.1 z11.2 fun z24 M25 =>
        (itr (B_X12_laterOf_201 N z11.1 z11.2 fun z31 M32 =>
        (if z11.2 = 2 then
          (if z11.1 = 2 then
            (bd (f_X12_triesTwo N (M32.1 0 27) (M32.1 0 28) M32) fun r33 M34 =>
            (bd (f_X12_triesTwo N (M34.1 0 28) (M34.1 0 27) M34) fun r35 M36 =>
            (some (M36.1 0 26, M36))))
          else
            (some (M32.1 0 26, M32)))
        else
          (some (M32.1 0 26, M32)))) N 0 M25)) N 0 M15)))))
  rw [d1]
  simp only [lt_eq]
  generalize hM0 : wI M3 0 26 0 = M0
  have f0 : Fr [0, 17] M2 M0 := by rw [← hM0]; exact d2.wI (by simp)
  have g2 : M0.1 2 = M.1 2 := by rw [f0.1 2 (by simp), e2]
  have g15 : v15 M0 = v15 M2 := by unfold v15; rw [f0.1 15 (by simp)]
  have g16 : v16 M0 = v16 M2 := by unfold v16; rw [f0.1 16 (by simp)]
  have g17 : ∀ h, h < 4 → v17 M0 h = 0 := fun h hh => by
    rw [← d3 h hh, ← hM0]
    unfold v17; simp [wI_g]
  have g26 : (M0.1 0 26).toInt = 0 := by rw [← hM0]; simp [wI_g, upd_g]
  have gi : ∀ i, i ≠ 26 → M0.1 0 i = M3.1 0 i := fun i hi => by rw [← hM0]; simp [wI_g, upd_g, hi]
  have gj : ∀ i, i ≠ 26 → i ≠ 27 → i ≠ 28 → M0.1 0 i = M.1 0 i := fun i x1 x2 x3 => by
    rw [gi i x1, d4 i x2 x3, a2.1 0 (by simp)]
  have frM : Fr [0, 15, 16, 17] M M0 := (a2.mono (by simp)).tr (f0.mono (by simp))
  have fr0 : ∀ Mx, TI r.toInt M0 Mx → Fr [0, 15, 16, 17] M Mx ∧ ∀ i, i ≠ 26 → i ≠ 27 → i ≠ 28 → Mx.1 0 i = M.1 0 i := fun Mx h => ⟨frM.tr (h.1.mono (by simp)), fun i x1 x2 x3 => by rw [h.2.1 i x1]; exact gj i x1 x2 x3⟩
  have hcap : Cap r.toInt M0 := by
    refine ⟨⟨by rw [g2]; exact hn, by rw [g15]; exact b15, by rw [g16]; exact b16, fun h hh => by rw [g17 h hh]; omega⟩, fun pr hpr => ?_⟩
    obtain ⟨x, y, z, fl, e, -⟩ := hF.lat hn h0
    rw [g2, g15, g16, ← e]
    exact weak hn fl hpr
  have hTI : TI r.toInt M0 M0 := TI.rf hcap (by rw [g26]; exact c2)
  by_cases hl0 : rk (isG (v16 M2)) 4 = 0
  · -- nothing lacks
    rw [if_pos (by show nI (rk (isG (v16 M2)) 4) = 0; rw [hl0]; rfl)]
    have er : r.toInt = 0 := by
      obtain ⟨x, y, z, fl, e, pr, hpr, hv⟩ := hF.lat hn h0
      have nl : ∀ j, j < 4 → v16 M2 j = 0 := fun j hj => by
        by_cases q : 0 < v16 M2 j
        · have := rk_pos hj q; omega
        · have := (h0 j hj).2; omega
      have t : ∀ j, j < 4 → tZ (M.1 2) (v15 M2) (v16 M2) pr j = 0 := fun j hj => by unfold tZ; rw [if_pos (nl j hj)]
      have q : ∀ i, i < 4 → 0 ≤ pr i * v15 M2 i := fun i hi => Int.mul_nonneg (hpr i hi) (h0 i hi).1
      unfold wZ at hv
      rw [t 0 (by omega), t 1 (by omega), t 2 (by omega), t 3 (by omega)] at hv
      have q0 := q 0 (by omega); have q1 := q 1 (by omega); have q2 := q 2 (by omega); have q3 := q 3 (by omega)
      omega
    exact ⟨0, M0, rfl, by rw [← c1, er]; rfl, by decide, by decide, fr0 M0 hTI⟩
  rw [if_neg (by show ¬ nI (rk (isG (v16 M2)) 4) = 0; rw [eq0 (by omega)]; exact hl0)]
  have ht := fin_tried hn h0 h4 (by omega) hF
  rw [← g2, ← g15, ← g16] at ht
  unfold Tried at ht
  obtain ⟨Mt, t1, t2, t3, t4, t5⟩ := hTI.try hN hcap
  rw [bd_of t1]
  have t4' : wZ (M0.1 2) (v15 M0) (v16 M0) (fun _ => 0) ≤ (Mt.1 0 26).toInt := by
    rw [← wZ_congr (pr := v17 M0) (fun i hi => (hcap.1.2.1 i hi).1) (fun i hi _ => g17 i hi)]
    exact t4
  have z17 : ∀ h, h < 4 → v17 Mt h = 0 := fun h hh => by rw [← g17 h hh]; unfold v17; rw [t3]
  -- an end with what was tried
  have done : ∀ Mx, TI r.toInt M0 Mx → r.toInt ≤ (Mx.1 0 26).toInt → ∃ x M', some (Mx.1 0 26, Mx) = some (x, M') ∧ x.toInt = latZ (M.1 2) p w ∧ 0 ≤ x.toInt ∧ x.toInt ≤ 300000000 ∧ Fr [0, 15, 16, 17] M M' ∧ ∀ i, i ≠ 26 → i ≠ 27 → i ≠ 28 → M'.1 0 i = M.1 0 i := by
    intro Mx hx hv
    have := hx.2.2.2.2
    exact ⟨_, Mx, rfl, by rw [← c1]; omega, by omega, by omega, fr0 Mx hx⟩
  rw [g15, g16] at ht
  by_cases hl1 : rk (isG (v16 M2)) 4 = 1
  · -- one lacks
    have e1 : nI (rk (isG (v16 M2)) 4) = 1 := by rw [hl1]; rfl
    rw [e1]
    obtain ⟨Ml, l1, l2, l3, l4⟩ := lev_e hN hcap t2 (nI (rk (isG (v15 M2)) 4)) (fun z24 M25 =>
        (itr (B_X12_laterOf_201 N (nI (rk (isG (v15 M2)) 4)) 1 fun z31 M32 =>
        (if (1 : Int32) = 2 then
          (if nI (rk (isG (v15 M2)) 4) = 2 then
            (bd (f_X12_triesTwo N (M32.1 0 27) (M32.1 0 28) M32) fun r33 M34 =>
            (bd (f_X12_triesTwo N (M34.1 0 28) (M34.1 0 27) M34) fun r35 M36 =>
            (some (M36.1 0 26, M36))))
          else
            (some (M32.1 0 26, M32)))
        else
          (some (M32.1 0 26, M32)))) N 0 M25))
    rw [l1]
    obtain ⟨N', rfl⟩ : ∃ N', N = N' + 1 := ⟨N - 1, by omega⟩
    rw [itr_s]
    unfold B_X12_laterOf_201
    rw [if_pos (by decide), if_neg (by decide)]
    dsimp only
    rw [if_neg (by decide)]
    refine done Ml l2 ?_
    rcases ht with h | ⟨-, j, lv, j1, j2, j3, j4⟩ | ⟨h, -⟩ | ⟨h, -⟩
    · rw [← g15, ← g16] at h; omega
    · rw [← g15, ← g16] at j4
      rw [← g16] at j2
      have := l4 j lv j1 j2 j3
      omega
    · omega
    · omega
  · have e1 : ¬ nI (rk (isG (v16 M2)) 4) = 1 := by rw [eq1 (by omega)]; exact hl1
    have e1' : 1 < nI (rk (isG (v16 M2)) 4) := by rw [gt1 (by omega)]; omega
    obtain ⟨N', hN'⟩ : ∃ N', N = N' + 1 := ⟨N - 1, by omega⟩
    have skip : ∀ (x3 x4 : Int32) (G : Unit → Mm → Rs) (Mx : Mm), ¬ x4 = 1 → itr (B_X12_laterOf_100 N x3 x4 G) N 0 Mx = G () Mx := by
      intro x3 x4 G Mx hx
      have : itr (B_X12_laterOf_100 N x3 x4 G) N 0 Mx = itr (B_X12_laterOf_100 N x3 x4 G) (N' + 1) 0 Mx := by rw [hN']
      rw [this, itr_s]
      unfold B_X12_laterOf_100
      rw [if_pos (by decide), if_neg hx]
    have skip2 : ∀ (x3 x4 : Int32) (G : Unit → Mm → Rs) (Mx : Mm), 1 < x4 → ¬ x3 = 1 → itr (B_X12_laterOf_201 N x3 x4 G) N 0 Mx = G () Mx := by
      intro x3 x4 G Mx hx hx3
      have : itr (B_X12_laterOf_201 N x3 x4 G) N 0 Mx = itr (B_X12_laterOf_201 N x3 x4 G) (N' + 1) 0 Mx := by rw [hN']
      rw [this, itr_s]
      unfold B_X12_laterOf_201
      rw [if_pos (by decide), if_pos hx, if_neg hx3]
    rw [skip _ _ _ _ e1]
    by_cases hg1 : rk (isG (v15 M2)) 4 = 1
    · -- one has
      have eg : nI (rk (isG (v15 M2)) 4) = 1 := by rw [hg1]; rfl
      rw [eg]
      obtain ⟨a, a1', a2', a3', -⟩ := d5 (by omega)
      obtain ⟨Ml, l1, l2, l3, l4⟩ := one_e hN hcap t2 a1' (by rw [gi 27 (by omega)]; exact a3') e1' (fun h hh _ => z17 h hh) (fun z31 M32 =>
        (if nI (rk (isG (v16 M2)) 4) = 2 then
          (if (1 : Int32) = 2 then
            (bd (f_X12_triesTwo N (M32.1 0 27) (M32.1 0 28) M32) fun r33 M34 =>
            (bd (f_X12_triesTwo N (M34.1 0 28) (M34.1 0 27) M34) fun r35 M36 =>
            (some (M36.1 0 26, M36))))
          else
            (some (M32.1 0 26, M32)))
        else
          (some (M32.1 0 26, M32))))
      rw [l1]
      have fin : r.toInt ≤ (Ml.1 0 26).toInt := by
        rcases ht with h | ⟨h, -⟩ | ⟨-, -, i, k, i1, i2, k1, hv⟩ | ⟨-, h, -⟩
        · rw [← g15, ← g16] at h; omega
        · omega
        · have : i = a := rk_same i1 a1' i2 a2' hg1
          subst this
          rw [← g15, ← g16] at hv
          have := l4 k k1
          omega
        · omega
      rw [show (if nI (rk (isG (v16 M2)) 4) = 2 then (if (1 : Int32) = 2 then
            (bd (f_X12_triesTwo N (Ml.1 0 27) (Ml.1 0 28) Ml) fun r33 M34 =>
            (bd (f_X12_triesTwo N (M34.1 0 28) (M34.1 0 27) M34) fun r35 M36 =>
            (some (M36.1 0 26, M36)))) else some (Ml.1 0 26, Ml)) else some (Ml.1 0 26, Ml)) = some (Ml.1 0 26, Ml) by
        rw [if_neg (show ¬ (1 : Int32) = 2 by decide)]
        split <;> rfl]
      exact done Ml l2 fin
    · have eg : ¬ nI (rk (isG (v15 M2)) 4) = 1 := by rw [eq1 (by omega)]; exact hg1
      rw [skip2 _ _ _ _ e1' eg]
      by_cases hl2 : rk (isG (v16 M2)) 4 = 2
      · rw [if_pos (by rw [eq2 (by omega)]; exact hl2)]
        by_cases hg2 : rk (isG (v15 M2)) 4 = 2
        · rw [if_pos (by rw [eq2 (by omega)]; exact hg2)]
          obtain ⟨a, a1', a2', a3', a4'⟩ := d5 (by omega)
          obtain ⟨b, b1', b2', b3', b4'⟩ := a4' (by omega)
          have x27 : Mt.1 0 27 = nI a := by rw [t2.2.1 27 (by omega), gi 27 (by omega)]; exact a3'
          have x28 : Mt.1 0 28 = nI b := by rw [t2.2.1 28 (by omega), gi 28 (by omega)]; exact b4'
          rw [x27, x28]
          obtain ⟨Ma, u1, u2, u3, u4, u5⟩ := two_e hN hcap t2 a1' b1' b2'.symm (fun h hh _ _ => z17 h hh)
          rw [bd_of u1]
          have y27 : Ma.1 0 27 = nI a := by rw [u2.2.1 27 (by omega), gi 27 (by omega)]; exact a3'
          have y28 : Ma.1 0 28 = nI b := by rw [u2.2.1 28 (by omega), gi 28 (by omega)]; exact b4'
          rw [y27, y28]
          obtain ⟨Mb, w1, w2, w3, w4, w5⟩ := two_e hN hcap u2 b1' a1' b2' (fun h hh x y => u3 h hh y x)
          rw [bd_of w1]
          refine done Mb w2 ?_
          rcases ht with h | ⟨h, -⟩ | ⟨-, h, -⟩ | ⟨-, -, a0, b0, q1, q2, q3, q4, q5, q6⟩
          · rw [← g15, ← g16] at h; omega
          · omega
          · omega
          · rw [← g15, ← g16] at q6
            have wa := rk_two a1' b1' q1 a2' b3' q4 b2'.symm hg2
            have wb := rk_two a1' b1' q2 a2' b3' q5 b2'.symm hg2
            rcases wa with rfl | rfl
            · have : b0 = b := wb.resolve_left (fun e => q3 e.symm)
              subst this
              rcases q6 with ⟨k, m, k1, m1, hv⟩ | ⟨k, j, k1, j1, j2, hv⟩
              · have := u5.1 k m k1 m1; omega
              · have := u5.2 k j k1 j1 j2; omega
            · have : b0 = a := wb.resolve_right (fun e => q3 e.symm)
              subst this
              rcases q6 with ⟨k, m, k1, m1, hv⟩ | ⟨k, j, k1, j1, j2, hv⟩
              · have := w5.1 k m k1 m1; omega
              · have := w5.2 k j k1 j1 j2; omega
        · rw [if_neg (by rw [eq2 (by omega)]; exact hg2)]
          refine done Mt t2 ?_
          rcases ht with h | ⟨h, -⟩ | ⟨-, h, -⟩ | ⟨-, h, -⟩
          · rw [← g15, ← g16] at h; omega
          · omega
          · omega
          · omega
      · rw [if_neg (by rw [eq2 (by omega)]; exact hl2)]
        refine done Mt t2 ?_
        rcases ht with h | ⟨h, -⟩ | ⟨-, h, -⟩ | ⟨h, -, -⟩
        · rw [← g15, ← g16] at h; omega
        · omega
        · omega
        · omega
