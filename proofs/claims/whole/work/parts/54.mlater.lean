/-! the reference: LATER is what is least -/
theorem rk_congr {q q' : Nat → Bool} : ∀ n, (∀ i, i < n → q i = q' i) → rk q n = rk q' n := by
  intro n
  induction n with
  | zero => intro _; rfl
  | succ n ih => intro h; rw [rk_s, rk_s, ih (fun i hi => h i (by omega)), h n (by omega)]
theorem isG_congr {f g : Nat → Int} {n : Nat} (hn : n ≤ 4) (h : ∀ i, i < 4 → f i = g i) : rk (isG f) n = rk (isG g) n := rk_congr n (fun i hi => by unfold isG; rw [h i (by omega)])
theorem Fin.congr {nu : Nat → Int32} {sp lk sp' lk' : Nat → Int} {v : Int} (h1 : ∀ i, i < 4 → sp i = sp' i) (h2 : ∀ i, i < 4 → lk i = lk' i) (h : Fin nu sp lk v) : Fin nu sp' lk' v := by
  obtain ⟨F, d, c, s, l, S, X, H, Zl, ⟨r1, r2, r3⟩, h3⟩ := h
  rw [isG_congr (Nat.le_refl 4) h1, isG_congr (Nat.le_refl 4) h2] at h3
  refine ⟨F, d, c, s, l, S, X, H, Zl, ⟨fun i j hi hj a b => ?_, fun j hj a => ?_, fun i hi a => ?_⟩, h3⟩
  · rw [← isG_congr (by omega) h1, ← isG_congr (by omega) h2]
    exact r1 i j hi hj (by rw [h1 i hi]; exact a) (by rw [h2 j hj]; exact b)
  · rw [← isG_congr (by omega) h2, ← h2 j hj]
    exact r2 j hj (by rw [h2 j hj]; exact a)
  · rw [← isG_congr (by omega) h1, ← h1 i hi]
    exact r3 i hi (by rw [h1 i hi]; exact a)
/-- which harbours have and lack, and the last two that have -/
def L1 (M0 : Mm) (j : Nat) (M : Mm) : Prop := Fr [0, 17] M0 M ∧ (∀ h, h < j → v17 M h = 0) ∧ (∀ i, i ≠ 27 → i ≠ 28 → M.1 0 i = M0.1 0 i) ∧ (0 < rk (isG (v15 M0)) j → ∃ a, a < j ∧ 0 < v15 M0 a ∧ M.1 0 27 = nI a ∧ (1 < rk (isG (v15 M0)) j → ∃ b, b < j ∧ b ≠ a ∧ 0 < v15 M0 b ∧ M.1 0 28 = nI b))
theorem later1 {N : Nat} (hN : 100000 ≤ N) (M0 : Mm) (G : (Int32 × Int32) → Mm → Rs) : ∃ M', itr (B_X12_laterOf_14 N G) N (0, 0, 0) M0 = G (nI (rk (isG (v15 M0)) 4), nI (rk (isG (v16 M0)) 4)) M' ∧ L1 M0 4 M' := by
  obtain ⟨s', M', rec, ⟨hs, hL⟩, he⟩ := itr_go (B := B_X12_laterOf_14 N G) (fun j s M' => s = (nI (rk (isG (v15 M0)) j), nI (rk (isG (v16 M0)) j), nI j) ∧ L1 M0 j M') 4
    (fun rec j s M1 hj ⟨hs, hF, h0, hi, ha⟩ => by
      subst hs
      have e15 : M1.1 15 = M0.1 15 := hF.1 15 (by simp)
      have e16 : M1.1 16 = M0.1 16 := hF.1 16 (by simp)
      -- what the second half does
      have fin : ∀ M2 : Mm, L1 M0 (j + 1) M2 → ∃ s' M', (s' = (nI (rk (isG (v15 M0)) (j + 1)), nI (rk (isG (v16 M0)) (j + 1)), nI (j + 1)) ∧ L1 M0 (j + 1) M') ∧ (if 0 < M2.1 16 j then rec (nI (rk (isG (v15 M0)) (j + 1)), nI (rk (isG (v16 M0)) j) + 1, nI j + 1) M2 else rec (nI (rk (isG (v15 M0)) (j + 1)), nI (rk (isG (v16 M0)) j) + 0, nI j + 1) M2) = rec s' M' := by
        intro M2 hL
        refine ⟨_, M2, ⟨rfl, hL⟩, ?_⟩
        have e : M2.1 16 = M0.1 16 := hL.1.1 16 (by simp)
        rw [e, rk_s (isG (v16 M0))]
        unfold isG
        by_cases h : 0 < v16 M0 j
        · rw [if_pos (by rw [zI]; exact h), nI_1, nI_1]
          simp only [h, decide_true, if_true]
        · rw [if_neg (by rw [zI]; exact h), nI_1]
          simp only [h, decide_false, Bool.false_eq_true, if_false, Int32.add_zero, Nat.add_zero]
      have z17 : ∀ h, h < j + 1 → v17 (wI M1 17 j 0) h = 0 := by
        intro h hh
        unfold v17
        simp only [wI_g, if_true, upd_g]
        split
        · rfl
        · exact h0 h (by omega)
      unfold B_X12_laterOf_14
      simp (disch := omega) only [lt4, hj, if_true, inb_n, ix_n, lt_eq]
      have e15' : (wI M1 17 j 0).1 15 j = M0.1 15 j := by rw [wI_g, if_neg (by omega), e15]
      rw [e15']
      by_cases h : 0 < v15 M0 j
      · rw [if_pos (by rw [zI]; exact h)]
        have er : rk (isG (v15 M0)) (j + 1) = rk (isG (v15 M0)) j + 1 := by rw [rk_s]; unfold isG; simp only [h, decide_true, if_true]
        rw [nI_1, ← er]
        have q28 : (wI (wI (wI M1 17 j 0) 0 28 ((wI M1 17 j 0).1 0 27)) 0 27 (nI j)).1 0 28 = M1.1 0 27 := by simp [wI_g, upd_g]
        have q27 : (wI (wI (wI M1 17 j 0) 0 28 ((wI M1 17 j 0).1 0 27)) 0 27 (nI j)).1 0 27 = nI j := by simp [wI_g, upd_g]
        refine fin _ ⟨((hF.wI (by simp)).wI (by simp)).wI (by simp), fun k hk => ?_, fun i i1 i2 => ?_, fun _ => ⟨j, by omega, h, q27, fun h1 => ?_⟩⟩
        · rw [← z17 k hk]
          unfold v17
          simp [wI_g]
        · rw [← hi i i1 i2]
          simp [wI_g, upd_g, i1, i2]
        · obtain ⟨a, a1, a2, a3, -⟩ := ha (by omega)
          exact ⟨a, by omega, by omega, a2, by rw [q28]; exact a3⟩
      · rw [if_neg (by rw [zI]; exact h)]
        have er : rk (isG (v15 M0)) (j + 1) = rk (isG (v15 M0)) j := by rw [rk_s]; unfold isG; simp only [h, decide_false, Bool.false_eq_true, if_false, Nat.add_zero]
        rw [← er]
        refine fin _ ⟨hF.wI (by simp), z17, fun i i1 i2 => by rw [wI_g, if_neg (by omega)]; exact hi i i1 i2, fun h1 => ?_⟩
        rw [er] at h1
        obtain ⟨a, a1, a2, a3, a4⟩ := ha h1
        refine ⟨a, by omega, a2, by rw [wI_g, if_neg (by omega)]; exact a3, fun h2 => ?_⟩
        rw [er] at h2
        obtain ⟨b, b1, b2, b3, b4⟩ := a4 h2
        exact ⟨b, by omega, b2, b3, by rw [wI_g, if_neg (by omega)]; exact b4⟩) N 0 (0, 0, 0) M0 (by omega) (by omega) ⟨by unfold rk; rw [nI_0], Fr.rf _ _, fun k hk => absurd hk (by omega), fun _ _ _ => rfl, fun hk => absurd hk (by unfold rk; omega)⟩
  subst hs
  refine ⟨M', ?_, hL⟩
  rw [he]
  simp (disch := omega) only [B_X12_laterOf_14, lt4, Nat.lt_irrefl, if_false]
section Lat
variable {N : Nat} {v : Int} {M0 M : Mm}
/-- levels by one harbour's moves -/
theorem lev_i (hN : 100000 ≤ N) (hc : Cap v M0) (h : TI v M0 M) {j : Nat} (hj : j < 4) (x3 x4 : Int32) (G : Unit → Mm → Rs) : ∃ M', itr (B_X12_laterOf_159 N x3 x4 (nI j) G) N 0 M = G () M' ∧ TI v M0 M' ∧ (M.1 0 26).toInt ≤ (M'.1 0 26).toInt ∧ ∀ i, i < 4 → wZ (M0.1 2) (v15 M0) (v16 M0) (lvZ (M0.1 2) (v15 M0) j (zz (M0.1 2) (24 + 4 * i + j))) ≤ (M'.1 0 26).toInt := by
  obtain ⟨s', M', rec, ⟨hs, hT, hm, hv⟩, he⟩ := itr_go (B := B_X12_laterOf_159 N x3 x4 (nI j) G) (fun i s M' => s = nI i ∧ TI v M0 M' ∧ (M.1 0 26).toInt ≤ (M'.1 0 26).toInt ∧ ∀ k, k < i → wZ (M0.1 2) (v15 M0) (v16 M0) (lvZ (M0.1 2) (v15 M0) j (zz (M0.1 2) (24 + 4 * k + j))) ≤ (M'.1 0 26).toInt) 4
    (fun rec i s M1 hi ⟨hs, hT, hm, hv⟩ => by
      subst hs
      obtain ⟨M2, a1, a2, a3, a4⟩ := level_e hN hc hT hj (lv := M0.1 2 (24 + 4 * i + j)) (hc.1.1.1 (24 + 4 * i + j) (by omega))
      refine ⟨nI (i + 1), M2, ⟨rfl, a2, by omega, fun k hk => ?_⟩, ?_⟩
      · by_cases e : k = i
        · subst e; exact a3
        · have := hv k (by omega); omega
      · unfold B_X12_laterOf_159
        simp (disch := omega) only [lt4, hi, if_true, lmul4, ladd24, nI_add, inb_n, ix_n, hT.e2]
        rw [bd_of a1, nI_1]) N 0 0 M (by omega) (by omega) ⟨nI_0.symm, h, Int.le_refl _, fun k hk => absurd hk (by omega)⟩
  subst hs
  refine ⟨M', ?_, hT, hm, hv⟩
  rw [he]
  simp (disch := omega) only [B_X12_laterOf_159, lt4, Nat.lt_irrefl, if_false]
/-- levels, where one alone lacks -/
theorem lev_e (hN : 100000 ≤ N) (hc : Cap v M0) (h : TI v M0 M) (x3 : Int32) (G : Unit → Mm → Rs) : ∃ M', itr (B_X12_laterOf_100 N x3 1 G) N 0 M = G () M' ∧ TI v M0 M' ∧ (M.1 0 26).toInt ≤ (M'.1 0 26).toInt ∧ ∀ j lv, j < 4 → 0 < v16 M0 j → (lv = zz (M0.1 2) 41 ∨ lv = zz (M0.1 2) (6 * j + 3) ∨ ∃ i, i < 4 ∧ lv = zz (M0.1 2) (24 + 4 * i + j)) → wZ (M0.1 2) (v15 M0) (v16 M0) (lvZ (M0.1 2) (v15 M0) j lv) ≤ (M'.1 0 26).toInt := by
  obtain ⟨s', M', rec, ⟨hs, hT, hm, hv⟩, he⟩ := itr_go (B := B_X12_laterOf_100 N x3 1 G) (fun n s M' => s = nI n ∧ TI v M0 M' ∧ (M.1 0 26).toInt ≤ (M'.1 0 26).toInt ∧ ∀ j lv, j < n → 0 < v16 M0 j → (lv = zz (M0.1 2) 41 ∨ lv = zz (M0.1 2) (6 * j + 3) ∨ ∃ i, i < 4 ∧ lv = zz (M0.1 2) (24 + 4 * i + j)) → wZ (M0.1 2) (v15 M0) (v16 M0) (lvZ (M0.1 2) (v15 M0) j lv) ≤ (M'.1 0 26).toInt) 4
    (fun rec n s M1 hn ⟨hs, hT, hm, hv⟩ => by
      subst hs
      have h16 : (M1.1 16 n).toInt = v16 M0 n := by rw [← hT.e16]; rfl
      have i41 : ix (41 : Int32) = 41 := rfl
      by_cases h0 : M1.1 16 n = 0
      · have h0' : v16 M0 n = 0 := by rw [← h16, h0]; rfl
        refine ⟨nI (n + 1), M1, ⟨rfl, hT, hm, fun j lv hj hl => ?_⟩, ?_⟩
        · by_cases e : j = n
          · subst e; omega
          · exact hv j lv (by omega) hl
        · unfold B_X12_laterOf_100
          simp (disch := omega) only [lt4, hn, if_true, inb_n, ix_n, h0, nI_1]
      · obtain ⟨M2, a1, a2, a3, a4⟩ := level_e hN hc hT hn (lv := M0.1 2 41) (hc.1.1.1 41 (by omega))
        obtain ⟨M3, b1, b2, b3, b4⟩ := level_e hN hc a2 hn (lv := M0.1 2 (6 * n + 3)) (hc.1.1.1 (6 * n + 3) (by omega))
        obtain ⟨M4, c1, c2, c3, c4⟩ := lev_i hN hc b2 hn x3 1 (fun z22 M23 => rec (nI n + 1) M23)
        refine ⟨nI (n + 1), M4, ⟨rfl, c2, by omega, fun j lv hj hl hlv => ?_⟩, ?_⟩
        · by_cases e : j = n
          · subst e
            rcases hlv with e | e | ⟨i, hi, e⟩
            · rw [e]
              have : wZ (M0.1 2) (v15 M0) (v16 M0) (lvZ (M0.1 2) (v15 M0) j (zz (M0.1 2) 41)) ≤ (M2.1 0 26).toInt := a3
              omega
            · rw [e]
              have : wZ (M0.1 2) (v15 M0) (v16 M0) (lvZ (M0.1 2) (v15 M0) j (zz (M0.1 2) (6 * j + 3))) ≤ (M3.1 0 26).toInt := b3
              omega
            · rw [e]; exact c4 i hi
          · have := hv j lv (by omega) hl hlv; omega
        · unfold B_X12_laterOf_100
          simp (disch := omega) only [lt4, hn, if_true, inb_n, ix_n, h0, if_false, hT.e2]
          rw [i41, bd_of a1]
          simp (disch := omega) only [lmul6, add3, inb_n, ix_n, if_true, a2.e2]
          rw [bd_of b1, c1, nI_1]) N 0 0 M (by omega) (by omega) ⟨nI_0.symm, h, Int.le_refl _, fun k _ hk => absurd hk (by omega)⟩
  subst hs
  refine ⟨M', ?_, hT, hm, hv⟩
  rw [he]
  simp (disch := omega) only [B_X12_laterOf_100, lt4, Nat.lt_irrefl, if_false]
/-- prices of the one that has -/
theorem one_e (hN : 100000 ≤ N) (hc : Cap v M0) (h : TI v M0 M) {a : Nat} (ha : a < 4) (h27 : M0.1 0 27 = nI a) {x4 : Int32} (hx : 1 < x4) (h0 : ∀ h, h < 4 → h ≠ a → v17 M h = 0) (G : Unit → Mm → Rs) : ∃ M', itr (B_X12_laterOf_201 N 1 x4 G) N 0 M = G () M' ∧ TI v M0 M' ∧ (M.1 0 26).toInt ≤ (M'.1 0 26).toInt ∧ ∀ k, k < 8 → wZ (M0.1 2) (v15 M0) (v16 M0) (p1Z a (prZ (M0.1 2) (v16 M0) a k)) ≤ (M'.1 0 26).toInt := by
  obtain ⟨s', M', rec, ⟨hs, hT, hm, hz, hv⟩, he⟩ := itr_go (B := B_X12_laterOf_201 N 1 x4 G) (fun n s M' => s = nI n ∧ TI v M0 M' ∧ (M.1 0 26).toInt ≤ (M'.1 0 26).toInt ∧ (∀ h, h < 4 → h ≠ a → v17 M' h = 0) ∧ ∀ k, k < n → wZ (M0.1 2) (v15 M0) (v16 M0) (p1Z a (prZ (M0.1 2) (v16 M0) a k)) ≤ (M'.1 0 26).toInt) 8
    (fun rec n s M1 hn ⟨hs, hT, hm, hz, hv⟩ => by
      subst hs
      have e27 : M1.1 0 27 = nI a := by rw [hT.2.1 27 (by omega)]; exact h27
      obtain ⟨y, y1, y2, y3, y4⟩ := price_e (N := N) hc hT ha (k := n) (by omega)
      have hT2 := hT.set (i := a) (x := y) ⟨y3, by omega⟩
      obtain ⟨M2, t1, t2, t3, t4, t5⟩ := hT2.try hN hc
      have hb1 : ((wI M1 17 a y).1 0 26).toInt = (M1.1 0 26).toInt := by rw [wI_g, if_neg (by omega)]
      refine ⟨nI (n + 1), M2, ⟨rfl, t2, by omega, fun k hk hne => ?_, fun k hk => ?_⟩, ?_⟩
      · unfold v17
        rw [t3, ← hz k hk hne]
        unfold v17
        simp [wI_g, upd_g, hne]
      · by_cases e : k = n
        · subst e
          rw [← wZ_congr (pr := v17 (wI M1 17 a y)) (fun i hi => (hc.1.2.1 i hi).1) (fun i hi _ => ?_)]
          · exact t4
          · unfold p1Z
            by_cases ei : i = a
            · subst ei
              rw [if_pos rfl, ← y2]
              unfold v17; simp [wI_g, upd_g]
            · rw [if_neg ei, ← hz i hi ei]
              unfold v17; simp [wI_g, upd_g, ei]
        · have := hv k (by omega); omega
      · unfold B_X12_laterOf_201
        rw [if_pos (by rw [lt8 (by omega)]; exact hn), if_pos hx, if_pos rfl, e27, bd_of y1]
        simp (disch := omega) only [inb_n, ix_n, if_true, lt_eq]
        rw [bd_of t1, nI_1]) N 0 0 M (by omega) (by omega) ⟨nI_0.symm, h, Int.le_refl _, h0, fun k hk => absurd hk (by omega)⟩
  subst hs
  refine ⟨M', ?_, hT, hm, hv⟩
  rw [he]
  simp (disch := omega) only [B_X12_laterOf_201, lt8, Nat.lt_irrefl, if_false]
end Lat
