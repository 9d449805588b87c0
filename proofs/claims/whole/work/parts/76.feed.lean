/-! bytes that are fed -/
def bytS (p : Int64) (j : Nat) : Int32 := ((lushr p (nI (8 * j))) &&& 255).toInt32
theorem lmul8 (j : Nat) : 8 * nI j = nI (8 * j) := by
  show nI 8 * nI j = _
  rw [pk_mul]
theorem l_s : ∀ j, j < 8 → (((nI (8 * j)).toInt64 &&& 63).toBitVec.smod 64).toNat = 8 * j := by decide +kernel
theorem l_u : ∀ j, j < 8 → (((nI (8 * j)).toInt64.toUInt64 &&& Int64.toUInt64 63).toBitVec % 64).toNat = 8 * j := by decide +kernel
theorem l_255 : ∀ i, i < 64 → (255 : Int64).toBitVec.getLsbD i = decide (i < 8) := by decide +kernel
theorem lu_bit (p : Int64) {j : Nat} (hj : j < 8) (i : Nat) : (lushr p (nI (8 * j))).toBitVec.getLsbD i = p.toBitVec.getLsbD (8 * j + i) := by
  show (p.toUInt64 >>> ((nI (8 * j)).toInt64.toUInt64 &&& Int64.toUInt64 63)).toBitVec.getLsbD i = p.toUInt64.toBitVec.getLsbD (8 * j + i)
  rw [UInt64.toBitVec_shiftRight]
  show (p.toUInt64.toBitVec >>> (((nI (8 * j)).toInt64.toUInt64 &&& Int64.toUInt64 63).toBitVec % 64).toNat).getLsbD i = _
  rw [l_u j hj, BitVec.getLsbD_ushiftRight]
theorem ls_bit (p : Int64) {j : Nat} (hj : j < 8) {i : Nat} (hi : i < 8) : (lshr p (nI (8 * j))).toBitVec.getLsbD i = p.toBitVec.getLsbD (8 * j + i) := by
  unfold lshr
  rw [Int64.toBitVec_shiftRight]
  show (p.toBitVec.sshiftRight (((nI (8 * j)).toInt64 &&& 63).toBitVec.smod 64).toNat).getLsbD i = _
  rw [l_s j hj, BitVec.getLsbD_sshiftRight, if_pos (show 8 * j + i < 64 by omega), decide_eq_false (show ¬ 64 ≤ i by omega)]
  rfl
theorem byt_eq (p : Int64) {j : Nat} (hj : j < 8) : ((lshr p (nI (8 * j))) &&& 255).toInt32 = bytS p j := by
  unfold bytS
  congr 1
  apply Int64.toBitVec_inj.mp
  apply BitVec.eq_of_getLsbD_eq
  intro i hi
  rw [Int64.toBitVec_and, Int64.toBitVec_and, BitVec.getLsbD_and, BitVec.getLsbD_and, l_255 i hi]
  by_cases h : i < 8
  · rw [lu_bit p hj, ls_bit p hj h]
  · simp [h]
theorem byt_b (p : Int64) (j : Nat) : 0 ≤ (bytS p j).toInt ∧ (bytS p j).toInt ≤ 255 := by
  have hb : ∀ i, 8 ≤ i → bt (bytS p j) i = false := by
    intro i hi
    rcases Nat.lt_or_ge i 32 with h | h
    · unfold bt bytS
      rw [Int64.toBitVec_toInt32, BitVec.getLsbD_signExtend, if_pos (show i < 64 by omega), Int64.toBitVec_and, BitVec.getLsbD_and, l_255 i (by omega), decide_eq_false (show ¬ i < 8 by omega)]
      simp
    · exact b_big h
  have hx : (bytS p j).toBitVec.toNat < 2 ^ 8 := by
    apply Nat.lt_pow_two_of_testBit
    intro i hi
    exact hb i hi
  have e : bytS p j = nI (bytS p j).toBitVec.toNat := by
    apply b_ext
    intro i hi
    rw [b_nI]
    simp [hi]
    rfl
  rw [e, nI_toInt (by omega)]
  omega
section Feed
variable {N : Nat} {M1 M2 : Mm}
theorem step_feed (hN : 100000 ≤ N) (H : Rel M1 M2) (a : Int32) (p : Int64) : Ans (f_X11_feed N a p M1) (f_X12_feed N a p M2) := by
  have H0 := H
  obtain ⟨tt, b, ⟨c1, c2, ⟨n, t1, t2, t3, t4⟩, c4⟩, d, e⟩ := H
  unfold f_X11_feed f_X12_feed
  rw [show (1 : Int64) = (1 : Int32).toInt64 by rfl, show (8 : Int64) = (8 : Int32).toInt64 by rfl, bd_of (out_lit a 1 8)]
  simp only [lt_eq]
  by_cases h1 : a < 1
  · rw [if_pos h1, if_pos h1, if_neg (show ¬ (-4 : Int32) = 0 by decide), if_neg (show ¬ (-4 : Int32) = 0 by decide)]; exact ref4 H0
  · rw [if_neg h1, if_neg h1]
    by_cases h8 : 8 < a
    · rw [if_pos h8, if_pos h8, if_neg (show ¬ (-6 : Int32) = 0 by decide), if_neg (show ¬ (-6 : Int32) = 0 by decide)]; exact ref6 H0
    · rw [if_neg h8, if_neg h8, if_pos rfl, t2, t3]
      obtain ⟨k, k1, rfl⟩ : ∃ k, k < 9 ∧ a = nI k := by
        rcases i_cases a with hx | ⟨k, hk, rfl⟩
        · exact absurd (show a < 1 by rw [toI_lt] at hx ⊢; have : (0 : Int32).toInt = 0 := rfl; have : (1 : Int32).toInt = 1 := rfl; omega) h1
        · rw [gt8 hk] at h8
          exact ⟨k, by omega, rfl⟩
      rw [nI_add]
      by_cases h40 : 40 < n + k
      · have q : 40 < nI (n + k) := by rw [gt40 (by omega)]; exact h40
        rw [if_pos q, if_pos q, if_neg (show ¬ (-6 : Int32) = 0 by decide)]; exact ref6 H0
      · have q : ¬ 40 < nI (n + k) := by rw [gt40 (by omega)]; exact h40
        rw [if_neg q, if_neg q, if_pos rfl]
        obtain ⟨s', Ma, rec, ⟨hs, hF, hl, hv⟩, he⟩ := itr_go (B := B_X9_append_3 N (nI k) p fun z3 M4 => some (0, M4)) (fun j s M' => s = nI j ∧ Fr [30, 31] M1 M' ∧ M'.1 30 1 = nI (n + j) ∧ ∀ i, i < n + j → M'.1 31 i = if i < n then M2.1 5 i else bytS p (i - n)) k
          (fun rec j s Mx hj ⟨hs, hF, hl, hv⟩ => by
            subst hs
            unfold B_X9_append_3
            rw [if_pos (by rw [nlt (by omega) (by omega)]; exact hj), hl, if_pos (by rw [lt40 (by omega)]; omega), inb_n (by omega) (by omega), ix_n (by omega), if_pos rfl, lmul8, show ((lushr p (nI (8 * j))) &&& 255).toInt32 = bytS p j from rfl]
            simp only [lt_eq]
            have w1 : (wI Mx 31 (n + j) (bytS p j)).1 30 1 = nI (n + j) := by rw [wI_g, if_neg (by omega)]; exact hl
            rw [w1, nI_1, nI_1]
            refine ⟨_, _, ⟨rfl, (hF.wI (by simp)).wI (by simp), by simp [wI_g, upd_g]; rfl, fun i hi => ?_⟩, rfl⟩
            have w2 : (wI (wI Mx 31 (n + j) (bytS p j)) 30 1 (nI (n + j + 1))).1 31 i = if i = n + j then bytS p j else Mx.1 31 i := by simp [wI_g, upd_g]
            rw [w2]
            by_cases e : i = n + j
            · rw [if_pos e, if_neg (by omega), e, show n + j - n = j by omega]
            · rw [if_neg e]; exact hv i (by omega)) N 0 0 M1 (by omega) (by omega) ⟨nI_0.symm, Fr.rf _ _, t2, fun i hi => by rw [if_pos (by omega)]; exact (t4 i (by omega)).1⟩
        subst hs
        have ea : f_X9_append N (nI k) p M1 = some (0, Ma) := by
          unfold f_X9_append
          rw [he]
          unfold B_X9_append_3
          rw [if_neg (by rw [nlt (by omega) (by omega)]; omega)]
        obtain ⟨s', Mb, rec', ⟨hs, gF, gs, gl, gv⟩, he2⟩ := itr_go (B := B_X12_feed_46 N (nI k) p fun z8 M9 => some (M9.1 0 14, M9)) (fun j s M' => s = nI j ∧ Fr [0, 5] M2 M' ∧ (∀ i, i ≠ 14 → M'.1 0 i = M2.1 0 i) ∧ M'.1 0 14 = nI (n + j) ∧ ∀ i, i < n + j → M'.1 5 i = if i < n then M2.1 5 i else bytS p (i - n)) k
          (fun rec j s Mx hj ⟨hs, hF, hsl, hl, hv⟩ => by
            subst hs
            unfold B_X12_feed_46
            rw [if_pos (by rw [nlt (by omega) (by omega)]; exact hj), hl, inb_n (by omega) (by omega), ix_n (by omega), if_pos rfl, lmul8, byt_eq p (by omega)]
            simp only [lt_eq]
            have w1 : (wI Mx 5 (n + j) (bytS p j)).1 0 14 = nI (n + j) := by rw [wI_g, if_neg (by omega)]; exact hl
            rw [w1, nI_1, nI_1]
            refine ⟨_, _, ⟨rfl, (hF.wI (by simp)).wI (by simp), fun i hi => ?_, by simp [wI_g, upd_g]; rfl, fun i hi => ?_⟩, rfl⟩
            · rw [← hsl i hi]; simp [wI_g, upd_g, hi]
            · have w2 : (wI (wI Mx 5 (n + j) (bytS p j)) 0 14 (nI (n + j + 1))).1 5 i = if i = n + j then bytS p j else Mx.1 5 i := by simp [wI_g, upd_g]
              rw [w2]
              by_cases e : i = n + j
              · rw [if_pos e, if_neg (by omega), e, show n + j - n = j by omega]
              · rw [if_neg e]; exact hv i (by omega)) N 0 0 M2 (by omega) (by omega) ⟨nI_0.symm, Fr.rf _ _, fun _ _ => rfl, t3, fun i hi => by rw [if_pos (by omega)]⟩
        subst hs
        rw [bd_of ea, he2]
        unfold B_X12_feed_46
        rw [if_neg (show ¬ nI k < nI k by rw [nlt (by omega) (by omega)]; omega)]
        refine ⟨nI (n + k), Ma, Mb, by rw [hl], by dsimp only; rw [gl], tt.fr (hF.on (by decide)) (gF.on (by decide)) (gs 15 (by omega)) (gs 39 (by omega)), b.fr (by rw [hF.1 0 (by decide)]) (hF.on (by decide)) (gF.on (by decide)) (gs 48 (by omega)) (gs 49 (by omega)) (gs 50 (by omega)), ⟨?_, ?_, ⟨n + k, by omega, hl, gl, fun i hi => ?_⟩, ?_⟩, d.fr (hF.on (by decide)), e.fr (hF.on (by decide)) (gF.on (by decide)) (gs 2 (by omega))⟩
        · rw [hF.1 33 (by decide), gF.1 1 (by decide)]; exact c1
        · rw [hF.1 1 (by decide), hF.1 27 (by decide), hF.1 28 (by decide), hF.1 29 (by decide), gs 5 (by omega), gF.1 3 (by decide), gF.1 4 (by decide)]; exact c2
        · rw [hv i hi, gv i hi]
          refine ⟨rfl, ?_⟩
          split
          · exact (t4 i (by omega)).2
          · exact byt_b p _
        · rw [hF.1 0 (by decide), hF.1 32 (by decide), gs 37 (by omega), gF.1 23 (by decide)]; exact c4
end Feed
