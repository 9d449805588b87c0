/-! the class: COST, kept until a number changes -/
def fareZ (nu : Nat → Int32) (p : Nat) : Int := sm 4 (fun h => fer p h * zz nu (6 * h + 2))
noncomputable def cstZ (nu : Nat → Int32) (p w : Nat) : Int := fareZ nu p + latZ nu p w
theorem fare_b {nu : Nat → Int32} (hn : NumB nu) (p : Nat) : ∀ n, n ≤ 4 → 0 ≤ sm n (fun h => fer p h * zz nu (6 * h + 2)) ∧ sm n (fun h => fer p h * zz nu (6 * h + 2)) ≤ 2997 * n := by
  intro n
  induction n with
  | zero => intro _; unfold sm; omega
  | succ n ih =>
    intro h
    have := ih (by omega)
    rw [sm_s]
    have a := mul_b (fer_b (p := p) (h := n)).1 (fer_b (p := p) (h := n)).2 (hn.1 (6 * n + 2) (by omega)).1 (hn.1 (6 * n + 2) (by omega)).2
    omega
theorem fare_e {N : Nat} (hN : 100000 ≤ N) {M : Mm} {p : Nat} (hn : NumB (M.1 2)) (hp : p < 256) : ∃ x : Int32, f_X10_fare N (nI p) M = some (x, M) ∧ x.toInt = fareZ (M.1 2) p := by
  obtain ⟨s', M', rec, ⟨x, hs, hM, hx⟩, he⟩ := itr_go (B := B_X10_fare_4 N (nI p) fun z2 M3 => some (z2, M3)) (fun j s M' => ∃ x : Int32, s = (x, nI j) ∧ M' = M ∧ x.toInt = sm j (fun h => fer p h * zz (M.1 2) (6 * h + 2))) 4
    (fun rec j s M1 hj ⟨x, hs, hM, hx⟩ => by
      subst hs; subst hM
      have b := fare_b hn p j (by omega)
      have a := mul_b (fer_b (p := p) (h := j)).1 (fer_b (p := p) (h := j)).2 (hn.1 (6 * j + 2) (by omega)).1 (hn.1 (6 * j + 2) (by omega)).2
      unfold zz at a
      have e1 : (nI (p / 4 ^ j % 4) * M1.1 2 (6 * j + 2)).toInt = fer p j * zz (M1.1 2) (6 * j + 2) := by rw [i_mul (by rw [fer_t]; omega) (by rw [fer_t]; omega), fer_t]; rfl
      unfold zz at e1
      refine ⟨(x + nI (p / 4 ^ j % 4) * M1.1 2 (6 * j + 2), nI (j + 1)), M1, ⟨_, rfl, rfl, ?_⟩, ?_⟩
      · rw [i_add (by rw [e1]; omega) (by rw [e1]; omega), e1, hx, sm_s]; rfl
      · unfold B_X10_fare_4
        simp (disch := omega) only [lt4, hj, if_true, mul6, add2, inb_n, ix_n, lt_eq, fer_e p hp j hj, nI_1]) N 0 (0, 0) M (by omega) (by omega) ⟨0, by rw [nI_0], rfl, rfl⟩
  subst hs; subst hM
  refine ⟨x, ?_, hx⟩
  unfold f_X10_fare
  rw [he]
  unfold B_X10_fare_4
  simp (disch := omega) only [lt4, Nat.lt_irrefl, if_false]
theorem filla {N : Nat} (hN : 100000 ≤ N) (M : Mm) (v : Int32) : ∃ M', f_J7_fill_53178a N v M = some (0, M') ∧ Fr [39] M M' ∧ ∀ i, i < 4096 → M'.1 39 i = v := by
  obtain ⟨s', M', rec, ⟨hs, hF, hv⟩, he⟩ := itr_go (B := B_J7_fill_53178a_5 N v 4096 fun _ M3 => some (0, M3)) (fun j s M' => s = nI j ∧ Fr [39] M M' ∧ ∀ i, i < j → M'.1 39 i = v) 4096
    (fun rec j s M1 hj ⟨hs, hF, hv⟩ => by
      subst hs
      refine ⟨nI (j + 1), wI M1 39 j v, ⟨rfl, hF.wI (by simp), fun i hi => ?_⟩, ?_⟩
      · simp only [wI_g, if_true, upd_g]
        split
        · rfl
        · exact hv i (by omega)
      · simp (disch := omega) only [B_J7_fill_53178a_5, lt4096, hj, if_true, inb_n, ix_n, lt_eq, nI_1]) N 0 0 M (by omega) (by omega) ⟨nI_0.symm, Fr.rf _ _, fun i h => absurd h (by omega)⟩
  subst hs
  refine ⟨M', ?_, hF, hv⟩
  unfold f_J7_fill_53178a
  rw [he]
  simp (disch := omega) only [B_J7_fill_53178a_5, lt4096, Nat.lt_irrefl, if_false]
/-- what is kept of costs is right -/
def CacheC (M : Mm) : Prop := M.1 38 3 = 0 → ∀ p w, p < 256 → w < 16 → M.1 39 (16 * p + w) = -1 ∨ (M.1 39 (16 * p + w)).toInt = cstZ (M.1 2) p w
theorem lat_of {N : Nat} (hN : 100000 ≤ N) {M : Mm} {p w : Nat} (hn : NumB (M.1 2)) (hp : p < 256) (hw : w < 16) : ∃ M1 r M', f_X4_weigh N (nI p) (nI w) M = some (0, M1) ∧ f_X4_leastLater N M1 = some (r, M') ∧ M1.1 2 = M.1 2 ∧ Fr [40, 41, 42, 43, 44, 45, 46, 47, 48, 49] M M' ∧ Fr [40, 41, 42, 43, 44, 45, 46, 47] M M1 ∧ r.toInt = latZ (M.1 2) p w ∧ 0 ≤ r.toInt ∧ r.toInt ≤ 300000000 ∧ Fin (M.1 2) (spZ (M.1 2) p w) (lkZ (M.1 2) p w) r.toInt := by
  obtain ⟨M1, a1, a2, a3, a4, a5⟩ := weigh_e hN hn hp hw
  have e2 : M1.1 2 = M.1 2 := a2.1 2 (by simp)
  obtain ⟨r, M', b1, b2, b3, b4⟩ := least_e hN (M := M1) (p := p) (w := w) (by rw [e2]; exact hn) (by rw [e2]; exact a3) a4 (by rw [e2]; exact a5)
  rw [e2] at b3
  have hl := b3.lat hn (fun i _ => sl_nn i)
  refine ⟨M1, r, M', a1, b1, e2, (a2.mono (by simp)).tr (b2.mono (by simp)), a2, (latZ_eq hn hl).symm, hl.nonneg hn, b4, b3⟩
theorem of_e {N : Nat} (hN : 100000 ≤ N) {M : Mm} {p w : Nat} (hn : NumB (M.1 2)) (hp : p < 256) (hw : w < 16) (hc : CacheC M) :
    ∃ x M', f_X3_of N (nI p) (nI w) M = some (x, M') ∧ x.toInt = cstZ (M.1 2) p w ∧ Fr [38, 39, 40, 41, 42, 43, 44, 45, 46, 47, 48, 49] M M' ∧ M'.1 38 4 = M.1 38 4 ∧ CacheC M' := by
  -- the memory that the ask begins with
  have key : ∀ Ma : Mm, Fr [38, 39] M Ma → Ma.1 38 4 = M.1 38 4 → Ma.1 38 3 = 0 → CacheC Ma → ∃ x M', (if inb (nI (16 * p + w)) 4096 then
            (if (Ma.1 39 (ix (nI (16 * p + w)))) = (-1) then
              (bd (f_X4_weigh N (nI p) (nI w) Ma) fun r5 M6 =>
              (bd (f_X10_fare N (nI p) M6) fun r7 M8 =>
              (bd (f_X4_leastLater N  M8) fun r9 M10 =>
              (if inb (nI (16 * p + w)) 4096 then
              (lt' (wI M10 39 (ix (nI (16 * p + w))) (r7 + r9)) fun M11 =>
              (if inb (nI (16 * p + w)) 4096 then
              (some (M11.1 39 (ix (nI (16 * p + w))), M11)) else none)) else none))))
            else
              (if inb (nI (16 * p + w)) 4096 then
              (some (Ma.1 39 (ix (nI (16 * p + w))), Ma)) else none)) else none) = some (x, M') ∧ x.toInt = cstZ (M.1 2) p w ∧ Fr [38, 39, 40, 41, 42, 43, 44, 45, 46, 47, 48, 49] M M' ∧ M'.1 38 4 = M.1 38 4 ∧ CacheC M' := by
    intro Ma hF h4 h3 hca
    have e2 : Ma.1 2 = M.1 2 := hF.1 2 (by simp)
    simp (disch := omega) only [inb_n, ix_n, if_true]
    have hk := hca h3 p w hp hw
    by_cases hm : Ma.1 39 (16 * p + w) = -1
    · rw [if_pos hm]
      obtain ⟨M1, r, M', a1, a2, a3, a4, a5, a6, a7, a8, -⟩ := lat_of hN (M := Ma) (p := p) (w := w) (by rw [e2]; exact hn) hp hw
      obtain ⟨x, b1, b2⟩ := fare_e hN (M := M1) (p := p) (by rw [a3, e2]; exact hn) hp
      rw [bd_of a1, bd_of b1, bd_of a2]
      simp only [lt_eq]
      have bf := fare_b hn p 4 (by omega)
      have eb : x.toInt = fareZ (M.1 2) p := by rw [b2, a3, e2]
      have es : (x + r).toInt = cstZ (M.1 2) p w := by
        unfold fareZ at eb
        rw [i_add (by omega) (by omega), a6, e2]
        unfold cstZ fareZ
        omega
      have eg : (wI M' 39 (16 * p + w) (x + r)).1 39 (16 * p + w) = x + r := by simp [wI_g, upd_g]
      rw [eg]
      refine ⟨x + r, wI M' 39 (16 * p + w) (x + r), rfl, es, ((hF.mono (by simp)).tr (a4.mono (by simp))).wI (by simp), ?_, fun h0 p' w' hp' hw' => ?_⟩
      · rw [wI_g, if_neg (by omega), a4.1 38 (by simp)]; exact h4
      · have q2 : (wI M' 39 (16 * p + w) (x + r)).1 2 = M.1 2 := by rw [wI_g, if_neg (by omega), a4.1 2 (by simp), e2]
        rw [q2]
        by_cases e : 16 * p' + w' = 16 * p + w
        · have hpp : p' = p := by omega
          have hww : w' = w := by omega
          subst hpp; subst hww
          rw [eg]
          exact Or.inr es
        · have : (wI M' 39 (16 * p + w) (x + r)).1 39 (16 * p' + w') = Ma.1 39 (16 * p' + w') := by
            simp only [wI_g, if_true, upd_g]
            rw [if_neg e, a4.1 39 (by simp)]
          rw [this, ← e2]
          exact hca h3 p' w' hp' hw'
    · rw [if_neg hm]
      rcases hk with h | h
      · exact absurd h hm
      · exact ⟨_, Ma, rfl, by rw [h, e2], hF.mono (by simp), h4, hca⟩
  have em : nI p * 16 + nI w = nI (16 * p + w) := by rw [mul16, nI_add]
  unfold f_X3_of
  rw [if_neg (nI_pos (by omega)), if_pos (by rw [lt256 (by omega)]; exact hp), if_neg (nI_pos (by omega)), if_pos (by rw [lt16 (by omega)]; exact hw)]
  simp only [lt_eq]
  rw [em]
  by_cases h0 : M.1 38 3 = 0
  · rw [if_pos h0]
    exact key M (Fr.rf _ _) rfl h0 hc
  · rw [if_neg h0]
    obtain ⟨Mf, f1, f2, f3⟩ := filla hN M (-1)
    rw [bd_of f1]
    refine key (wI Mf 38 3 0) ((f2.mono (by simp)).wI (by simp)) ?_ ?_ ?_
    · simp [wI_g, upd_g, f2.1 38 (by simp)]
    · simp [wI_g, upd_g]
    · intro _ p' w' hp' hw'
      refine Or.inl ?_
      rw [wI_g, if_neg (by omega)]
      exact f3 _ (by omega)
