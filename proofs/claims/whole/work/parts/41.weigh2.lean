theorem weigh2 {N : Nat} (hN : 100000 ≤ N) {M : Mm} {ng nt g : Nat} (hng : ng ≤ 4) (hnt : nt ≤ 4) (hg : g < ng) (e4 : M.1 40 4 = nI nt) (gh : ∀ g, g < ng → ∃ i, i < 4 ∧ M.1 41 g = nI i) (th : ∀ k, k < nt → ∃ i, i < 4 ∧ M.1 43 k = nI i) (G : Unit → Mm → Rs) :
    ∃ M', itr (B_X4_weigh_155 N (nI g) G) N 0 M = G () M' ∧ Fr [46] M M' ∧ (∀ i, i < 4 * g → M'.1 46 i = M.1 46 i) ∧ ∀ k, k < nt → M'.1 46 (4 * g + k) = M.1 2 (ix ((24 + M.1 41 g * 4) + M.1 43 k)) := by
  obtain ⟨s', M', rec, ⟨hs, hF, ho, hv⟩, he⟩ := itr_go (B := B_X4_weigh_155 N (nI g) G) (fun j s M' => s = nI j ∧ Fr [46] M M' ∧ (∀ i, i < 4 * g → M'.1 46 i = M.1 46 i) ∧ ∀ k, k < j → M'.1 46 (4 * g + k) = M.1 2 (ix ((24 + M.1 41 g * 4) + M.1 43 k))) nt
    (fun rec j s M1 hj ⟨hs, hF, ho, hv⟩ => by
      subst hs
      have e2 : M1.1 2 = M.1 2 := hF.1 2 (by simp)
      have e40 : M1.1 40 = M.1 40 := hF.1 40 (by simp)
      have e41 : M1.1 41 = M.1 41 := hF.1 41 (by simp)
      have e43 : M1.1 43 = M.1 43 := hF.1 43 (by simp)
      obtain ⟨a, ha, hga⟩ := gh g hg
      obtain ⟨b, hb, htb⟩ := th j hj
      refine ⟨nI (j + 1), wI M1 46 (4 * g + j) (M.1 2 (ix ((24 + M.1 41 g * 4) + M.1 43 j))), ⟨rfl, hF.wI (by simp), fun i hi => ?_, fun k hk => ?_⟩, ?_⟩
      · simp only [wI_g, if_true, upd_g]
        rw [if_neg (by omega)]
        exact ho i hi
      · simp only [wI_g, if_true, upd_g]
        by_cases e : k = j
        · subst e; simp
        · rw [if_neg (by omega)]
          exact hv k (by omega)
      · unfold B_X4_weigh_155
        rw [e40, e4, e41, e43, e2]
        simp (disch := omega) only [nlt, hj, if_true, inb_n, ix_n, hga, htb, mul4, ladd24, nI_add, lt_eq, nI_1]) N 0 0 M (by omega) (by omega) ⟨nI_0.symm, Fr.rf _ _, fun _ _ => rfl, fun i h => absurd h (by omega)⟩
  subst hs
  refine ⟨M', ?_, hF, ho, hv⟩
  rw [he]
  have e40 : M'.1 40 = M.1 40 := hF.1 40 (by simp)
  unfold B_X4_weigh_155
  rw [e40, e4]
  simp (disch := omega) only [nlt, Nat.lt_irrefl, if_false]
theorem weigh3 {N : Nat} (hN : 100000 ≤ N) {M : Mm} {ng nt : Nat} (hng : ng ≤ 4) (hnt : nt ≤ 4) (e1 : M.1 40 1 = nI ng) (e4 : M.1 40 4 = nI nt) (gh : ∀ g, g < ng → ∃ i, i < 4 ∧ M.1 41 g = nI i) (th : ∀ k, k < nt → ∃ i, i < 4 ∧ M.1 43 k = nI i) (G : Unit → Mm → Rs) :
    ∃ M', itr (B_X4_weigh_144 N G) N 0 M = G () M' ∧ Fr [46] M M' ∧ ∀ g k, g < ng → k < nt → M'.1 46 (4 * g + k) = M.1 2 (ix ((24 + M.1 41 g * 4) + M.1 43 k)) := by
  obtain ⟨s', M', rec, ⟨hs, hF, hv⟩, he⟩ := itr_go (B := B_X4_weigh_144 N G) (fun j s M' => s = nI j ∧ Fr [46] M M' ∧ ∀ g k, g < j → k < nt → M'.1 46 (4 * g + k) = M.1 2 (ix ((24 + M.1 41 g * 4) + M.1 43 k))) ng
    (fun rec j s M1 hj ⟨hs, hF, hv⟩ => by
      subst hs
      have e2 : M1.1 2 = M.1 2 := hF.1 2 (by simp)
      have e40 : M1.1 40 = M.1 40 := hF.1 40 (by simp)
      have e41 : M1.1 41 = M.1 41 := hF.1 41 (by simp)
      have e43 : M1.1 43 = M.1 43 := hF.1 43 (by simp)
      obtain ⟨M2, q1, q2, q3, q4⟩ := weigh2 hN (M := M1) hng hnt hj (by rw [e40]; exact e4) (by rw [e41]; exact gh) (by rw [e43]; exact th) (fun _ M18 => rec (nI j + 1) M18)
      refine ⟨nI (j + 1), M2, ⟨rfl, hF.tr q2, fun g k hg hk => ?_⟩, ?_⟩
      · by_cases e : g = j
        · subst e
          rw [q4 k hk, e2, e41, e43]
        · rw [q3 _ (by omega)]
          exact hv g k (by omega) hk
      · unfold B_X4_weigh_144
        rw [e40, e1]
        simp (disch := omega) only [nlt, hj, if_true]
        rw [q1, nI_1]) N 0 0 M (by omega) (by omega) ⟨nI_0.symm, Fr.rf _ _, fun g k h => absurd h (by omega)⟩
  subst hs
  refine ⟨M', ?_, hF, hv⟩
  rw [he]
  have e40 : M'.1 40 = M.1 40 := hF.1 40 (by simp)
  unfold B_X4_weigh_144
  rw [e40, e1]
  simp (disch := omega) only [nlt, Nat.lt_irrefl, if_false]
/-- weighed: the rows as they stand before the first turn -/
theorem weigh_e {N : Nat} (hN : 100000 ≤ N) {M : Mm} {p w : Nat} (hn : NumB (M.1 2)) (hp : p < 256) (hw : w < 16) : ∃ M', f_X4_weigh N (nI p) (nI w) M = some (0, M') ∧ Fr [40, 41, 42, 43, 44, 45, 46, 47] M M' ∧ Wd (M.1 2) (spZ (M.1 2) p w) (lkZ (M.1 2) p w) 4 M' ∧ (∀ i, i < 16 → M'.1 47 i = 0) ∧ ∀ i j, i < 4 → j < 4 → 0 < spZ (M.1 2) p w i → 0 < lkZ (M.1 2) p w j → M'.1 46 (4 * rk (isG (spZ (M.1 2) p w)) i + rk (isG (lkZ (M.1 2) p w)) j) = M.1 2 (24 + 4 * i + j) := by
  obtain ⟨Ma, a1, a2, a3⟩ := fillb hN (wI (wI M 40 1 0) 40 4 0) 0
  have ea : ∀ b, b ≠ 47 → Ma.1 b = (wI (wI M 40 1 0) 40 4 0).1 b := fun b hb => a2.1 b (by simpa using hb)
  have ea2 : Ma.1 2 = M.1 2 := by rw [ea 2 (by omega)]; simp [wI_g]
  obtain ⟨Mb, b1, b2, b3⟩ := weigh1 hN (M := Ma) (p := p) (w := w) (by rw [ea2]; exact hn) hp hw (by rw [ea 40 (by omega)]; simp [wI_g, upd_g]) (by rw [ea 40 (by omega)]; simp [wI_g, upd_g]) (fun _ M15 => itr (B_X4_weigh_144 N fun _ M20 => some (0, M20)) N 0 M15)
  rw [ea2] at b3
  have gh : ∀ g, g < rk (isG (spZ (M.1 2) p w)) 4 → ∃ i, i < 4 ∧ Mb.1 41 g = nI i := by
    intro g hg
    obtain ⟨j, j1, j2, j3⟩ := rk_inv hg
    have := (b3.2.2.1 j j1 (by unfold isG at j2; simpa using j2)).1
    rw [j3] at this
    exact ⟨j, j1, this⟩
  have th : ∀ g, g < rk (isG (lkZ (M.1 2) p w)) 4 → ∃ i, i < 4 ∧ Mb.1 43 g = nI i := by
    intro g hg
    obtain ⟨j, j1, j2, j3⟩ := rk_inv hg
    have := (b3.2.2.2 j j1 (by unfold isG at j2; simpa using j2)).1
    rw [j3] at this
    exact ⟨j, j1, this⟩
  obtain ⟨Mc, c1, c2, c3⟩ := weigh3 hN (M := Mb) (rk_le 4) (rk_le 4) b3.1 b3.2.1 gh th (fun _ M20 => some (0, M20))
  have eb2 : Mb.1 2 = M.1 2 := by rw [b2.1 2 (by simp), ea2]
  refine ⟨Mc, ?_, ?_, ?_, fun i hi => ?_, fun i j hi hj hsi hlj => ?_⟩
  · unfold f_X4_weigh
    simp only [lt_eq]
    rw [bd_of a1, b1, c1]
  · have f1 : Fr [40, 41, 42, 43, 44, 45, 46, 47] M (wI (wI M 40 1 0) 40 4 0) := ((Fr.rf _ M).wI (by simp)).wI (by simp)
    exact ((f1.tr (a2.mono (by simp))).tr (b2.mono (by simp))).tr (c2.mono (by simp))
  · obtain ⟨w1, w2, w3, w4⟩ := b3
    have c40 : Mc.1 40 = Mb.1 40 := c2.1 40 (by simp)
    have c41 : Mc.1 41 = Mb.1 41 := c2.1 41 (by simp)
    have c42 : Mc.1 42 = Mb.1 42 := c2.1 42 (by simp)
    have c43 : Mc.1 43 = Mb.1 43 := c2.1 43 (by simp)
    have c44 : Mc.1 44 = Mb.1 44 := c2.1 44 (by simp)
    have c45 : Mc.1 45 = Mb.1 45 := c2.1 45 (by simp)
    unfold Wd
    rw [c40, c41, c42, c43, c44, c45]
    exact ⟨w1, w2, w3, w4⟩
  · have : Mc.1 47 = Ma.1 47 := by rw [c2.1 47 (by simp), b2.1 47 (by simp)]
    rw [this]
    exact a3 i hi
  · rw [c3 _ _ (rk_lt (isG_t hsi) hi) (rk_lt (isG_t hlj) hj), (b3.2.2.1 i hi hsi).1, (b3.2.2.2 j hj hlj).1, eb2, mul4, ladd24, nI_add, ix_n (by omega)]
