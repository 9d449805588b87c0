/-! a law is told -/
theorem lw_congr {tx tx' : Nat → Int32} {n : Nat} (h : ∀ i, pk tx n i = pk tx' n i) : ∀ f md dep i, lwS tx n f md dep i = lwS tx' n f md dep i := by
  intro f
  induction f with
  | zero => intro md dep i; rfl
  | succ f ih =>
    intro md dep i
    unfold lwS
    simp only [h, ih]
theorem pk_congr {tx tx' : Nat → Int32} {n : Nat} (h : ∀ i, i < n → tx i = tx' i) : ∀ i, pk tx n i = pk tx' n i := by
  intro i
  unfold pk
  split
  · rename_i hi; exact h i hi
  · rfl
theorem LawOk.congr {tx tx' : Nat → Int32} {sz mk : Int32} (h : ∀ i, i < 40 → tx i = tx' i) (H : LawOk tx sz mk) : LawOk tx' sz mk := by
  obtain ⟨n, v, h1, h2, h3, h4⟩ := H
  refine ⟨n, v, h1, h2, ?_, h4⟩
  rw [← h3]
  exact lw_congr (pk_congr (fun i hi => (h i (by omega)).symm)) _ _ _ _
section SLaw
variable {N : Nat} {M1 M2 : Mm}
/-- the end of a text's reading -/
theorem tend_f {tx : Nat → Int32} {n q : Nat} {M : Mm} (h : Tf tx n q M) (hq : q < 2 ^ 31) : f_X9_end N M = some (0, wI M 30 1 0) := by
  unfold f_X9_end
  rw [bd_of (fail_f h hq _)]
  simp only [lt_eq]
  split <;> rfl
theorem tend_x {tx : Nat → Int32} {n j : Nat} {M : Mm} (h : Tx tx n j M) (hn : n ≤ 40) (hj : j ≤ n) : f_X9_end N M = some (0, wI (if j = n then M else wI M 30 3 (nI j)) 30 1 0) := by
  unfold f_X9_end
  rw [h.2.2.1, h.2.1, bd_of (fail_e h _)]
  simp only [lt_eq]
  by_cases e : j = n
  · rw [if_pos e, if_neg (by rw [nlt (by omega) (by omega)]; omega)]
  · rw [if_neg e, if_pos (by rw [nlt (by omega) (by omega)]; omega)]
theorem tbeg {M : Mm} {n : Nat} (h : M.1 30 1 = nI n) : ∃ M', f_X9_begin N M = some (0, M') ∧ Tx (M.1 31) n 0 M' ∧ Fr [30] M M' := by
  refine ⟨_, rfl, ⟨?_, ?_, ?_, ?_⟩, ((Fr.rf _ _).wI (by simp)).wI (by simp)⟩
  · simp [wI_g]
  · simp [wI_g, upd_g, h]
  · simp [wI_g, upd_g]; rfl
  · simp [wI_g, upd_g]
/-- a text that is gone changes nothing else -/
theorem gone (H : Rel M1 M2) {Ma Mb : Mm} (F : Fr [30] M1 Ma) (h1 : Ma.1 30 1 = 0) (G : Fr [0, 10] M2 Mb) (hs : ∀ k, k ≠ 14 → k ≠ 16 → k ≠ 17 → Mb.1 0 k = M2.1 0 k) (h14 : Mb.1 0 14 = 0) : Rel Ma Mb := by
  obtain ⟨t, b, ⟨c1, c2, c3, c4⟩, d, e⟩ := H
  refine ⟨t.fr (F.on (by decide)) (G.on (by decide)) (hs 15 (by omega) (by omega) (by omega)) (hs 39 (by omega) (by omega) (by omega)), b.fr (by rw [F.1 0 (by decide)]) (F.on (by decide)) (G.on (by decide)) (hs 48 (by omega) (by omega) (by omega)) (hs 49 (by omega) (by omega) (by omega)) (hs 50 (by omega) (by omega) (by omega)), ⟨?_, ?_, ⟨0, by omega, by rw [h1]; rfl, by rw [h14]; rfl, fun i hi => by omega⟩, ?_⟩, d.fr (F.on (by decide)), e.fr (F.on (by decide)) (G.on (by decide)) (hs 2 (by omega) (by omega) (by omega))⟩
  · rw [F.1 33 (by decide), G.1 1 (by decide)]; exact c1
  · rw [F.1 1 (by decide), F.1 27 (by decide), F.1 28 (by decide), F.1 29 (by decide), hs 5 (by omega) (by omega) (by omega), G.1 3 (by decide), G.1 4 (by decide)]; exact c2
  · rw [F.1 0 (by decide), F.1 32 (by decide), hs 37 (by omega) (by omega) (by omega), G.1 23 (by decide)]; exact c4
/-- the text becomes a law: the reference's copy -/
theorem lcpy_e (hN : 100000 ≤ N) {M : Mm} {n k : Nat} (hn : n ≤ 40) (hk : k < 12) (h15 : M.1 0 15 = nI k) (G : Unit → Mm → Rs) : ∃ M', itr (B_X12_law_45 N (nI n) G) N 0 M = G () M' ∧ Fr [6] M M' ∧ (∀ i, i < n → M'.1 6 (40 * k + i) = M.1 5 i) ∧ ∀ i, i < 40 * k → M'.1 6 i = M.1 6 i := by
  obtain ⟨s', Ma, rec, ⟨hs, hF, hv, ho⟩, he⟩ := itr_go (B := B_X12_law_45 N (nI n) G) (fun j s M' => s = nI j ∧ Fr [6] M M' ∧ (∀ i, i < j → M'.1 6 (40 * k + i) = M.1 5 i) ∧ ∀ i, i < 40 * k → M'.1 6 i = M.1 6 i) n
    (fun rec j s Mx hj ⟨hs, hF, hv, ho⟩ => by
      subst hs
      unfold B_X12_law_45
      rw [if_pos (by rw [nlt (by omega) (by omega)]; exact hj), inb_n (by omega) (by omega), ix_n (by omega), hF.1 0 (by decide), h15, lmul40, nI_add, inb_n (by omega) (by omega), ix_n (by omega), if_pos rfl, if_pos rfl, lt_eq, nI_1, hF.1 5 (by decide)]
      refine ⟨_, _, ⟨rfl, hF.wI (by simp), fun i hi => ?_, fun i hi => ?_⟩, rfl⟩
      · rw [wI_g, if_pos rfl, upd_g]
        by_cases e : i = j
        · rw [if_pos (by omega), e]
        · rw [if_neg (by omega)]; exact hv i (by omega)
      · rw [wI_g, if_pos rfl, upd_ne (by omega)]; exact ho i hi) N 0 0 M (by omega) (by omega) ⟨nI_0.symm, Fr.rf _ _, fun i hi => by omega, fun _ _ => rfl⟩
  subst hs
  rw [he]
  unfold B_X12_law_45
  rw [if_neg (by rw [nlt (by omega) (by omega)]; omega)]
  exact ⟨Ma, rfl, hF, hv, ho⟩
theorem step_law (hN : 100000 ≤ N) (H : Rel M1 M2) : Ans (f_X11_law N M1) (f_X12_law N M2) := by
  have H0 := H
  obtain ⟨⟨tn, ⟨nl, l1, l2, l3, l4, l5⟩, r, y⟩, b, ⟨c1, c2, ⟨n, t1, t2, t3, t4⟩, c4⟩, d, e⟩ := H
  unfold f_X11_law f_X12_law
  rw [l2, l3]
  by_cases h12 : nl < 12
  · rw [if_pos (show nI nl < 12 by rw [lt12 (by omega)]; exact h12), if_neg (show ¬ nI nl = 12 by rw [eq12 (by omega)]; omega)]
    obtain ⟨Mp, p1, p2, p3⟩ := tbeg (N := N) t2
    obtain ⟨x, Mq, q1, q2, q3⟩ := (law_r hN t1 200).2.2.1 20 0 0 Mp (by omega) (by omega) (by omega) (by omega) p2
    have q1' : (gr_laws N 20).1 0 Mp = some (x, Mq) := q1
    have hb := lw_b (tx := M1.1 31) (n := n) 200 2 0 0 (by omega)
    have ec : lwS (M2.1 5) n 200 2 0 0 = lwS (M1.1 31) n 200 2 0 0 := lw_congr (pk_congr (fun i hi => (t4 i hi).1.symm)) _ _ _ _
    have hm := isl_e (tx := M2.1 5) hN t1 t3 rfl (fun i hi => (t4 i hi).2.1)
    rw [ec] at hm
    have FQ : Fr [30] M1 Mq := p3.tr q2
    unfold f_X5_worldsOf
    rw [bd_of p1, bd_of q1']
    split at q3
    · -- it fails as it is read
      rename_i q he
      rw [he] at hm
      obtain ⟨Mm', m1, m2⟩ := hm
      have hq := hb.1 q he
      rw [bd_of (tend_f q3 (by omega)), bd_s, bd_of m1]
      simp only [lt_eq]
      have e3 : (wI Mq 30 1 0).1 30 3 = nI q := by rw [← q3.2.2]; simp [wI_g, upd_g]
      have e16 : (wI Mm' 0 14 0).1 0 16 = nI q := by rw [← m2.2.2]; simp [wI_g, upd_g]
      rw [e3, e16, if_neg (nI_pos (by omega)), if_pos trivial]
      refine ⟨_, _, _, rfl, rfl, gone H0 (FQ.wI (by simp)) (by simp [wI_g, upd_g]) (m2.1.wI (by simp)) (fun k k1 k2 k3 => ?_) (by simp [wI_g, upd_g])⟩
      rw [← m2.2.1 k k2 k3]; simp [wI_g, upd_g, k1]
    · rename_i j v he
      rw [he] at hm
      obtain ⟨Mm', m1, m2⟩ := hm
      have hj := hb.2 j v he
      rw [bd_of (tend_x q3.1 t1 hj.2.1), bd_s, bd_of m1]
      simp only [lt_eq]
      by_cases hjn : j = n
      · rw [if_pos hjn, if_pos hjn, if_neg (show ¬ (1 : Int32) = 0 by decide)]
        subst hjn
        have e3 : (wI Mq 30 1 0).1 30 3 = -1 := by rw [← q3.1.2.2.2]; simp [wI_g, upd_g]
        rw [e3, if_pos (by decide)]
        -- the class keeps its worlds
        have FA : Fr [30] M1 (wI Mq 30 1 0) := FQ.wI (by simp)
        generalize hMa : wI Mq 30 1 0 = Ma at FA
        have a1 : Ma.1 30 1 = 0 := by rw [← hMa]; simp [wI_g, upd_g]
        have eA : f_X10_addLaw N x Ma = some (nI nl, wI (wI (wI Ma 3 nl x) 1 3 (M1.1 1 3 ||| (1 : Int32) <<< (nI nl &&& 31))) 1 2 (nI (nl + 1))) := by
          unfold f_X10_addLaw
          have z1 : Ma.1 1 = M1.1 1 := FA.1 1 (by decide)
          have z2 : ∀ i, (wI Ma 3 nl x).1 1 i = M1.1 1 i := fun i => by rw [wI_g, if_neg (by omega), z1]
          rw [z1, l2, if_pos (show nI nl < 12 by rw [lt12 (by omega)]; exact h12), inb_n (by omega) (by omega), ix_n (by omega), if_pos rfl]
          simp only [lt_eq]
          rw [z2, z2, l2]
          have z3 : (wI (wI Ma 3 nl x) 1 3 (M1.1 1 3 ||| (1 : Int32) <<< (nI nl &&& 31))).1 1 2 = nI nl := by rw [← l2, ← z2 2]; simp [wI_g, upd_g]
          rw [z3, nI_1]
          have z4 : (wI (wI (wI Ma 3 nl x) 1 3 (M1.1 1 3 ||| (1 : Int32) <<< (nI nl &&& 31))) 1 2 (nI (nl + 1))).1 1 2 = nI (nl + 1) := by simp [wI_g, upd_g]
          rw [z4, dec1]
        rw [bd_of eA]
        -- the reference keeps its text
        have e14 : Mm'.1 0 14 = nI j := by rw [m2.2.1 14 (by omega) (by omega)]; exact t3
        have e15 : (wI Mm' 0 14 0).1 0 15 = nI nl := by
          rw [← l3, ← m2.2.1 15 (by omega) (by omega)]; simp [wI_g, upd_g]
        rw [e14]
        obtain ⟨Mc, k1, k2, k3, k4⟩ := lcpy_e hN t1 h12 e15 (fun _ M6 => if inb (M6.1 0 15) 12 = true then (if inb ((wI M6 7 (ix (M6.1 0 15)) (nI j)).1 0 15) 12 = true then some ((wI (wI (wI (wI M6 7 (ix (M6.1 0 15)) (nI j)) 11 (ix ((wI M6 7 (ix (M6.1 0 15)) (nI j)).1 0 15)) (zn 0)) 0 15 ((wI (wI M6 7 (ix (M6.1 0 15)) (nI j)) 11 (ix ((wI M6 7 (ix (M6.1 0 15)) (nI j)).1 0 15)) (zn 0)).1 0 15 + 1)) 0 2 0).1 0 15 - 1, wI (wI (wI (wI M6 7 (ix (M6.1 0 15)) (nI j)) 11 (ix ((wI M6 7 (ix (M6.1 0 15)) (nI j)).1 0 15)) (zn 0)) 0 15 ((wI (wI M6 7 (ix (M6.1 0 15)) (nI j)) 11 (ix ((wI M6 7 (ix (M6.1 0 15)) (nI j)).1 0 15)) (zn 0)).1 0 15 + 1)) 0 2 0) else none) else none)
        refine (?_ : Ans _ (itr (B_X12_law_45 N (nI j) (fun _ M6 => if inb (M6.1 0 15) 12 = true then (if inb ((wI M6 7 (ix (M6.1 0 15)) (nI j)).1 0 15) 12 = true then some ((wI (wI (wI (wI M6 7 (ix (M6.1 0 15)) (nI j)) 11 (ix ((wI M6 7 (ix (M6.1 0 15)) (nI j)).1 0 15)) (zn 0)) 0 15 ((wI (wI M6 7 (ix (M6.1 0 15)) (nI j)) 11 (ix ((wI M6 7 (ix (M6.1 0 15)) (nI j)).1 0 15)) (zn 0)).1 0 15 + 1)) 0 2 0).1 0 15 - 1, wI (wI (wI (wI M6 7 (ix (M6.1 0 15)) (nI j)) 11 (ix ((wI M6 7 (ix (M6.1 0 15)) (nI j)).1 0 15)) (zn 0)) 0 15 ((wI (wI M6 7 (ix (M6.1 0 15)) (nI j)) 11 (ix ((wI M6 7 (ix (M6.1 0 15)) (nI j)).1 0 15)) (zn 0)).1 0 15 + 1)) 0 2 0) else none) else none)) N 0 (wI Mm' 0 14 0)))
        rw [k1]
        have f15 : Mc.1 0 15 = nI nl := by rw [k2.1 0 (by decide)]; exact e15
        have g15 : ∀ v, (wI Mc 7 nl v).1 0 15 = nI nl := fun v => by rw [wI_g, if_neg (by omega)]; exact f15
        have h15 : ∀ v u, (wI (wI Mc 7 nl v) 11 nl u).1 0 15 = nI nl := fun v u => by rw [wI_g, if_neg (by omega)]; exact g15 v
        simp only [f15, inb_n (show nl < 12 from h12) (by omega), ix_n (show nl < 2 ^ 31 by omega), g15, if_true, h15, nI_1, zn_0]
        have i15 : (wI (wI (wI (wI Mc 7 nl (nI j)) 11 nl 0) 0 15 (nI (nl + 1))) 0 2 0).1 0 15 = nI (nl + 1) := by simp [wI_g, upd_g]
        rw [i15, dec1]
        -- what is now where
        have GB : Fr [0, 6, 7, 10, 11] M2 (wI (wI (wI (wI Mc 7 nl (nI j)) 11 nl 0) 0 15 (nI (nl + 1))) 0 2 0) := ((((((m2.1.mono (by simp)).wI (by simp)).tr (k2.mono (by simp))).wI (by simp)).wI (by simp)).wI (by simp)).wI (by simp)
        have FB : Fr [1, 3, 30] M1 (wI (wI (wI Ma 3 nl x) 1 3 (M1.1 1 3 ||| (1 : Int32) <<< (nI nl &&& 31))) 1 2 (nI (nl + 1))) := (((FA.mono (by simp)).wI (by simp)).wI (by simp)).wI (by simp)
        have s0 : ∀ k, k ≠ 2 → k ≠ 14 → k ≠ 15 → k ≠ 16 → k ≠ 17 → (wI (wI (wI (wI Mc 7 nl (nI j)) 11 nl 0) 0 15 (nI (nl + 1))) 0 2 0).1 0 k = M2.1 0 k := fun k z1 z2 z3 z4 z5 => by
          have : Mc.1 0 k = M2.1 0 k := by rw [k2.1 0 (by decide), ← m2.2.1 k z4 z5]; simp [wI_g, upd_g, z2]
          rw [← this]; simp [wI_g, upd_g, z1, z3]
        have v14 : (wI (wI (wI (wI Mc 7 nl (nI j)) 11 nl 0) 0 15 (nI (nl + 1))) 0 2 0).1 0 14 = 0 := by
          have : Mc.1 0 14 = 0 := by rw [k2.1 0 (by decide)]; simp [wI_g, upd_g]
          rw [← this]; simp [wI_g, upd_g]
        have v2 : (wI (wI (wI (wI Mc 7 nl (nI j)) 11 nl 0) 0 15 (nI (nl + 1))) 0 2 0).1 0 2 = 0 := by simp [wI_g, upd_g]
        have v7 : (wI (wI (wI (wI Mc 7 nl (nI j)) 11 nl 0) 0 15 (nI (nl + 1))) 0 2 0).1 7 = upd (M2.1 7) nl (nI j) := by
          have : Mc.1 7 = M2.1 7 := by rw [k2.1 7 (by decide), ← m2.1.1 7 (by decide)]; simp [wI_g]
          rw [← this]; simp [wI_g]
        have v11 : (wI (wI (wI (wI Mc 7 nl (nI j)) 11 nl 0) 0 15 (nI (nl + 1))) 0 2 0).1 11 = upd (M2.1 11) nl 0 := by
          have : Mc.1 11 = M2.1 11 := by rw [k2.1 11 (by decide), ← m2.1.1 11 (by decide)]; simp [wI_g]
          rw [← this]; simp [wI_g]
        have v6 : (wI (wI (wI (wI Mc 7 nl (nI j)) 11 nl 0) 0 15 (nI (nl + 1))) 0 2 0).1 6 = Mc.1 6 := by simp [wI_g]
        have u3 : (wI (wI (wI Ma 3 nl x) 1 3 (M1.1 1 3 ||| (1 : Int32) <<< (nI nl &&& 31))) 1 2 (nI (nl + 1))).1 3 = upd (M1.1 3) nl x := by
          have : Ma.1 3 = M1.1 3 := FA.1 3 (by decide)
          rw [← this]; simp [wI_g]
        have u12 : (wI (wI (wI Ma 3 nl x) 1 3 (M1.1 1 3 ||| (1 : Int32) <<< (nI nl &&& 31))) 1 2 (nI (nl + 1))).1 1 2 = nI (nl + 1) := by simp [wI_g, upd_g]
        have u13 : (wI (wI (wI Ma 3 nl x) 1 3 (M1.1 1 3 ||| (1 : Int32) <<< (nI nl &&& 31))) 1 2 (nI (nl + 1))).1 1 3 = M1.1 1 3 ||| (1 : Int32) <<< (nI nl &&& 31) := by simp [wI_g, upd_g]
        have u1 : ∀ k, k ≠ 2 → k ≠ 3 → (wI (wI (wI Ma 3 nl x) 1 3 (M1.1 1 3 ||| (1 : Int32) <<< (nI nl &&& 31))) 1 2 (nI (nl + 1))).1 1 k = M1.1 1 k := fun k z1 z2 => by
          have : Ma.1 1 = M1.1 1 := FA.1 1 (by decide)
          rw [← this]; simp [wI_g, upd_g, z1, z2]
        have u30 : (wI (wI (wI Ma 3 nl x) 1 3 (M1.1 1 3 ||| (1 : Int32) <<< (nI nl &&& 31))) 1 2 (nI (nl + 1))).1 30 1 = 0 := by rw [← a1]; simp [wI_g]
        generalize hME : wI (wI (wI (wI Mc 7 nl (nI j)) 11 nl 0) 0 15 (nI (nl + 1))) 0 2 0 = ME at *
        generalize hMF : wI (wI (wI Ma 3 nl x) 1 3 (M1.1 1 3 ||| (1 : Int32) <<< (nI nl &&& 31))) 1 2 (nI (nl + 1)) = MF at *
        have m6 : ∀ i, i < 40 * nl → Mc.1 6 i = M2.1 6 i := fun i hi => by
          rw [k4 i hi, ← m2.1.1 6 (by decide)]; simp [wI_g]
        have m5 : ∀ i, i < j → Mc.1 6 (40 * nl + i) = M2.1 5 i := fun i hi => by
          rw [k3 i hi, ← m2.1.1 5 (by decide)]; simp [wI_g]
        refine ⟨nI nl, MF, ME, rfl, rfl, ⟨?_, ⟨nl + 1, by omega, u12, i15, fun i hi => ?_, fun k hk => ?_⟩, r.fr (fun k hk => ⟨FB.1 _ (by simp; omega), FB.1 _ (by simp; omega)⟩) |> fun q => ?_, ?_⟩, b.fr (by rw [FB.1 0 (by decide)]) (FB.on (by decide)) (GB.on (by decide)) (s0 48 (by omega) (by omega) (by omega) (by omega) (by omega)) (s0 49 (by omega) (by omega) (by omega) (by omega) (by omega)) (s0 50 (by omega) (by omega) (by omega) (by omega) (by omega)), ⟨?_, ?_, ⟨0, by omega, by rw [u30]; rfl, by rw [v14]; rfl, fun i hi => by omega⟩, ?_⟩, d.fr (FB.on (by decide)), Or.inl v2⟩
        · rw [u1 0 (by omega) (by omega), FB.1 2 (by decide), GB.1 2 (by decide)]; exact tn
        · rw [u13, or_bit (by omega), l4 i (by omega)]; simp; omega
        · rw [u13, or_bit (by omega), v11, v7, v6, u3]
          by_cases hkn : k = nl
          · subst hkn
            rw [upd_at, upd_at, upd_at]
            refine ⟨by simp [b01], j, v, t1, rfl, ?_, q3.2⟩
            rw [← he]
            refine lw_congr (pk_congr (fun i hi => ?_)) _ _ _ _
            show Mc.1 6 (40 * k + i) = _
            rw [m5 i hi]; exact (t4 i hi).1.symm
          · rw [upd_ne hkn, upd_ne hkn, upd_ne hkn]
            have := l5 k (by omega)
            refine ⟨by rw [this.1]; simp [hkn], this.2.congr (fun i hi => ?_)⟩
            show M2.1 6 (40 * k + i) = Mc.1 6 (40 * k + i)
            exact (m6 _ (by omega)).symm
        · rw [GB.1 12 (by decide), GB.1 8 (by decide), GB.1 9 (by decide)]; exact q
        · rw [u1 0 (by omega) (by omega), u1 6 (by omega) (by omega), FB.1 13 (by decide), s0 39 (by omega) (by omega) (by omega) (by omega) (by omega), GB.1 24 (by decide)]; exact y
        · rw [FB.1 33 (by decide), GB.1 1 (by decide)]; exact c1
        · rw [u1 0 (by omega) (by omega), FB.1 27 (by decide), FB.1 28 (by decide), FB.1 29 (by decide), s0 5 (by omega) (by omega) (by omega) (by omega) (by omega), GB.1 3 (by decide), GB.1 4 (by decide)]; exact c2
        · rw [FB.1 0 (by decide), FB.1 32 (by decide), s0 37 (by omega) (by omega) (by omega) (by omega) (by omega), GB.1 23 (by decide)]; exact c4
      · rw [if_neg hjn, if_neg hjn, if_pos rfl]
        have e3 : (wI (wI Mq 30 3 (nI j)) 30 1 0).1 30 3 = nI j := by simp [wI_g, upd_g]
        have e16 : (wI Mm' 0 14 0).1 0 16 = nI j := by rw [← m2.2.2]; simp [wI_g, upd_g]
        rw [e3, e16, if_neg (nI_pos (by omega))]
        refine ⟨_, _, _, rfl, rfl, gone H0 ((FQ.wI (by simp)).wI (by simp)) (by simp [wI_g, upd_g]) (m2.1.wI (by simp)) (fun k k1 k2 k3 => ?_) (by simp [wI_g, upd_g])⟩
        rw [← m2.2.1 k k2 k3]; simp [wI_g, upd_g, k1]
  · rw [if_neg (show ¬ nI nl < 12 by rw [lt12 (by omega)]; exact h12), if_pos (show nI nl = 12 by rw [eq12 (by omega)]; omega)]
    exact ref6 H0
end SLaw
