/-! the class: all takers, all turns -/
theorem St.fr {M M' : Mm} {nu : Nat → Int32} {ng nt : Nat} {TH : Nat → Nat} (h : St M nu ng nt TH) (hF : Fr [42, 44, 45, 47, 48, 49] M M') : St M' nu ng nt TH := by
  obtain ⟨a, b, c, d, e, f⟩ := h
  refine ⟨by rw [hF.1 2 (by simp)]; exact a, by rw [hF.1 40 (by simp)]; exact b, by rw [hF.1 40 (by simp)]; exact c, d, e, by rw [hF.1 43 (by simp)]; exact f⟩
theorem ways {N : Nat} (hN : 100000 ≤ N) {M : Mm} {nu : Nat → Int32} {ng nt t : Nat} {TH : Nat → Nat} (hSt : St M nu ng nt TH) (ht : t < nt) (x1 x3 : Int32) (G : Unit → Mm → Rs) :
    ∃ M', itr (B_X4_leastLater_33 N x1 (nI t) x3 G) N 0 M = G () M' ∧ Fr [48, 49] M M' ∧ ∀ k, k < t + 1 → WayP ng (zz nu 41) (vF M) (zz nu (6 * TH k + 3)) (vS M) (vH M) k (M'.1 48 k) (M'.1 49 k) := by
  obtain ⟨s2, s40, s44, hng, hnt, hth⟩ := hSt
  obtain ⟨s', M', rec, ⟨hs, hF, hv⟩, he⟩ := itr_go (B := B_X4_leastLater_33 N x1 (nI t) x3 G) (fun j s M' => s = nI j ∧ Fr [48, 49] M M' ∧ ∀ k, k < j → WayP ng (zz nu 41) (vF M) (zz nu (6 * TH k + 3)) (vS M) (vH M) k (M'.1 48 k) (M'.1 49 k)) (t + 1)
    (fun rec j s M1 hj ⟨hs, hF, hv⟩ => by
      subst hs
      have e2 : M1.1 2 = nu := by rw [hF.1 2 (by simp)]; exact s2
      have eF : vF M1 = vF M := by unfold vF; rw [hF.1 46 (by simp)]
      have eS : vS M1 = vS M := by unfold vS; rw [hF.1 42 (by simp)]
      have eH : vH M1 = vH M := by unfold vH; rw [hF.1 45 (by simp)]
      obtain ⟨h1, h2⟩ := hth j (by omega)
      obtain ⟨M2, a1, a2, a3, a4⟩ := fow hN (M := M1) (ng := ng) (t := j) (h := TH j) (by rw [hF.1 40 (by simp)]; exact s40) hng (by omega) h1 (by rw [hF.1 43 (by simp)]; exact h2)
      rw [e2, eF, eS, eH] at a4
      refine ⟨nI (j + 1), M2, ⟨rfl, hF.tr a2, fun k hk => ?_⟩, ?_⟩
      · by_cases e : k = j
        · subst e; exact a4
        · rw [(a3 k e).1, (a3 k e).2]
          exact hv k (by omega)
      · unfold B_X4_leastLater_33
        rw [if_neg (by rw [nlt (by omega) (by omega)]; omega), bd_of a1, nI_1]) N 0 0 M (by omega) (by omega) ⟨nI_0.symm, Fr.rf _ _, fun k h => absurd h (by omega)⟩
  subst hs
  refine ⟨M', ?_, hF, hv⟩
  rw [he]
  unfold B_X4_leastLater_33
  rw [if_pos (by rw [nlt (by omega) (by omega)]; omega)]
theorem stage {N : Nat} (hN : 100000 ≤ N) {M : Mm} {nu : Nat → Int32} {ng nt t : Nat} {TH : Nat → Nat} {c s l Zl : Nat → Int} {sum : Int32} (hn : NumB nu) (hSt : St M nu ng nt TH) (ht : t < nt) (hsz : t ≤ 1 ∨ ng ≤ 1) (hs : ∀ g, g < ng → 0 < s g ∧ s g ≤ 3000) (hc : ∀ k, k < nt → c k ≤ 999) (hf : ∀ g k, g < ng → k < nt → 0 ≤ vF M g k ∧ vF M g k ≤ 99)
    (hlk : (M.1 44 t).toInt ≤ 198) (hb : -300000 * (198 * (t : Int)) ≤ sum.toInt ∧ sum.toInt ≤ 300000 * (198 * (t : Int))) (hI : Inv ng nt t (zz nu 41) (vF M) (fun k => zz nu (6 * TH k + 3)) c s l (vS M) (vX M) (vH M) Zl (M.1 44 t).toInt sum.toInt) (G : Int32 → Mm → Rs) :
    ∃ sum' M' Zl', itr (B_X4_leastLater_14 N (nI t) G) N (sum, 0) M = G sum' M' ∧ Fr [42, 44, 45, 47, 48, 49] M M' ∧ (∀ k, k ≠ t → M'.1 44 k = M.1 44 k) ∧ (-300000 * (198 * ((t + 1 : Nat) : Int)) ≤ sum'.toInt ∧ sum'.toInt ≤ 300000 * (198 * ((t + 1 : Nat) : Int))) ∧ Inv ng nt t (zz nu 41) (vF M) (fun k => zz nu (6 * TH k + 3)) c s l (vS M') (vX M') (vH M') Zl' 0 sum'.toInt := by
  have t4 : t < 4 := by have := hSt.2.2.2.2.1; omega
  have hz : ∀ i, i < 43 → 0 ≤ zz nu i ∧ zz nu i ≤ 999 := hn.1
  refine itr_inv (B := B_X4_leastLater_14 N (nI t) G) (P := fun R => ∃ sum' M' Zl', R = G sum' M' ∧ Fr [42, 44, 45, 47, 48, 49] M M' ∧ (∀ k, k ≠ t → M'.1 44 k = M.1 44 k) ∧ (-300000 * (198 * ((t + 1 : Nat) : Int)) ≤ sum'.toInt ∧ sum'.toInt ≤ 300000 * (198 * ((t + 1 : Nat) : Int))) ∧ Inv ng nt t (zz nu 41) (vF M) (fun k => zz nu (6 * TH k + 3)) c s l (vS M') (vX M') (vH M') Zl' 0 sum'.toInt)
    (fun j st M' => ∃ sum' Zl', st = (sum', nI j) ∧ Fr [42, 44, 45, 47, 48, 49] M M' ∧ (∀ k, k ≠ t → M'.1 44 k = M.1 44 k) ∧ (M'.1 44 t).toInt ≤ 198 - j ∧ (-300000 * (198 * (t : Int) + j) ≤ sum'.toInt ∧ sum'.toInt ≤ 300000 * (198 * (t : Int) + j)) ∧ Inv ng nt t (zz nu 41) (vF M) (fun k => zz nu (6 * TH k + 3)) c s l (vS M') (vX M') (vH M') Zl' (M'.1 44 t).toInt sum'.toInt) 198 ?_ ?_ N 0 (sum, 0) M (by omega) (by omega) ⟨sum, Zl, by rw [nI_0], Fr.rf _ _, fun _ _ => rfl, by omega, by omega, hI⟩
  · intro rec j st M1 hj ⟨sum', Zl1, hst, hF, ho, hl, hb1, hI1⟩
    subst hst
    have hge : 0 ≤ (M1.1 44 t).toInt := hI1.2.2.2.2.2.2.1
    by_cases hpos : 0 < (M1.1 44 t).toInt
    · refine Or.inl ?_
      have hSt1 := hSt.fr hF
      obtain ⟨s2, s40, s44, hng, hnt, hth⟩ := hSt1
      have eF : vF M1 = vF M := by unfold vF; rw [hF.1 46 (by simp)]
      obtain ⟨M2, a1, a2, a3⟩ := ways hN (hSt.fr hF) ht sum' (nI j) (fun z3 M4 => (bd (f_X4_serve N (nI t) M4) fun r5 M6 => (lt' (sum' + r5) fun x7 => (rec (x7, nI j + 1) M6))))
      have eF2 : vF M2 = vF M := by rw [← eF]; unfold vF; rw [a2.1 46 (by simp)]
      have eS2 : vS M2 = vS M1 := by unfold vS; rw [a2.1 42 (by simp)]
      have eH2 : vH M2 = vH M1 := by unfold vH; rw [a2.1 45 (by simp)]
      have eX2 : vX M2 = vX M1 := by unfold vX; rw [a2.1 47 (by simp)]
      have e442 : M2.1 44 = M1.1 44 := a2.1 44 (by simp)
      have hW2 : ∀ k, k < t + 1 → WayP ng (zz nu 41) (vF M2) (zz nu (6 * TH k + 3)) (vS M2) (vH M2) k (M2.1 48 k) (M2.1 49 k) := by
        rw [eF2, eS2, eH2, ← eF]; exact a3
      have hFB : FB M2 ng nt (t + 1) := by
        refine ⟨by rw [eF2]; exact hf, fun k hk => ?_⟩
        obtain ⟨w1, w2, w3, w4⟩ := hW2 k hk
        have := hz 41 (by omega)
        have := hz (6 * TH k + 3) (by have := (hth k (by omega)).1; omega)
        have e : vP M2 k = (M2.1 48 k).toInt := rfl
        rcases w4 with ⟨-, h⟩ | ⟨-, -, h⟩ | ⟨g, h1, -, -, h⟩
        · omega
        · omega
        · have := hf g k h1 (by omega)
          rw [eF2] at h
          omega
      obtain ⟨M3, r, Zl', b1, b2, b3, b4, b5, b6, b7⟩ := turn hN (M := M2) (nu := nu) (ng := ng) (nt := nt) (t := t) (TH := TH) (d := fun k => zz nu (6 * TH k + 3)) (c := c) (s := s) (l := l) (Zl := Zl1) (C := sum'.toInt) ((hSt.fr hF).fr (a2.mono (by simp))) ht hsz hs hc (fun _ _ => rfl) hFB hW2 (by rw [e442]; exact hpos) (by rw [e442]; omega) (by rw [eF2, eS2, eX2, eH2, e442]; exact hI1)
      rw [e442] at b3
      have es : (sum' + r).toInt = sum'.toInt + r.toInt := i_add (by omega) (by omega)
      refine ⟨(sum' + r, nI (j + 1)), M3, ⟨_, Zl', rfl, (hF.tr (a2.mono (by simp))).tr (b6.mono (by simp)), fun k hk => ?_, by omega, by rw [es]; omega, ?_⟩, ?_⟩
      · rw [b7 k hk, e442]; exact ho k hk
      · rw [es]
        rw [eF2] at b2
        exact b2
      · unfold B_X4_leastLater_14
        simp (disch := omega) only [lt198, hj, if_true, inb_n, ix_n, zI, hpos]
        rw [a1, bd_of b1, lt_eq, nI_1]
    · refine Or.inr ?_
      have h0 : (M1.1 44 t).toInt = 0 := by omega
      rw [h0] at hI1
      refine ⟨sum', M1, Zl1, ?_, hF, ho, by omega, hI1⟩
      unfold B_X4_leastLater_14
      simp (disch := omega) only [lt198, hj, if_true, inb_n, ix_n, zI, hpos, if_false]
  · intro rec st M1 ⟨sum', Zl1, hst, hF, ho, hl, hb1, hI1⟩
    subst hst
    have hge : 0 ≤ (M1.1 44 t).toInt := hI1.2.2.2.2.2.2.1
    have h0 : (M1.1 44 t).toInt = 0 := by omega
    rw [h0] at hI1
    refine ⟨sum', M1, Zl1, ?_, hF, ho, by omega, hI1⟩
    unfold B_X4_leastLater_14
    simp (disch := omega) only [lt198, Nat.lt_irrefl, if_false]
