/-! the class's LATER is what is least -/
theorem inv_first2 {ng nt : Nat} {la : Int} {F : Nat → Nat → Int} {d c s l S : Nat → Int} {X : Nat → Nat → Int} {H : Nat → Int} (h0 : 0 < nt) (hs : ∀ g, g < ng → 0 ≤ s g ∧ S g = s g) (hX : ∀ g k, g < ng → k < nt → X g k = 0) (hc : ∀ k, k < nt → 0 ≤ c k ∧ H k = c k) (hl : 0 ≤ l 0) : Inv ng nt 0 la F d c s l S X H (fun _ => 0) (l 0) 0 := by
  obtain ⟨v, v1, v2, v3⟩ := low (fun g => F g 0) la (d 0) ng
  refine ⟨⟨fun _ => 0, fun _ => v, fun g hg => ⟨Int.le_refl _, fun _ => rfl⟩, fun k hk => ?_, fun g k hg hk => ?_⟩, fun g hg => ⟨by have := hs g hg; omega, ?_⟩, fun g k hg hk => by rw [hX g k hg hk]; exact Int.le_refl _, fun k hk => by have := hc k hk; dsimp only; omega, fun k hk => absurd hk (by omega), ?_, hl, fun k a b => ⟨(hc k b).2, rfl, fun g hg => hX g k hg b⟩, ?_⟩
  · have : k = 0 := by omega
    subst this
    have := hc 0 h0
    dsimp only
    exact ⟨v1, fun z => absurd z (by omega), fun _ => v2, fun z => absurd z (by omega)⟩
  · have : k = 0 := by omega
    subst this
    dsimp only
    exact ⟨by have := v3 g hg; omega, fun z => absurd z (by rw [hX g 0 hg h0]; omega)⟩
  · rw [sm_zero (fun j hj => hX g j hg hj)]
    have := hs g hg
    omega
  · unfold got
    rw [sm_zero (fun g hg => hX g 0 hg h0)]
    have := hc 0 h0
    dsimp only
    omega
  · unfold cF
    rw [sm_zero]
    intro k hk
    rw [sm_zero (fun g hg => by rw [hX g k hg hk]; simp), (hc k hk).2]
    simp
/-- a flow that serves all, and prices that bear it -/
def Fin (nu : Nat → Int32) (sp lk : Nat → Int) (v : Int) : Prop := ∃ F d c s l S X H Zl, Rows nu sp lk F d c s l ∧ (∃ p u, Fea (rk (isG sp) 4) (rk (isG lk) 4) (zz nu 41) F d c S X H Zl p u) ∧ (∀ g, g < rk (isG sp) 4 → 0 < s g ∧ 0 ≤ S g ∧ S g + sm (rk (isG lk) 4) (X g) = s g) ∧ (∀ g k, g < rk (isG sp) 4 → k < rk (isG lk) 4 → 0 ≤ X g k) ∧ (∀ k, k < rk (isG lk) 4 → 0 ≤ H k ∧ H k ≤ c k ∧ 0 ≤ Zl k) ∧ (∀ k, k < rk (isG lk) 4 → got (rk (isG sp) 4) c X H Zl k = l k) ∧ v = cF (rk (isG sp) 4) (rk (isG lk) 4) (zz nu 41) F d c X H Zl
theorem Fin.lat {nu : Nat → Int32} {sp lk : Nat → Int} {v : Int} (hn : NumB nu) (h0 : ∀ i, i < 4 → 0 ≤ sp i ∧ 0 ≤ lk i) (h : Fin nu sp lk v) : IsLat nu sp lk v := by
  obtain ⟨F, d, c, s, l, S, X, H, Zl, hR, ⟨p, u, hf⟩, i2, i3, i4, i5, rfl⟩ := h
  obtain ⟨a1, a2, a3, a4⟩ := br_end hn h0 hR hf (fun g hg => (i2 g hg).2) i3 i4 i5
  exact ⟨_, _, _, a1, a2, _, a4, a3⟩
theorem sl_sum {nu : Nat → Int32} {p w : Nat} : rk (isG (spZ nu p w)) 4 + rk (isG (lkZ nu p w)) 4 ≤ 4 := by
  have key : ∀ n, rk (isG (spZ nu p w)) n + rk (isG (lkZ nu p w)) n ≤ n := by
    intro n
    induction n with
    | zero => exact Nat.le_refl _
    | succ n ih =>
      rw [rk_s, rk_s]
      by_cases h : 0 < balZ nu p w n
      · rw [isG_f (f := lkZ nu p w) (by unfold lkZ; rw [if_neg (by omega)]; omega)]
        split <;> simp <;> omega
      · rw [isG_f (f := spZ nu p w) (by unfold spZ; rw [if_neg h]; omega)]
        simp only [Bool.false_eq_true, if_false]
        split <;> omega
  exact key 4
theorem sl_nn {nu : Nat → Int32} {p w : Nat} (i : Nat) : 0 ≤ spZ nu p w i ∧ 0 ≤ lkZ nu p w i := by
  unfold spZ lkZ
  constructor <;> split <;> omega
theorem least_e {N : Nat} (hN : 100000 ≤ N) {M : Mm} {p w : Nat} (hn : NumB (M.1 2)) (hW : Wd (M.1 2) (spZ (M.1 2) p w) (lkZ (M.1 2) p w) 4 M) (h47 : ∀ i, i < 16 → M.1 47 i = 0) (h46 : ∀ i j, i < 4 → j < 4 → 0 < spZ (M.1 2) p w i → 0 < lkZ (M.1 2) p w j → M.1 46 (4 * rk (isG (spZ (M.1 2) p w)) i + rk (isG (lkZ (M.1 2) p w)) j) = M.1 2 (24 + 4 * i + j)) :
    ∃ r M', f_X4_leastLater N M = some (r, M') ∧ Fr [42, 44, 45, 47, 48, 49] M M' ∧ Fin (M.1 2) (spZ (M.1 2) p w) (lkZ (M.1 2) p w) r.toInt ∧ r.toInt ≤ 300000000 := by
  generalize hnu : M.1 2 = nu at *
  obtain ⟨w1, w2, w3, w4⟩ := hW
  have sum4 := sl_sum (nu := nu) (p := p) (w := w)
  generalize hng : rk (isG (spZ nu p w)) 4 = ng at *
  generalize hnt : rk (isG (lkZ nu p w)) 4 = nt at *
  have inv_t : ∀ k, k < nt → ∃ j, j < 4 ∧ 0 < lkZ nu p w j ∧ rk (isG (lkZ nu p w)) j = k := by
    intro k hk
    obtain ⟨j, j1, j2, j3⟩ := rk_inv (by rw [hnt]; exact hk)
    exact ⟨j, j1, by unfold isG at j2; simpa using j2, j3⟩
  have inv_g : ∀ k, k < ng → ∃ j, j < 4 ∧ 0 < spZ nu p w j ∧ rk (isG (spZ nu p w)) j = k := by
    intro k hk
    obtain ⟨j, j1, j2, j3⟩ := rk_inv (by rw [hng]; exact hk)
    exact ⟨j, j1, by unfold isG at j2; simpa using j2, j3⟩
  have th : ∀ k, k < nt → ix (M.1 43 k) < 4 ∧ M.1 43 k = nI (ix (M.1 43 k)) ∧ (M.1 44 k).toInt = lkZ nu p w (ix (M.1 43 k)) ∧ vH M k = zz nu (6 * ix (M.1 43 k) + 4) ∧ 0 < lkZ nu p w (ix (M.1 43 k)) := by
    intro k hk
    obtain ⟨j, j1, j2, j3⟩ := inv_t k hk
    obtain ⟨a, b, e⟩ := w4 j j1 j2
    rw [j3] at a b e
    have hi : ix (M.1 43 k) = j := by rw [a, ix_n (by omega)]
    rw [hi]
    refine ⟨j1, a, b, ?_, j2⟩
    unfold vH zz
    rw [e]
  have gh : ∀ k, k < ng → ix (M.1 41 k) < 4 ∧ vS M k = spZ nu p w (ix (M.1 41 k)) ∧ 0 < spZ nu p w (ix (M.1 41 k)) := by
    intro k hk
    obtain ⟨j, j1, j2, j3⟩ := inv_g k hk
    obtain ⟨a, b⟩ := w3 j j1 j2
    rw [j3] at a b
    have hi : ix (M.1 41 k) = j := by rw [a, ix_n (by omega)]
    rw [hi]
    exact ⟨j1, b, j2⟩
  have hz : ∀ i, i < 43 → 0 ≤ zz nu i ∧ zz nu i ≤ 999 := hn.1
  have hSt : St M nu ng nt (fun k => ix (M.1 43 k)) := ⟨hnu, w1, w2, by omega, by omega, fun k hk => ⟨(th k hk).1, (th k hk).2.1⟩⟩
  have hf : ∀ g k, g < ng → k < nt → 0 ≤ vF M g k ∧ vF M g k ≤ 99 := by
    intro g k hg hk
    obtain ⟨i, i1, i2, i3⟩ := inv_g g hg
    obtain ⟨j, j1, j2, j3⟩ := inv_t k hk
    have := h46 i j i1 j1 i2 j2
    rw [i3, j3] at this
    have e : vF M g k = zz nu (24 + 4 * i + j) := by unfold vF zz; rw [this]
    rw [e]
    exact ⟨(hz _ (by omega)).1, hn.2 _ (by omega) (by omega)⟩
  have hsp : ∀ i, i < 4 → spZ nu p w i ≤ 3000 := fun i hi => by
    have := balZ_b hn p w hi
    unfold spZ; split <;> omega
  have hlk : ∀ i, i < 4 → lkZ nu p w i ≤ 198 := fun i hi => by
    have := balZ_b hn p w hi
    unfold lkZ; split <;> omega
  have hs : ∀ g, g < ng → 0 < spZ nu p w (ix (M.1 41 g)) ∧ spZ nu p w (ix (M.1 41 g)) ≤ 3000 := fun g hg => ⟨(gh g hg).2.2, hsp _ (gh g hg).1⟩
  have hc : ∀ k, k < nt → zz nu (6 * ix (M.1 43 k) + 4) ≤ 999 := fun k hk => (hz _ (by have := (th k hk).1; omega)).2
  have hRows : Rows nu (spZ nu p w) (lkZ nu p w) (vF M) (fun k => zz nu (6 * ix (M.1 43 k) + 3)) (fun k => zz nu (6 * ix (M.1 43 k) + 4)) (fun g => spZ nu p w (ix (M.1 41 g))) (fun k => lkZ nu p w (ix (M.1 43 k))) := by
    refine ⟨fun i j hi hj hsi hlj => ?_, fun j hj hlj => ?_, fun i hi hsi => ?_⟩
    · unfold vF zz
      rw [h46 i j hi hj hsi hlj]
    · have hi : ix (M.1 43 (rk (isG (lkZ nu p w)) j)) = j := by rw [(w4 j hj hlj).1, ix_n (by omega)]
      dsimp only
      rw [hi]
      exact ⟨rfl, rfl, rfl⟩
    · have hi' : ix (M.1 41 (rk (isG (spZ nu p w)) i)) = i := by rw [(w3 i hi hsi).1, ix_n (by omega)]
      dsimp only
      rw [hi']
  unfold f_X4_leastLater
  by_cases hnt0 : nt = 0
  · subst hnt0
    refine ⟨0, M, ?_, Fr.rf _ _, ?_, by decide⟩
    · obtain ⟨n', rfl⟩ : ∃ n', N = n' + 1 := ⟨N - 1, by omega⟩
      rw [itr_s]
      unfold B_X4_leastLater_4
      rw [w2]
      rfl
    · refine ⟨vF M, _, _, _, _, fun g => spZ nu p w (ix (M.1 41 g)), fun _ _ => 0, fun _ => 0, fun _ => 0, hRows, ⟨fun _ => 0, fun _ => 0, ?_⟩, ?_, ?_, ?_, ?_, ?_⟩
      · rw [hnt]
        exact ⟨fun g hg => ⟨Int.le_refl _, fun _ => rfl⟩, fun k hk => absurd hk (by omega), fun g k _ hk => absurd hk (by omega)⟩
      · rw [hng, hnt]
        intro g hg
        have := hs g hg
        exact ⟨this.1, by dsimp only; omega, by unfold sm; dsimp only; omega⟩
      · intro g k _ hk; rw [hnt] at hk; omega
      · intro k hk; rw [hnt] at hk; omega
      · intro k hk; rw [hnt] at hk; omega
      · rw [hnt]; rfl
  · -- takers in a row
    have l44 : ∀ k, k < nt → (M.1 44 k).toInt = lkZ nu p w (ix (M.1 43 k)) := fun k hk => (th k hk).2.2.1
    have x0 : ∀ g k, g < ng → k < nt → vX M g k = 0 := by
      intro g k hg hk
      unfold vX
      rw [if_pos (by omega), h47 _ (by omega)]
      rfl
    obtain ⟨s', M', rec, ⟨sum, hs', hF, ho, hb, h1, h2⟩, he⟩ := itr_go (B := B_X4_leastLater_4 N fun z10 M11 => some (z10, M11)) (fun t st M1 => ∃ sum : Int32, st = (sum, nI t) ∧ Fr [42, 44, 45, 47, 48, 49] M M1 ∧ (∀ k, t ≤ k → M1.1 44 k = M.1 44 k) ∧ (-300000 * (198 * (t : Int)) ≤ sum.toInt ∧ sum.toInt ≤ 300000 * (198 * (t : Int))) ∧
        (t < nt → ∃ Zl, Inv ng nt t (zz nu 41) (vF M) (fun k => zz nu (6 * ix (M.1 43 k) + 3)) (fun k => zz nu (6 * ix (M.1 43 k) + 4)) (fun g => spZ nu p w (ix (M.1 41 g))) (fun k => lkZ nu p w (ix (M.1 43 k))) (vS M1) (vX M1) (vH M1) Zl (lkZ nu p w (ix (M.1 43 t))) sum.toInt) ∧
        (t = nt → ∃ Zl, Inv ng nt (nt - 1) (zz nu 41) (vF M) (fun k => zz nu (6 * ix (M.1 43 k) + 3)) (fun k => zz nu (6 * ix (M.1 43 k) + 4)) (fun g => spZ nu p w (ix (M.1 41 g))) (fun k => lkZ nu p w (ix (M.1 43 k))) (vS M1) (vX M1) (vH M1) Zl 0 sum.toInt)) nt
      (fun rec t st M1 htn ⟨sum, hst, hF, ho, hb, h1, h2⟩ => by
        subst hst
        obtain ⟨Zl, hI⟩ := h1 htn
        have eF : vF M1 = vF M := by unfold vF; rw [hF.1 46 (by simp)]
        have e44 : (M1.1 44 t).toInt = lkZ nu p w (ix (M.1 43 t)) := by rw [ho t (Nat.le_refl _)]; exact l44 t htn
        obtain ⟨sum', M2, Zl', a1, a2, a3, a4, a5⟩ := stage hN (M := M1) (nu := nu) (ng := ng) (nt := nt) (t := t) (TH := fun k => ix (M.1 43 k)) (c := fun k => zz nu (6 * ix (M.1 43 k) + 4)) (s := fun g => spZ nu p w (ix (M.1 41 g))) (l := fun k => lkZ nu p w (ix (M.1 43 k))) (Zl := Zl) (sum := sum) hn (hSt.fr hF) htn (by omega) hs hc (by rw [eF]; exact hf) (by rw [e44]; exact hlk _ (th t htn).1) hb (by rw [eF, e44]; exact hI) (fun z8 M9 => rec (z8, nI t + 1) M9)
        rw [eF] at a5
        refine ⟨(sum', nI (t + 1)), M2, ⟨sum', rfl, hF.tr a2, fun k hk => ?_, a4, fun hlt => ?_, fun heq => ?_⟩, ?_⟩
        · rw [a3 k (by omega)]; exact ho k (by omega)
        · rcases inv_next a5 hlt with h | h
          · exact ⟨Zl', h⟩
          · have := (th (t + 1) hlt).2.2.2.2
            omega
        · have : nt - 1 = t := by omega
          rw [this]
          exact ⟨Zl', a5⟩
        · unfold B_X4_leastLater_4
          rw [hF.1 40 (by simp), w2]
          simp (disch := omega) only [nlt, htn, if_true]
          rw [a1, nI_1]) N 0 (0, 0) M (by omega) (by omega) ⟨0, by rw [nI_0], Fr.rf _ _, fun _ _ => rfl, by decide, fun h0 => ⟨fun _ => 0, inv_first2 h0 (fun g hg => ⟨by have := hs g hg; omega, (gh g hg).2.1⟩) x0 (fun k hk => ⟨(hz _ (by have := (th k hk).1; omega)).1, (th k hk).2.2.2.1⟩) (by have := (th 0 h0).2.2.2.2; omega)⟩, fun h0 => absurd h0.symm hnt0⟩
    subst hs'
    obtain ⟨Zl, hI⟩ := h2 rfl
    obtain ⟨⟨pp, uu, hfe⟩, i2, i3, i4, i5, i6, i7, i8, i9⟩ := hI
    refine ⟨sum, M', ?_, hF, ?_, by omega⟩
    · rw [he]
      unfold B_X4_leastLater_4
      rw [hF.1 40 (by simp), w2]
      simp (disch := omega) only [nlt, Nat.lt_irrefl, if_false]
    · have hsucc : nt - 1 + 1 = nt := by omega
      rw [hsucc] at hfe
      refine ⟨vF M, _, _, _, _, vS M', vX M', vH M', Zl, hRows, ⟨pp, uu, ?_⟩, ?_, ?_, ?_, ?_, ?_⟩
      · rw [hng, hnt]; exact hfe
      · rw [hng, hnt]; exact fun g hg => ⟨(hs g hg).1, i2 g hg⟩
      · rw [hng, hnt]; exact i3
      · rw [hnt]; exact i4
      · rw [hng, hnt]
        intro k hk
        by_cases e : k = nt - 1
        · subst e; rw [i6]; dsimp only; omega
        · exact i5 k (by omega)
      · rw [hng, hnt]; exact i9
