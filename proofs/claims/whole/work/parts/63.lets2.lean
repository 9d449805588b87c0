section Lets2
variable {N : Nat} {M0 : Mm} {l w n : Nat} {G : Unit → Mm → Rs}
/-- what the reckoner does with what a mode reads -/
theorem lets_m (hN : 100000 ≤ N) (hl : l < 12) (hw : w < 16) (hn : n ≤ 40) (h7 : M0.1 7 l = nI n) : ∀ (f : Nat),
    (∀ dep i j v ws vs M, lwS (fun i => M0.1 6 (40 * l + i)) n f 0 dep i = .inr (j, v) → AS M0 i ws vs M → TK ws → i < j ∧ j ≤ n ∧ ∃ k M', k ≤ j - i ∧ Rc (B_X12_letsBy_15 N (nI l) (nI w) G) () M () M' k ∧ AS M0 j (stp3 ws) (b01 (flp3 ws (v w)) :: vs) M') ∧
    (∀ dep i j v ws vs M W V g, lwS (fun i => M0.1 6 (40 * l + i)) n f 1 dep i = .inr (j, v) → AS M0 i ws vs M → Q2 ws vs W V g → i < j ∧ j ≤ n ∧ ∃ k M' ws' vs', k ≤ j - i ∧ Rc (B_X12_letsBy_15 N (nI l) (nI w) G) () M () M' k ∧ AS M0 j ws' vs' M' ∧ wk 2 ws' vs' = some (W, b01 (g (v w)) :: V)) ∧
    (∀ dep i j v ws vs M W V g, lwS (fun i => M0.1 6 (40 * l + i)) n f 2 dep i = .inr (j, v) → AS M0 i ws vs M → Q1 ws vs W V g → i < j ∧ j ≤ n ∧ ∃ k M' ws' vs', k ≤ j - i ∧ Rc (B_X12_letsBy_15 N (nI l) (nI w) G) () M () M' k ∧ AS M0 j ws' vs' M' ∧ wk 1 ws' vs' = some (W, b01 (g (v w)) :: V)) := by
  intro f
  induction f with
  | zero =>
    refine ⟨fun dep i j v ws vs M h => ?_, fun dep i j v ws vs M W V g h => ?_, fun dep i j v ws vs M W V g h => ?_⟩ <;> cases h
  | succ f ih =>
    obtain ⟨ih0, ih1, ih2⟩ := ih
    -- a turn of the loop begins
    have beg : ∀ (i : Nat) (ws vs : List Int32) (M : Mm), AS M0 i ws vs M → i < n → ∀ rec, B_X12_letsBy_15 N (nI l) (nI w) G rec () M =
        (if pk (fun i => M0.1 6 (40 * l + i)) n i = 98 ∨ pk (fun i => M0.1 6 (40 * l + i)) n i = 110 then
          (bd (f_X12_compared N (nI l) (nI w) M) fun r9 M10 => bd (f_X12_push N r9 M10) fun r11 M12 => bd (f_X12_works N 3 M12) fun r13 M14 => rec () M14)
        else if pk (fun i => M0.1 6 (40 * l + i)) n i = 41 then
          (bd (f_X12_works N 1 (wI M 0 22 (nI (i + 1)))) fun r27 M28 => bd (f_X12_works N 3 (wI M28 0 20 ((M28.1 0 20) - 1))) fun r30 M31 => rec () M31)
        else if pk (fun i => M0.1 6 (40 * l + i)) n i = 38 ∨ pk (fun i => M0.1 6 (40 * l + i)) n i = 124 then
          (bd (f_X12_works N (nI (rkN (pk (fun i => M0.1 6 (40 * l + i)) n i))) (wI M 0 22 (nI (i + 1)))) fun r21 M22 => bd (f_X12_waitsFor N (pk (fun i => M0.1 6 (40 * l + i)) n i) M22) fun r23 M24 => rec () M24)
        else
          (bd (f_X12_waitsFor N (pk (fun i => M0.1 6 (40 * l + i)) n i) (wI M 0 22 (nI (i + 1)))) fun r25 M26 => rec () M26)) := by
      intro i ws vs M h hin rec
      have e0 := sign_e (N := N) h hl hn h7
      generalize (fun i => M0.1 6 (40 * l + i)) = tx at *
      unfold B_X12_letsBy_15
      rw [inb_n (by omega) (by omega), ix_n (by omega), h.e7, h7, h.2.2.1, if_pos rfl, if_pos (by rw [nlt (by omega) (by omega)]; exact hin), bd_of e0]
      simp only [lt_eq]
      rw [h.2.2.1, nI_1]
      by_cases c1 : pk tx n i = 98
      · rw [if_pos c1, if_pos (Or.inl c1)]
      · rw [if_neg c1]
        by_cases c2 : pk tx n i = 110
        · rw [if_pos c2, if_pos (Or.inr c2)]
        · rw [if_neg c2, if_neg (show ¬ (pk tx n i = 98 ∨ pk tx n i = 110) from fun q => q.elim c1 c2)]
          by_cases c3 : pk tx n i = 41
          · rw [if_pos c3, if_pos c3]
          · rw [if_neg c3, if_neg c3, bd_of (rank_e _)]
            by_cases c4 : pk tx n i = 38
            · rw [if_pos c4, if_pos (Or.inl c4)]
            · rw [if_neg c4]
              by_cases c5 : pk tx n i = 124
              · rw [if_pos c5, if_pos (Or.inr c5)]
              · rw [if_neg c5, if_neg (show ¬ (pk tx n i = 38 ∨ pk tx n i = 124) from fun q => q.elim c4 c5)]
    -- the sign between two
    have mid : ∀ (c : Int32) (r : Nat) (j : Nat) (ws vs W V : List Int32) (M : Mm), (c = 38 ∨ c = 124) → rkN c = r → pk (fun i => M0.1 6 (40 * l + i)) n j = c → AS M0 j ws vs M → wk r ws vs = some (W, V) → ∃ M', Rc (B_X12_letsBy_15 N (nI l) (nI w) G) () M () M' 1 ∧ AS M0 (j + 1) (c :: W) V M' := by
      intro c r j ws vs W V M hc hr hp hA hk
      have hin := (pkI hp (by rcases hc with rfl | rfl <;> decide)).1
      obtain ⟨M1, a1, a2⟩ := works_e hN (by have := rkN_5 c; omega : r ≤ 5) (hA.step (j := j + 1) (by omega) (by omega)) hk
      have hlen : W.length ≤ j := by
        have a := hA.2.2.2.2.2.2.2.2.1
        have b : ∀ {ws vs W V : List Int32}, wk r ws vs = some (W, V) → W.length ≤ ws.length := by
          intro ws
          induction ws with
          | nil => intro vs W V h; cases h; exact Nat.le_refl _
          | cons c ws ih =>
            intro vs W V h
            unfold wk at h
            split at h
            · cases h; exact Nat.le_refl _
            · split at h
              · cases h
              · have := ih h
                show _ ≤ ws.length + 1
                omega
        have := b hk
        omega
      obtain ⟨M2, b1, b2⟩ := a2.wait (N := N) (by omega) c
      refine ⟨M2, Rc.one (fun rec => ?_), b2⟩
      rw [beg j ws vs M hA hin rec, hp, hr, if_neg (by rcases hc with rfl | rfl <;> decide), if_neg (by rcases hc with rfl | rfl <;> decide), if_pos hc, bd_of a1, bd_of b1]
    refine ⟨?_, ?_, ?_⟩
    · -- a part
      intro dep i j v ws vs M hs hA hT
      by_cases hc : pk (fun i => M0.1 6 (40 * l + i)) n i = 98 ∨ pk (fun i => M0.1 6 (40 * l + i)) n i = 110
      · have hin : i < n := by rcases hc with h | h <;> exact (pkI h (by decide)).1
        obtain ⟨h1, h2, M1, a1, a2⟩ := comp_e hN hA hl hw hn h7 hc hs
        have hvl := hA.2.2.2.2.2.2.2.2.2
        obtain ⟨M2, b1, b2⟩ := a2.push (N := N) (by omega) (b01 (v w))
        obtain ⟨M3, c1, c2⟩ := works_e hN (by omega : 3 ≤ 5) b2 (wk3 (v w) hT)
        refine ⟨h1, h2, 1, M3, by omega, Rc.one (fun rec => ?_), c2⟩
        rw [beg i ws vs M hA hin rec, if_pos hc, bd_of a1, bd_of b1]
        have c1' : f_X12_works N 3 M2 = some (0, M3) := c1
        rw [bd_of c1']
      · have n98 : ¬ pk (fun i => M0.1 6 (40 * l + i)) n i = 98 := fun q => hc (Or.inl q)
        have n110 : ¬ pk (fun i => M0.1 6 (40 * l + i)) n i = 110 := fun q => hc (Or.inr q)
        unfold lwS at hs
        rw [if_pos rfl, if_neg n98, if_neg n110] at hs
        have hwl := hA.2.2.2.2.2.2.2.2.1
        by_cases h33 : pk (fun i => M0.1 6 (40 * l + i)) n i = 33
        · have hin := (pkI h33 (by decide)).1
          rw [if_pos h33] at hs
          split at hs
          · split at hs
            · cases hs
            · rename_i j' v' he
              cases hs
              obtain ⟨M1, a1, a2⟩ := (hA.step (j := i + 1) (by omega) (by omega)).wait (N := N) (by omega) 33
              obtain ⟨x1, x2, k, M2, x3, x4, x5⟩ := ih0 _ _ _ _ _ _ _ he a2 (by unfold TK; rw [if_pos rfl]; exact hT)
              refine ⟨by omega, x2, 1 + k, M2, by omega, Rc.tr (Rc.one (fun rec => ?_)) x4, ?_⟩
              · rw [beg i ws vs M hA hin rec, h33, if_neg (by decide), if_neg (by decide), if_neg (by decide), bd_of a1]
              · have e1 : stp3 (33 :: ws) = stp3 ws := rfl
                have e2 : flp3 (33 :: ws) (v' w) = flp3 ws (!v' w) := rfl
                rw [e1, e2] at x5
                exact x5
          · cases hs
        · rw [if_neg h33] at hs
          by_cases h40 : pk (fun i => M0.1 6 (40 * l + i)) n i = 40
          · have hin := (pkI h40 (by decide)).1
            rw [if_pos h40] at hs
            split at hs
            · split at hs
              · cases hs
              · rename_i j' v' he
                split at hs
                · rename_i h41
                  cases hs
                  have hin2 := (pkI h41 (by decide)).1
                  obtain ⟨M1, a1, a2⟩ := (hA.step (j := i + 1) (by omega) (by omega)).wait (N := N) (by omega) 40
                  obtain ⟨x1, x2, k, M2, ws', vs', x3, x4, x5, x6⟩ := ih2 _ _ _ _ _ _ _ (40 :: ws) vs id he a2 ⟨Or.inr ⟨ws, rfl⟩, Or.inl ⟨rfl, rfl, rfl⟩⟩
                  obtain ⟨M3, b1, b2⟩ := works_e hN (by omega : 1 ≤ 5) (x5.step (j := j' + 1) (by omega) (by omega)) x6
                  have b3 := b2.drop
                  obtain ⟨M4, c1, c2⟩ := works_e hN (by omega : 3 ≤ 5) b3 (wk3 _ hT)
                  refine ⟨by omega, by omega, 1 + (k + 1), M4, by omega, Rc.tr (Rc.one (fun rec => ?_)) (x4.tr (Rc.one (fun rec => ?_))), c2⟩
                  · rw [beg i ws vs M hA hin rec, h40, if_neg (by decide), if_neg (by decide), if_neg (by decide), bd_of a1]
                  · rw [beg j' ws' vs' M2 x5 hin2 rec, h41, if_neg (by decide), if_pos rfl]
                    have b1' : f_X12_works N 1 (wI M2 0 22 (nI (j' + 1))) = some (0, M3) := b1
                    have e20 : M3.1 0 20 = nI (ws.length + 1) := b2.2.2.2.1
                    have c1' : f_X12_works N 3 (wI M3 0 20 (nI ws.length)) = some (0, M4) := c1
                    rw [bd_of b1', e20, dec1, bd_of c1']
                · cases hs
            · cases hs
          · rw [if_neg h40] at hs; cases hs
    · -- a term
      intro dep i j v ws vs M W V g hs hA hQ
      unfold lwS at hs
      rw [if_neg (by decide), if_pos rfl] at hs
      split at hs
      · cases hs
      · rename_i j1 v1 he
        obtain ⟨x1, x2, k, M1, x3, x4, x5⟩ := ih0 _ _ _ _ _ _ _ he hA hQ.top.1
        rw [hQ.top.2.1, hQ.top.2.2] at x5
        split at hs
        · rename_i h38
          split at hs
          · cases hs
          · rename_i j2 v2 he2
            cases hs
            obtain ⟨M2, y1, y2⟩ := mid 38 2 j1 ws _ _ _ M1 (Or.inl rfl) rfl h38 x5 (hQ.go (v1 w))
            obtain ⟨z1, z2, k2, M3, ws', vs', z3, z4, z5, z6⟩ := ih1 _ _ _ _ _ _ _ W V (fun x => g (v1 w) && x) he2 y2 ⟨hQ.1, Or.inr ⟨_, rfl, rfl, rfl⟩⟩
            refine ⟨by omega, z2, k + (1 + k2), M3, ws', vs', by omega, x4.tr (y1.tr z4), z5, ?_⟩
            rw [z6, hQ.g]
        · cases hs
          exact ⟨x1, x2, k, M1, ws, _, x3, x4, x5, hQ.go (v w)⟩
    · -- a test
      intro dep i j v ws vs M W V g hs hA hQ
      unfold lwS at hs
      rw [if_neg (by decide), if_neg (by decide)] at hs
      split at hs
      · cases hs
      · rename_i j1 v1 he
        obtain ⟨x1, x2, k, M1, ws1, vs1, x3, x4, x5, x6⟩ := ih1 _ _ _ _ _ _ _ ws vs id he hA ⟨⟨W, V, g, hQ⟩, Or.inl ⟨rfl, rfl, rfl⟩⟩
        have x7 : wk 1 ws1 vs1 = some (W, b01 (g (v1 w)) :: V) := by rw [wk_wk (by omega) x6]; exact hQ.go (v1 w)
        split at hs
        · rename_i h124
          split at hs
          · cases hs
          · rename_i j2 v2 he2
            cases hs
            obtain ⟨M2, y1, y2⟩ := mid 124 1 j1 ws1 vs1 _ _ M1 (Or.inr rfl) rfl h124 x5 x7
            obtain ⟨z1, z2, k2, M3, ws', vs', z3, z4, z5, z6⟩ := ih2 _ _ _ _ _ _ _ W V (fun x => g (v1 w) || x) he2 y2 ⟨hQ.1, Or.inr ⟨_, rfl, rfl, rfl⟩⟩
            refine ⟨by omega, z2, k + (1 + k2), M3, ws', vs', by omega, x4.tr (y1.tr z4), z5, ?_⟩
            rw [z6, hQ.g]
        · cases hs
          exact ⟨x1, x2, k, M1, ws1, vs1, x3, x4, x5, x7⟩
theorem lets_e (hN : 100000 ≤ N) (hl : l < 12) (hw : w < 16) {mk : Int32} (h : LawOk (fun i => M0.1 6 (40 * l + i)) (M0.1 7 l) mk) : ∃ M', f_X12_letsBy N (nI l) (nI w) M0 = some (b01 (bt mk w), M') ∧ Fr [0, 13, 14] M0 M' ∧ ∀ k, k ≠ 20 → k ≠ 21 → k ≠ 22 → M'.1 0 k = M0.1 0 k := by
  obtain ⟨n, v, hn, h7, hs, hv⟩ := h
  have hA : AS M0 0 [] [] (wI (wI (wI M0 0 22 0) 0 20 0) 0 21 0) := by
    refine ⟨(((Fr.rf _ _).wI (by simp)).wI (by simp)).wI (by simp), fun k k1 k2 k3 => by simp [wI_g, upd_g, k1, k2, k3], by simp [wI_g, upd_g]; rfl, by simp [wI_g, upd_g]; rfl, by simp [wI_g, upd_g]; rfl, True.intro, True.intro, by omega, Nat.le_refl _, Nat.le_refl _⟩
  obtain ⟨x1, x2, k, M1, ws', vs', x3, x4, x5, x6⟩ := (lets_m (G := fun z32 M33 => (bd (f_X12_works N 1 M33) fun r34 M35 => (if (M35.1 14 (ix 0)) = 1 then (some (1, M35)) else (some (0, M35))))) hN hl hw hn h7 200).2.2 _ _ _ _ _ _ _ [] [] id hs hA ⟨Or.inl rfl, Or.inl ⟨rfl, rfl, rfl⟩⟩
  obtain ⟨M2, y1, y2⟩ := works_e hN (by omega : 1 ≤ 5) x5 x6
  have y1' : f_X12_works N 1 M1 = some (0, M2) := y1
  refine ⟨M2, ?_, y2.1, y2.2.1⟩
  unfold f_X12_letsBy
  simp only [lt_eq]
  have := x4 (N - k)
  rw [show N - k + k = N by omega] at this
  rw [this]
  obtain ⟨N', hN'⟩ : ∃ N', N - k = N' + 1 := ⟨N - k - 1, by omega⟩
  rw [hN', itr_s]
  unfold B_X12_letsBy_15
  rw [inb_n (by omega) (by omega), ix_n (by omega), x5.e7, h7, x5.2.2.1, if_pos rfl, if_neg (by rw [nlt (by omega) (by omega)]; omega)]
  dsimp only
  rw [bd_of y1']
  have e14 : M2.1 14 0 = b01 (v w) := y2.2.2.2.2.2.2.1.1
  rw [show ix (0 : Int32) = 0 by rfl, e14, hv w hw]
  cases v w <;> rfl
end Lets2
