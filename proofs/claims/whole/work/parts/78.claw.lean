/-! the class reads a law -/
def LO (tx : Nat → Int32) (n : Nat) (M : Mm) (o : LR) (R : Rs) : Prop := ∃ x M', R = some (x, M') ∧ Fr [30] M M' ∧ match o with
  | .inl q => Tf tx n q M'
  | .inr (j, v) => Tx tx n j M' ∧ ∀ w, w < 16 → bt x w = v w
theorem bad_al : ∀ k, k < 4 → ∀ w, w < 16 → alS ((1 : Int32) <<< (nI k &&& 31)) ((1 : Int32) <<< (nI k &&& 31)) w = bt (nI w) k := by decide +kernel
section Claw
variable {N : Nat} {M : Mm} {tx : Nat → Int32} {n i q : Nat}
theorem wbad_e (hN : 100000 ≤ N) {k : Nat} (hk : k < 10) {c : Int32} (hc : c - 48 = nI k) : ∃ V, f_X5_worldsBad N (nI k) M = some (V, M) ∧ ∀ w, w < 16 → bt V w = badS c w := by
  unfold f_X5_worldsBad badS
  rw [hc]
  by_cases h4 : k < 4
  · obtain ⟨V, a1, a2⟩ := alike_e (M := M) hN 65535 ((1 : Int32) <<< (nI k &&& 31)) ((1 : Int32) <<< (nI k &&& 31))
    have q4 : nI k < 4 := by rw [lt4 (by omega)]; exact h4
    rw [if_pos q4, bd_of a1]
    refine ⟨V, rfl, fun w hw => ?_⟩
    rw [a2.at hw, b_65535, bad_al k h4 w hw, ix_n (by omega)]
    simp [hw, q4]
  · have q4 : ¬ nI k < 4 := by rw [lt4 (by omega)]; exact h4
    rw [if_neg q4]
    refine ⟨0, rfl, fun w hw => ?_⟩
    rw [b_0]
    simp [q4]
theorem cnt_e (hN : 100000 ≤ N) (s c : Int32) : ∃ V, itr (B_X5_readCount_49 N s (c - 48) fun z16 M17 => some (z16, M17)) N (0, 0) M = some (V, M) ∧ ∀ w, w < 16 → bt V w = cntS s c w := by
  obtain ⟨s', M', rec, ⟨V, hs, hM, hV⟩, he⟩ := itr_go (B := B_X5_readCount_49 N s (c - 48) fun z16 M17 => some (z16, M17)) (fun j s' M' => ∃ V, s' = (V, nI j) ∧ M' = M ∧ pre j V (cntS s c)) 16
    (fun rec j s' M1 hj ⟨V, hs, hM, hV⟩ => by
      subst hs; subst hM
      unfold B_X5_readCount_49
      dsimp only
      rw [if_pos (by rw [lt16 (by omega)]; exact hj), bd_of (bc_w hj)]
      simp only [lt_eq]
      have yes : cntS s c j = true → ∃ s' M', (∃ V, s' = (V, nI (j + 1)) ∧ M' = M1 ∧ pre (j + 1) V (cntS s c)) ∧ (if (1 : Int32) = 0 then rec (V, nI j + 1) M1 else rec (V ||| (1 : Int32) <<< (nI j &&& 31), nI j + 1) M1) = rec s' M' := fun h => by
        rw [if_neg (by decide), nI_1]
        exact ⟨_, _, ⟨_, rfl, rfl, pre_t hV (by omega) h⟩, rfl⟩
      have nos : cntS s c j = false → ∃ s' M', (∃ V, s' = (V, nI (j + 1)) ∧ M' = M1 ∧ pre (j + 1) V (cntS s c)) ∧ (if (0 : Int32) = 0 then rec (V, nI j + 1) M1 else rec (V ||| (1 : Int32) <<< (nI j &&& 31), nI j + 1) M1) = rec s' M' := fun h => by
        rw [if_pos rfl, nI_1]
        exact ⟨_, _, ⟨_, rfl, rfl, pre_f hV h⟩, rfl⟩
      unfold cntS at yes nos
      by_cases c1 : s = 60
      · rw [if_pos c1] at yes nos; rw [if_pos c1]
        by_cases c2 : nI (popc j) < c - 48
        · rw [if_pos c2]; exact yes (by simp [c2])
        · rw [if_neg c2]; exact nos (by simp [c2])
      · rw [if_neg c1] at yes nos; rw [if_neg c1]
        by_cases c3 : s = 62
        · rw [if_pos c3] at yes nos; rw [if_pos c3]
          by_cases c2 : c - 48 < nI (popc j)
          · rw [if_pos c2]; exact yes (by simp [c2])
          · rw [if_neg c2]; exact nos (by simp [c2])
        · rw [if_neg c3] at yes nos; rw [if_neg c3]
          by_cases c2 : nI (popc j) = c - 48
          · rw [if_pos c2]; exact yes (by simp [c2])
          · rw [if_neg c2]; exact nos (by simp [c2])) N 0 (0, 0) M (by omega) (by omega) ⟨0, by rw [nI_0], rfl, pre_0⟩
  subst hs; subst hM
  rw [he]
  unfold B_X5_readCount_49
  dsimp only
  rw [if_neg (show ¬ nI 16 < 16 by decide)]
  exact ⟨V, rfl, fun w hw => by rw [hV w]; simp [hw]⟩
/-- what stands behind n -/
theorem rcnt_e (hN : 100000 ≤ N) (h : Tx tx n i M) (hn : n ≤ 40) (hi : i ≤ n) : LO tx n M (if pk tx n i = 60 ∨ pk tx n i = 61 ∨ pk tx n i = 62 then (if isDg (pk tx n (i + 1)) then .inr (i + 2, cntS (pk tx n i) (pk tx n (i + 1))) else .inl (i + 1)) else .inl i) (f_X5_readCount N M) := by
  unfold f_X5_readCount
  rw [bd_of (peek_e h hn hi)]
  simp only [lt_eq]
  by_cases hc : pk tx n i = 60 ∨ pk tx n i = 61 ∨ pk tx n i = 62
  · rw [if_pos hc]
    have hin : i + 1 ≤ n := by rcases hc with h | h | h <;> exact pkin h (by decide)
    have key : LO tx n M (if isDg (pk tx n (i + 1)) then .inr (i + 2, cntS (pk tx n i) (pk tx n (i + 1))) else .inl (i + 1)) (bd (f_X9_take N (pk tx n i) M) fun r6 M7 => bd (f_X9_digit N M7) fun r8 M9 => itr (B_X5_readCount_49 N (pk tx n i) r8 fun z16 M17 => some (z16, M17)) N (0, 0) M9) := by
      rw [bd_of (take_t h hn hi rfl)]
      have h1 := h.go (i + 1)
      by_cases hd : isDg (pk tx n (i + 1)) = true
      · rw [if_pos hd, bd_of (digit_t h1 hn hin hd)]
        obtain ⟨V, a1, a2⟩ := cnt_e (M := wI (wI M 30 2 (nI (i + 1))) 30 2 (nI (i + 1 + 1))) hN (pk tx n i) (pk tx n (i + 1))
        rw [a1]
        exact ⟨V, _, rfl, ((Fr.rf _ _).wI (by simp)).wI (by simp), h1.go (i + 2), a2⟩
      · rw [if_neg hd, bd_of (digit_n h1 hn hin hd)]
        obtain ⟨V, a1, a2⟩ := cnt_e (M := wI (wI M 30 2 (nI (i + 1))) 30 3 (nI (i + 1))) hN (pk tx n i) 48
        rw [show (48 : Int32) - 48 = 0 by rfl] at a1
        rw [a1]
        exact ⟨V, _, rfl, ((Fr.rf _ _).wI (by simp)).wI (by simp), h1.fl (i + 1)⟩
    by_cases c1 : pk tx n i = 60
    · rw [if_pos c1]; exact key
    · rw [if_neg c1]
      by_cases c2 : pk tx n i = 61
      · rw [if_pos c2]; exact key
      · rw [if_neg c2]
        rw [if_pos (hc.resolve_left c1 |>.resolve_left c2)]
        exact key
  · rw [if_neg hc, if_neg (fun q => hc (Or.inl q)), if_neg (fun q => hc (Or.inr (Or.inl q))), if_neg (fun q => hc (Or.inr (Or.inr q))), bd_of (fail_e h _), h.2.2.1]
    exact ⟨0, _, rfl, (Fr.rf _ _).wI (by simp), h.fl i⟩
/-- the rests of a term and of a test end -/
theorem trm_x (h : (Tx tx n i M ∧ i ≤ n ∧ ¬ pk tx n i = 38) ∨ (Tf tx n q M ∧ q ≤ n)) (hn : n ≤ 40) (c0 c1 c2 : Int32 → Mm → Rs) (d acc c : Int32) (m : Nat) : itr (B_X5_readTerm_8 N c0 c1 c2 d fun z8 M9 => some (z8, M9)) (m + 1) (acc, c) M = some (acc, M) := by
  rw [itr_s]
  unfold B_X5_readTerm_8
  dsimp only
  have e : f_X9_take N 38 M = some (0, M) := by
    rcases h with h | h
    · exact take_n h.1 hn h.2.1 h.2.2
    · exact take_f h.1 (by omega) (by decide)
  rw [bd_of e, if_pos rfl]
  split <;> rfl
theorem tst_x (h : (Tx tx n i M ∧ i ≤ n ∧ ¬ pk tx n i = 124) ∨ (Tf tx n q M ∧ q ≤ n)) (hn : n ≤ 40) (c0 c1 c2 : Int32 → Mm → Rs) (d acc c : Int32) (m : Nat) : itr (B_X5_readTest_8 N c0 c1 c2 d fun z8 M9 => some (z8, M9)) (m + 1) (acc, c) M = some (acc, M) := by
  rw [itr_s]
  unfold B_X5_readTest_8
  dsimp only
  have e : f_X9_take N 124 M = some (0, M) := by
    rcases h with h | h
    · exact take_n h.1 hn h.2.1 h.2.2
    · exact take_f h.1 (by omega) (by decide)
  rw [bd_of e, if_pos rfl]
  split <;> rfl
/-- one more of a term, of a test -/
theorem trm_s (h : Tx tx n i M) (hn : n ≤ 40) (hi : i ≤ n) (c38 : pk tx n i = 38) {c : Nat} (hc : c < 40) (c0 c1 c2 : Int32 → Mm → Rs) (d acc : Int32) (G : Int32 → Mm → Rs) (rec : (Int32 × Int32) → Mm → Rs) : B_X5_readTerm_8 N c0 c1 c2 d G rec (acc, nI c) M = bd (c2 d (wI M 30 2 (nI (i + 1)))) fun r5 M6 => rec (acc &&& r5, nI (c + 1)) M6 := by
  unfold B_X5_readTerm_8
  dsimp only
  rw [if_pos (show nI c < 40 by rw [lt40 (by omega)]; omega), bd_of (take_t h hn hi c38), if_neg (show ¬ (1 : Int32) = 0 by decide), nI_1]
  rfl
theorem tst_s (h : Tx tx n i M) (hn : n ≤ 40) (hi : i ≤ n) (c38 : pk tx n i = 124) {c : Nat} (hc : c < 40) (c0 c1 c2 : Int32 → Mm → Rs) (d acc : Int32) (G : Int32 → Mm → Rs) (rec : (Int32 × Int32) → Mm → Rs) : B_X5_readTest_8 N c0 c1 c2 d G rec (acc, nI c) M = bd (c1 d (wI M 30 2 (nI (i + 1)))) fun r5 M6 => rec (acc ||| r5, nI (c + 1)) M6 := by
  unfold B_X5_readTest_8
  dsimp only
  rw [if_pos (show nI c < 40 by rw [lt40 (by omega)]; omega), bd_of (take_t h hn hi c38), if_neg (show ¬ (1 : Int32) = 0 by decide), nI_1]
  rfl
/-- the whole reading -/
theorem law_r (hN : 100000 ≤ N) (hn : n ≤ 40) : ∀ f : Nat,
    (∀ g dep i M, 3 * (4 - dep) + 1 ≤ g → dep ≤ 4 → i ≤ n → 3 * (n - i) + 1 ≤ f → Tx tx n i M → LO tx n M (lwS tx n f 0 dep i) ((gr_laws N g).2.2 (nI dep) M)) ∧
    (∀ g dep i M, 3 * (4 - dep) + 2 ≤ g → dep ≤ 4 → i ≤ n → 3 * (n - i) + 2 ≤ f → Tx tx n i M → LO tx n M (lwS tx n f 1 dep i) ((gr_laws N g).2.1 (nI dep) M)) ∧
    (∀ g dep i M, 3 * (4 - dep) + 3 ≤ g → dep ≤ 4 → i ≤ n → 3 * (n - i) + 3 ≤ f → Tx tx n i M → LO tx n M (lwS tx n f 2 dep i) ((gr_laws N g).1 (nI dep) M)) ∧
    (∀ g dep i M acc c m, 3 * (4 - dep) + 1 ≤ g → dep ≤ 4 → i + 1 ≤ n → 3 * (n - (i + 1)) + 2 ≤ f → Tx tx n i M → pk tx n i = 38 → c + (n - i) ≤ 40 → n - i < m → LO tx n M (match lwS tx n f 1 dep (i + 1) with | .inl q => .inl q | .inr (j, v) => .inr (j, fun w => bt acc w && v w)) (itr (B_X5_readTerm_8 N (gr_laws N g).1 (gr_laws N g).2.1 (gr_laws N g).2.2 (nI dep) fun z8 M9 => some (z8, M9)) m (acc, nI c) M)) ∧
    (∀ g dep i M acc c m, 3 * (4 - dep) + 2 ≤ g → dep ≤ 4 → i + 1 ≤ n → 3 * (n - (i + 1)) + 3 ≤ f → Tx tx n i M → pk tx n i = 124 → c + (n - i) ≤ 40 → n - i < m → LO tx n M (match lwS tx n f 2 dep (i + 1) with | .inl q => .inl q | .inr (j, v) => .inr (j, fun w => bt acc w || v w)) (itr (B_X5_readTest_8 N (gr_laws N g).1 (gr_laws N g).2.1 (gr_laws N g).2.2 (nI dep) fun z8 M9 => some (z8, M9)) m (acc, nI c) M)) := by
  intro f
  induction f with
  | zero =>
    refine ⟨fun g dep i M h1 h2 h3 h4 => by omega, fun g dep i M h1 h2 h3 h4 => by omega, fun g dep i M h1 h2 h3 h4 => by omega, fun g dep i M acc c m h1 h2 h3 h4 => by omega, fun g dep i M acc c m h1 h2 h3 h4 => by omega⟩
  | succ f ih =>
    obtain ⟨ih0, ih1, ih2, ih3, ih4⟩ := ih
    refine ⟨?_, ?_, ?_, ?_, ?_⟩
    · intro g dep i M hg hd hi hf h
      obtain ⟨g, rfl⟩ : ∃ g', g = g' + 1 := ⟨g - 1, by omega⟩
      show LO tx n M _ (b_X5_readPart N (gr_laws N g).1 (gr_laws N g).2.1 (gr_laws N g).2.2 (nI dep) M)
      unfold b_X5_readPart lwS
      rw [if_pos rfl]
      by_cases c98 : pk tx n i = 98
      · rw [if_pos c98, bd_of (take_t h hn hi c98), if_neg (show ¬ (1 : Int32) = 0 by decide)]
        have hin := pkin c98 (by decide)
        have h1 := h.go (i + 1)
        by_cases hdg : isDg (pk tx n (i + 1)) = true
        · obtain ⟨k, k1, k2, k3⟩ := dg_of hdg
          rw [if_pos hdg, bd_of (digit_t h1 hn hin hdg), k3]
          obtain ⟨V, a1, a2⟩ := wbad_e (M := wI (wI M 30 2 (nI (i + 1))) 30 2 (nI (i + 1 + 1))) hN k1 k3
          rw [bd_of a1]
          exact ⟨V, _, rfl, ((Fr.rf _ _).wI (by simp)).wI (by simp), h1.go (i + 2), a2⟩
        · rw [if_neg hdg, bd_of (digit_n h1 hn hin hdg)]
          obtain ⟨V, a1, a2⟩ := wbad_e (M := wI (wI M 30 2 (nI (i + 1))) 30 3 (nI (i + 1))) hN (k := 0) (c := 48) (by omega) rfl
          have a1' : f_X5_worldsBad N 0 (wI (wI M 30 2 (nI (i + 1))) 30 3 (nI (i + 1))) = some (V, _) := a1
          rw [bd_of a1']
          exact ⟨V, _, rfl, ((Fr.rf _ _).wI (by simp)).wI (by simp), h1.fl (i + 1)⟩
      · rw [if_neg c98, bd_of (take_n h hn hi c98), if_pos rfl]
        by_cases c110 : pk tx n i = 110
        · rw [if_pos c110, bd_of (take_t h hn hi c110), if_neg (show ¬ (1 : Int32) = 0 by decide)]
          have hin := pkin c110 (by decide)
          obtain ⟨x, M', a1, a2, a3⟩ := rcnt_e hN (h.go (i + 1)) hn hin
          rw [bd_of a1]
          exact ⟨x, M', rfl, ((Fr.rf _ _).wI (by simp)).tr a2, a3⟩
        · rw [if_neg c110, bd_of (take_n h hn hi c110), if_pos rfl]
          simp only [lt_eq]
          by_cases c33 : pk tx n i = 33
          · rw [if_pos c33, bd_of (take_t h hn hi c33), if_neg (show ¬ (1 : Int32) = 0 by decide), if_neg (show ¬ (1 : Int32) = 0 by decide)]
            have hin := pkin c33 (by decide)
            have h1 := h.go (i + 1)
            by_cases h4 : dep < 4
            · rw [if_pos (show nI dep < 4 by rw [lt4 (by omega)]; exact h4), if_pos h4, nI_1]
              obtain ⟨x, M', a1, a2, a3⟩ := ih0 g (dep + 1) (i + 1) _ (by omega) (by omega) hin (by omega) h1
              rw [bd_of a1]
              refine ⟨_, M', rfl, ((Fr.rf _ _).wI (by simp)).tr a2, ?_⟩
              split at a3
              · rename_i q he
                rw [he]; exact a3
              · rename_i j v he
                rw [he]
                refine ⟨a3.1, fun w hw => ?_⟩
                rw [b_and, b_65535, b_xor, b_m1 w (by omega), a3.2 w hw]
                simp [hw]
            · rw [if_neg (show ¬ nI dep < 4 by rw [lt4 (by omega)]; exact h4), if_neg h4, bd_of (fail_e h1 _), h.2.2.1]
              exact ⟨0, _, rfl, ((Fr.rf _ _).wI (by simp)).wI (by simp), h1.fl i⟩
          · rw [if_neg c33, bd_of (take_n h hn hi c33), if_pos rfl]
            by_cases c40 : pk tx n i = 40
            · rw [if_pos c40, bd_of (take_t h hn hi c40), if_neg (show ¬ (1 : Int32) = 0 by decide), if_pos rfl]
              have hin := pkin c40 (by decide)
              have h1 := h.go (i + 1)
              by_cases h4 : dep < 4
              · rw [if_pos (show nI dep < 4 by rw [lt4 (by omega)]; exact h4), if_pos h4, nI_1]
                obtain ⟨x, M', a1, a2, a3⟩ := ih2 g (dep + 1) (i + 1) _ (by omega) (by omega) hin (by omega) h1
                have hb := lw_b (tx := tx) (n := n) f 2 (dep + 1) (i + 1) hin
                rw [bd_of a1]
                split at a3
                · rename_i q he
                  rw [he]
                  have hq := hb.1 q he
                  rw [bd_of (take_f a3 (by omega) (by decide)), if_pos rfl, bd_of (fail_f a3 (by omega) _)]
                  exact ⟨x, M', rfl, ((Fr.rf _ _).wI (by simp)).tr a2, a3⟩
                · rename_i j v he
                  rw [he]
                  have hj := hb.2 j v he
                  dsimp only
                  by_cases c41 : pk tx n j = 41
                  · rw [if_pos c41, bd_of (take_t a3.1 hn hj.2.1 c41), if_neg (show ¬ (1 : Int32) = 0 by decide)]
                    exact ⟨x, _, rfl, (((Fr.rf _ _).wI (by simp)).tr a2).wI (by simp), a3.1.go (j + 1), a3.2⟩
                  · rw [if_neg c41, bd_of (take_n a3.1 hn hj.2.1 c41), if_pos rfl, bd_of (fail_e a3.1 _), a3.1.2.2.1]
                    exact ⟨x, _, rfl, (((Fr.rf _ _).wI (by simp)).tr a2).wI (by simp), a3.1.fl j⟩
              · rw [if_neg (show ¬ nI dep < 4 by rw [lt4 (by omega)]; exact h4), if_neg h4, bd_of (fail_e h1 _), h.2.2.1]
                exact ⟨0, _, rfl, ((Fr.rf _ _).wI (by simp)).wI (by simp), h1.fl i⟩
            · rw [if_neg c40, bd_of (take_n h hn hi c40), if_pos rfl, bd_of (fail_e h _), h.2.2.1]
              exact ⟨0, _, rfl, (Fr.rf _ _).wI (by simp), h.fl i⟩
    · intro g dep i M hg hd hi hf h
      obtain ⟨g, rfl⟩ : ∃ g', g = g' + 1 := ⟨g - 1, by omega⟩
      show LO tx n M _ (b_X5_readTerm N (gr_laws N g).1 (gr_laws N g).2.1 (gr_laws N g).2.2 (nI dep) M)
      obtain ⟨N', rfl⟩ : ∃ N', N = N' + 1 := ⟨N - 1, by omega⟩
      unfold b_X5_readTerm lwS
      rw [if_neg (by decide), if_pos rfl]
      obtain ⟨x, M', a1, a2, a3⟩ := ih0 g dep i M (by omega) hd hi (by omega) h
      have hb := lw_b (tx := tx) (n := n) f 0 dep i hi
      rw [bd_of a1]
      split at a3
      · rename_i q he
        rw [he, trm_x (i := i) (Or.inr ⟨a3, hb.1 q he⟩) hn]
        exact ⟨x, M', rfl, a2, a3⟩
      · rename_i j v he
        rw [he]
        have hj := hb.2 j v he
        dsimp only
        by_cases c38 : pk tx n j = 38
        · rw [if_pos c38]
          have hjn := pkin c38 (by decide)
          obtain ⟨y, M2, b1, b2, b3⟩ := ih3 g dep j M' x 0 (N' + 1) (by omega) hd hjn (by omega) a3.1 c38 (by omega) (by omega)
          have b1' : itr (B_X5_readTerm_8 (N' + 1) (gr_laws (N' + 1) g).1 (gr_laws (N' + 1) g).2.1 (gr_laws (N' + 1) g).2.2 (nI dep) fun z8 M9 => some (z8, M9)) (N' + 1) (x, 0) M' = some (y, M2) := b1
          rw [b1']
          refine ⟨y, M2, rfl, a2.tr b2, ?_⟩
          split at b3
          · rename_i q he2
            split at he2
            · rename_i q2 he3; cases he2; rw [he3]; exact b3
            · cases he2
          · rename_i j2 v2 he2
            split at he2
            · cases he2
            · rename_i j3 v3 he3
              cases he2
              rw [he3]
              exact ⟨b3.1, fun w hw => by rw [b3.2 w hw]; dsimp only; rw [a3.2 w hw]⟩
        · rw [if_neg c38, trm_x (q := 0) (Or.inl ⟨a3.1, hj.2.1, c38⟩) hn]
          exact ⟨x, M', rfl, a2, a3⟩
    · intro g dep i M hg hd hi hf h
      obtain ⟨g, rfl⟩ : ∃ g', g = g' + 1 := ⟨g - 1, by omega⟩
      show LO tx n M _ (b_X5_readTest N (gr_laws N g).1 (gr_laws N g).2.1 (gr_laws N g).2.2 (nI dep) M)
      obtain ⟨N', rfl⟩ : ∃ N', N = N' + 1 := ⟨N - 1, by omega⟩
      unfold b_X5_readTest lwS
      rw [if_neg (by decide), if_neg (by decide)]
      obtain ⟨x, M', a1, a2, a3⟩ := ih1 g dep i M (by omega) hd hi (by omega) h
      have hb := lw_b (tx := tx) (n := n) f 1 dep i hi
      rw [bd_of a1]
      split at a3
      · rename_i q he
        rw [he, tst_x (i := i) (Or.inr ⟨a3, hb.1 q he⟩) hn]
        exact ⟨x, M', rfl, a2, a3⟩
      · rename_i j v he
        rw [he]
        have hj := hb.2 j v he
        dsimp only
        by_cases c38 : pk tx n j = 124
        · rw [if_pos c38]
          have hjn := pkin c38 (by decide)
          obtain ⟨y, M2, b1, b2, b3⟩ := ih4 g dep j M' x 0 (N' + 1) (by omega) hd hjn (by omega) a3.1 c38 (by omega) (by omega)
          have b1' : itr (B_X5_readTest_8 (N' + 1) (gr_laws (N' + 1) g).1 (gr_laws (N' + 1) g).2.1 (gr_laws (N' + 1) g).2.2 (nI dep) fun z8 M9 => some (z8, M9)) (N' + 1) (x, 0) M' = some (y, M2) := b1
          rw [b1']
          refine ⟨y, M2, rfl, a2.tr b2, ?_⟩
          split at b3
          · rename_i q he2
            split at he2
            · rename_i q2 he3; cases he2; rw [he3]; exact b3
            · cases he2
          · rename_i j2 v2 he2
            split at he2
            · cases he2
            · rename_i j3 v3 he3
              cases he2
              rw [he3]
              exact ⟨b3.1, fun w hw => by rw [b3.2 w hw]; dsimp only; rw [a3.2 w hw]⟩
        · rw [if_neg c38, tst_x (q := 0) (Or.inl ⟨a3.1, hj.2.1, c38⟩) hn]
          exact ⟨x, M', rfl, a2, a3⟩
    · intro g dep i M acc c m hg hd hi hf h c38 hc hm
      obtain ⟨m, rfl⟩ : ∃ m', m = m' + 2 := ⟨m - 2, by omega⟩
      rw [itr_s, trm_s h hn (by omega) c38 (by omega)]
      unfold lwS
      rw [if_neg (show ¬ (1 : Nat) = 0 by decide), if_pos rfl]
      have h1 := h.go (i + 1)
      obtain ⟨x, M', a1, a2, a3⟩ := ih0 g dep (i + 1) _ (by omega) hd hi (by omega) h1
      have hb := lw_b (tx := tx) (n := n) f 0 dep (i + 1) hi
      rw [bd_of a1]
      have F1 : Fr [30] M M' := ((Fr.rf _ _).wI (by simp)).tr a2
      split at a3
      · rename_i q he
        rw [he]
        have := trm_x (N := N) (i := i) (Or.inr ⟨a3, hb.1 q he⟩) hn (gr_laws N g).1 (gr_laws N g).2.1 (gr_laws N g).2.2 (nI dep) (acc &&& x) (nI (c + 1)) m
        rw [this]
        exact ⟨_, M', rfl, F1, a3⟩
      · rename_i j v he
        rw [he]
        have hj := hb.2 j v he
        dsimp only
        by_cases d38 : pk tx n j = 38
        · rw [if_pos d38]
          have hjn := pkin d38 (by decide)
          obtain ⟨y, M2, b1, b2, b3⟩ := ih3 g dep j M' (acc &&& x) (c + 1) (m + 1) (by omega) hd hjn (by omega) a3.1 d38 (by omega) (by omega)
          rw [b1]
          refine ⟨y, M2, rfl, F1.tr b2, ?_⟩
          split at b3
          · rename_i q he2
            split at he2
            · rename_i q2 he3; cases he2; rw [he3]; exact b3
            · cases he2
          · rename_i j2 v2 he2
            split at he2
            · cases he2
            · rename_i j3 v3 he3
              cases he2
              rw [he3]
              exact ⟨b3.1, fun w hw => by rw [b3.2 w hw]; dsimp only; rw [b_and, a3.2 w hw, Bool.and_assoc]⟩
        · rw [if_neg d38]
          have := trm_x (N := N) (q := 0) (Or.inl ⟨a3.1, hj.2.1, d38⟩) hn (gr_laws N g).1 (gr_laws N g).2.1 (gr_laws N g).2.2 (nI dep) (acc &&& x) (nI (c + 1)) m
          rw [this]
          exact ⟨_, M', rfl, F1, a3.1, fun w hw => by rw [b_and, a3.2 w hw]⟩
    · intro g dep i M acc c m hg hd hi hf h c38 hc hm
      obtain ⟨m, rfl⟩ : ∃ m', m = m' + 2 := ⟨m - 2, by omega⟩
      rw [itr_s, tst_s h hn (by omega) c38 (by omega)]
      unfold lwS
      rw [if_neg (show ¬ (2 : Nat) = 0 by decide), if_neg (show ¬ (2 : Nat) = 1 by decide)]
      have h1 := h.go (i + 1)
      obtain ⟨x, M', a1, a2, a3⟩ := ih1 g dep (i + 1) _ (by omega) hd hi (by omega) h1
      have hb := lw_b (tx := tx) (n := n) f 1 dep (i + 1) hi
      rw [bd_of a1]
      have F1 : Fr [30] M M' := ((Fr.rf _ _).wI (by simp)).tr a2
      split at a3
      · rename_i q he
        rw [he]
        have := tst_x (N := N) (i := i) (Or.inr ⟨a3, hb.1 q he⟩) hn (gr_laws N g).1 (gr_laws N g).2.1 (gr_laws N g).2.2 (nI dep) (acc ||| x) (nI (c + 1)) m
        rw [this]
        exact ⟨_, M', rfl, F1, a3⟩
      · rename_i j v he
        rw [he]
        have hj := hb.2 j v he
        dsimp only
        by_cases d38 : pk tx n j = 124
        · rw [if_pos d38]
          have hjn := pkin d38 (by decide)
          obtain ⟨y, M2, b1, b2, b3⟩ := ih4 g dep j M' (acc ||| x) (c + 1) (m + 1) (by omega) hd hjn (by omega) a3.1 d38 (by omega) (by omega)
          rw [b1]
          refine ⟨y, M2, rfl, F1.tr b2, ?_⟩
          split at b3
          · rename_i q he2
            split at he2
            · rename_i q2 he3; cases he2; rw [he3]; exact b3
            · cases he2
          · rename_i j2 v2 he2
            split at he2
            · cases he2
            · rename_i j3 v3 he3
              cases he2
              rw [he3]
              exact ⟨b3.1, fun w hw => by rw [b3.2 w hw]; dsimp only; rw [b_or, a3.2 w hw, Bool.or_assoc]⟩
        · rw [if_neg d38]
          have := tst_x (N := N) (q := 0) (Or.inl ⟨a3.1, hj.2.1, d38⟩) hn (gr_laws N g).1 (gr_laws N g).2.1 (gr_laws N g).2.2 (nI dep) (acc ||| x) (nI (c + 1)) m
          rw [this]
          exact ⟨_, M', rfl, F1, a3.1, fun w hw => by rw [b_or, a3.2 w hw]⟩
end Claw
