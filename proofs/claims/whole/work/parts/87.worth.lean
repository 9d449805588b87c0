/-! the reference reckons a rule as it reads -/
def Stb (le : Nat) (W : List Int32) : Prop := ∀ V, wk le W V = some (W, V)
theorem Stb.base {W : List Int32} (h : base W) {le : Nat} (hle : 0 < le) : Stb le W := fun V => base_wk h hle
theorem Stb.c {W : List Int32} {c : Int32} {le : Nat} (h : rkN c < le) : Stb le (c :: W) := fun V => by rw [wk, if_pos h]
theorem rest_d {tx : Nat → Int32} {n : Nat} {sn : Int32 → Bool} {f md dep i j : Nat} {a v : Vl} (hmd : md = 3 ∨ md = 4) (h : rwS tx n sn f md dep i a = .inr (j, v)) (hd : isDg (pk tx n j) = false) : isDg (pk tx n i) = false := by
  cases f with
  | zero => cases h
  | succ f =>
    unfold rwS at h
    rcases hmd with rfl | rfl
    · rw [if_neg (by decide), if_neg (by decide), if_neg (by decide), if_pos rfl] at h
      by_cases c : pk tx n i = 42
      · rw [c]; decide
      · rw [if_neg c] at h; cases h; exact hd
    · rw [if_neg (by decide), if_neg (by decide), if_neg (by decide), if_neg (by decide)] at h
      by_cases c : pk tx n i = 43
      · rw [c]; decide
      · rw [if_neg c] at h
        by_cases c2 : pk tx n i = 45
        · rw [c2]; decide
        · rw [if_neg c2] at h; cases h; exact hd
theorem i_dig (s c : Int32) : 10 * s + c - 48 = s * 10 + (c - 48) := by
  rw [Int32.mul_comm, Int32.sub_eq_add_neg, Int32.sub_eq_add_neg, Int32.add_assoc]
section Worth
variable {N : Nat} {M0 M : Mm} {h n : Nat} {p w : Int32} {sn : Int32 → Bool} {ws vs : List Int32} {i : Nat} {G : Unit → Mm → Rs}
theorem AS.e8 (q : AS M0 i ws vs M) : M.1 8 = M0.1 8 := q.1.1 8 (by simp)
theorem AS.e9 (q : AS M0 i ws vs M) : M.1 9 = M0.1 9 := q.1.1 9 (by simp)
abbrev txr (M0 : Mm) (h : Nat) : Nat → Int32 := fun i => M0.1 8 (40 * h + i)
/-- digits, one after the other -/
theorem digs (hh : h < 4) (hn : n ≤ 40) (h9 : M0.1 9 h = nI n) : ∀ (f i : Nat) (acc : Int32) (M : Mm), i ≤ n → AS M0 i ws vs M → isDg (pk (txr M0 h) n (numS (txr M0 h) n f i acc).1) = false → ∃ Ma, (∀ (G : Int32 → Mm → Rs) (m : Nat), f < m → itr (B_X12_ruleWorth_151 N (nI h) p w G) m acc M = G (numS (txr M0 h) n f i acc).2 Ma) ∧ AS M0 (numS (txr M0 h) n f i acc).1 ws vs Ma := by
  intro f
  have stop : ∀ (i : Nat) (acc : Int32) (M : Mm) (G rec : Int32 → Mm → Rs), i ≤ n → AS M0 i ws vs M → isDg (pk (txr M0 h) n i) = false → B_X12_ruleWorth_151 N (nI h) p w G rec acc M = G acc M := by
    intro i acc M G rec hi hA hd
    unfold B_X12_ruleWorth_151
    rw [inb_n (by omega) (by omega), ix_n (by omega), hA.e9, h9, hA.2.2.1, if_pos rfl]
    by_cases hin : i < n
    · rw [if_pos (by rw [nlt (by omega) (by omega)]; exact hin), lmul40, nI_add, inb_n (by omega) (by omega), ix_n (by omega), hA.e8, if_pos rfl, bd_of (isD_e _)]
      have : M0.1 8 (40 * h + i) = pk (txr M0 h) n i := by unfold pk; rw [if_pos hin]
      rw [this, hd, if_pos b01_f]
    · rw [if_neg (by rw [nlt (by omega) (by omega)]; exact hin)]
  induction f with
  | zero =>
    intro i acc M hi hA hd
    refine ⟨M, fun G m hm => ?_, hA⟩
    obtain ⟨m, rfl⟩ : ∃ m', m = m' + 1 := ⟨m - 1, by omega⟩
    rw [itr_s, stop i acc M _ _ hi hA hd]
    rfl
  | succ f ih =>
    intro i acc M hi hA hd
    unfold numS at hd ⊢
    by_cases hdg : isDg (pk (txr M0 h) n i) = true
    · rw [if_pos hdg] at hd ⊢
      have hin := dg_le hdg
      have eB : ∀ G rec, B_X12_ruleWorth_151 N (nI h) p w G rec acc M = rec (acc * 10 + (pk (txr M0 h) n i - 48)) (wI M 0 22 (nI (i + 1))) := fun G rec => by
        unfold B_X12_ruleWorth_151
        have e8 : M0.1 8 (40 * h + i) = pk (txr M0 h) n i := by unfold pk; rw [if_pos (by omega)]
        simp only [lt_eq]
        rw [inb_n (by omega) (by omega), ix_n (by omega), hA.e9, h9, hA.2.2.1, if_pos rfl, if_pos (by rw [nlt (by omega) (by omega)]; omega), lmul40, nI_add, inb_n (by omega) (by omega), ix_n (by omega), hA.e8, if_pos rfl, bd_of (isD_e _), e8, hdg, if_neg (show ¬ b01 true = 0 by decide), hA.2.2.1, nI_add, inb_n (by omega) (by omega), ix_n (by omega), if_pos rfl, hA.e8, e8, i_dig, nI_1]
      obtain ⟨Ma, a1, a2⟩ := ih (i + 1) (acc * 10 + (pk (txr M0 h) n i - 48)) _ hin (hA.step (j := i + 1) (by omega) (by omega)) hd
      refine ⟨Ma, fun G m hm => ?_, a2⟩
      obtain ⟨m, rfl⟩ : ∃ m', m = m' + 1 := ⟨m - 1, by omega⟩
      rw [itr_s, eB]
      exact a1 G m (by omega)
    · rw [if_neg hdg] at hd ⊢
      refine ⟨M, fun G m hm => ?_, hA⟩
      obtain ⟨m, rfl⟩ : ∃ m', m = m' + 1 := ⟨m - 1, by omega⟩
      rw [itr_s, stop i acc M _ _ hi hA hd]
/-- a turn of the loop begins -/
theorem rbeg (hh : h < 4) (hn : n ≤ 40) (h9 : M0.1 9 h = nI n) (hA : AS M0 i ws vs M) (hin : i < n) (rec : Unit → Mm → Rs) : B_X12_ruleWorth_15 N (nI h) p w G rec () M =
    (if pk (txr M0 h) n i = 120 ∨ pk (txr M0 h) n i = 115 then
      (if inb (nI (40 * h + (i + 1))) 160 then
        (if 3 < M0.1 8 (ix (nI (40 * h + (i + 1)))) - 48 then (bd (f_X12_push N 0 (wI (wI M 0 22 (nI (i + 1))) 0 22 (nI (i + 2)))) fun _ M18 => rec () M18)
        else if pk (txr M0 h) n i = 120 then (bd (f_X12_push N ((p >>> ((2 * (M0.1 8 (ix (nI (40 * h + (i + 1)))) - 48)) &&& 31)) &&& 3) (wI (wI M 0 22 (nI (i + 1))) 0 22 (nI (i + 2)))) fun _ M16 => rec () M16)
        else (bd (f_X12_push N ((w >>> ((M0.1 8 (ix (nI (40 * h + (i + 1)))) - 48) &&& 31)) &&& 1) (wI (wI M 0 22 (nI (i + 1))) 0 22 (nI (i + 2)))) fun _ M12 => rec () M12)) else none)
    else if isDg (pk (txr M0 h) n i) then (itr (B_X12_ruleWorth_151 N (nI h) p w fun z37 M38 => (bd (f_X12_push N z37 M38) fun _ M40 => rec () M40)) N (pk (txr M0 h) n i - 48) (wI M 0 22 (nI (i + 1))))
    else if pk (txr M0 h) n i = 41 then (bd (f_X12_works N 1 (wI M 0 22 (nI (i + 1)))) fun _ M30 => rec () (wI M30 0 20 ((M30.1 0 20) - 1)))
    else if pk (txr M0 h) n i = 40 then (bd (f_X12_waitsFor N (pk (txr M0 h) n i) (wI M 0 22 (nI (i + 1)))) fun _ M22 => rec () M22)
    else (bd (f_X12_works N (nI (rkN (pk (txr M0 h) n i))) (wI M 0 22 (nI (i + 1)))) fun _ M26 => bd (f_X12_waitsFor N (pk (txr M0 h) n i) M26) fun _ M28 => rec () M28)) := by
  have e8 : M0.1 8 (40 * h + i) = pk (txr M0 h) n i := by unfold pk; rw [if_pos hin]
  have hS := hA.step (j := i + 1) (by omega) (by omega)
  unfold B_X12_ruleWorth_15
  rw [inb_n (by omega) (by omega), ix_n (by omega), hA.e9, h9, hA.2.2.1, if_pos rfl, if_pos (by rw [nlt (by omega) (by omega)]; exact hin), lmul40, nI_add, inb_n (by omega) (by omega), ix_n (by omega), hA.e8, if_pos rfl, e8]
  simp only [lt_eq]
  rw [nI_1, hS.2.2.1, nI_add, hS.e8, nI_1]
  have ef : ∀ (a : Int32) (M : Mm), f_X12_ferries N p a M = some ((p >>> ((2 * a) &&& 31)) &&& 3, M) := fun _ _ => rfl
  simp only [bd_of (ef _ _)]
  by_cases c1 : pk (txr M0 h) n i = 120
  · rw [if_pos c1, if_pos (Or.inl c1)]
  · rw [if_neg c1]
    by_cases c2 : pk (txr M0 h) n i = 115
    · rw [if_pos c2, if_pos (Or.inr c2)]
    · rw [if_neg c2, if_neg (show ¬ (pk (txr M0 h) n i = 120 ∨ pk (txr M0 h) n i = 115) from fun q => q.elim c1 c2), bd_of (isD_e _)]
      cases hd : isDg (pk (txr M0 h) n i)
      · rw [if_pos b01_f, if_neg (show ¬ false = true by decide)]
        by_cases c3 : pk (txr M0 h) n i = 41
        · rw [if_pos c3, if_pos c3]
        · rw [if_neg c3, if_neg c3]
          by_cases c4 : pk (txr M0 h) n i = 40
          · rw [if_pos c4, if_pos c4]
          · rw [if_neg c4, if_neg c4, bd_of (rank_e _)]
      · rw [if_neg (show ¬ b01 true = 0 by decide), if_pos rfl]
theorem wk_len {r : Nat} : ∀ {ws vs W V : List Int32}, wk r ws vs = some (W, V) → W.length ≤ ws.length := by
  intro ws
  induction ws with
  | nil => intro vs W V h; cases h; exact Nat.le_refl _
  | cons c ws ih =>
    intro vs W V h
    unfold wk at h
    split at h
    · cases h; exact Nat.le_refl _
    · split at h
      · cases h
      · have := ih h
        show _ ≤ ws.length + 1
        omega
/-- the sign between two -/
theorem rmid (hN : 100000 ≤ N) (hh : h < 4) (hn : n ≤ 40) (h9 : M0.1 9 h = nI n) {c : Int32} {r : Nat} {W V : List Int32} (hc : c = 43 ∨ c = 45 ∨ c = 42) (hr : rkN c = r) (hp : pk (txr M0 h) n i = c) (hA : AS M0 i ws vs M) (hk : wk r ws vs = some (W, V)) : ∃ M', Rc (B_X12_ruleWorth_15 N (nI h) p w G) () M () M' 1 ∧ AS M0 (i + 1) (c :: W) V M' := by
  have hin := pkin hp (by rcases hc with rfl | rfl | rfl <;> decide)
  obtain ⟨M1, a1, a2⟩ := works_e hN (by have := rkN_5 c; omega : r ≤ 5) (hA.step (j := i + 1) (by omega) (by omega)) hk
  have hlen : W.length ≤ i := by
    have a := hA.2.2.2.2.2.2.2.2.1
    have := wk_len hk
    omega
  obtain ⟨M2, b1, b2⟩ := a2.wait (N := N) (by omega) c
  refine ⟨M2, Rc.one (fun rec => ?_), b2⟩
  rw [rbeg hh hn h9 hA hin rec, hp, hr, if_neg (by rcases hc with rfl | rfl | rfl <;> decide), if_neg (by rcases hc with rfl | rfl | rfl <;> decide), if_neg (by rcases hc with rfl | rfl | rfl <;> decide), if_neg (by rcases hc with rfl | rfl | rfl <;> decide), bd_of a1, bd_of b1]
theorem wor_m (hN : 100000 ≤ N) (hh : h < 4) (hn : n ≤ 40) (h9 : M0.1 9 h = nI n) (hsn : SnOk sn) : ∀ (f : Nat),
    (∀ dep i j v a ws vs M, i ≤ n → rwS (txr M0 h) n sn f 0 dep i a = .inr (j, v) → AS M0 i ws vs M → isDg (pk (txr M0 h) n j) = false → ∃ k M', k ≤ j - i ∧ Rc (B_X12_ruleWorth_15 N (nI h) p w G) () M () M' k ∧ AS M0 j ws (v p w :: vs) M') ∧
    (∀ dep i j v a W V M, i ≤ n → rwS (txr M0 h) n sn f 1 dep i a = .inr (j, v) → AS M0 i W V M → Stb 5 W → isDg (pk (txr M0 h) n j) = false → ∃ k M' ws' vs', k ≤ j - i ∧ Rc (B_X12_ruleWorth_15 N (nI h) p w G) () M () M' k ∧ AS M0 j ws' vs' M' ∧ wk 5 ws' vs' = some (W, v p w :: V)) ∧
    (∀ dep i j v a W V M, i ≤ n → rwS (txr M0 h) n sn f 2 dep i a = .inr (j, v) → AS M0 i W V M → base W → isDg (pk (txr M0 h) n j) = false → ∃ k M' ws' vs', k ≤ j - i ∧ Rc (B_X12_ruleWorth_15 N (nI h) p w G) () M () M' k ∧ AS M0 j ws' vs' M' ∧ wk 4 ws' vs' = some (W, v p w :: V)) ∧
    (∀ dep i j v a ws vs W V M, i ≤ n → rwS (txr M0 h) n sn f 3 dep i a = .inr (j, v) → AS M0 i ws vs M → wk 5 ws vs = some (W, a p w :: V) → Stb 5 W → isDg (pk (txr M0 h) n j) = false → ∃ k M' ws' vs', k ≤ j - i ∧ Rc (B_X12_ruleWorth_15 N (nI h) p w G) () M () M' k ∧ AS M0 j ws' vs' M' ∧ wk 5 ws' vs' = some (W, v p w :: V)) ∧
    (∀ dep i j v a ws vs W V M, i ≤ n → rwS (txr M0 h) n sn f 4 dep i a = .inr (j, v) → AS M0 i ws vs M → wk 4 ws vs = some (W, a p w :: V) → base W → isDg (pk (txr M0 h) n j) = false → ∃ k M' ws' vs', k ≤ j - i ∧ Rc (B_X12_ruleWorth_15 N (nI h) p w G) () M () M' k ∧ AS M0 j ws' vs' M' ∧ wk 4 ws' vs' = some (W, v p w :: V)) := by
  intro f
  induction f with
  | zero =>
    refine ⟨fun dep i j v a ws vs M hi q => ?_, fun dep i j v a W V M hi q => ?_, fun dep i j v a W V M hi q => ?_, fun dep i j v a ws vs W V M hi q => ?_, fun dep i j v a ws vs W V M hi q => ?_⟩ <;> cases q
  | succ f ih =>
    obtain ⟨ih0, ih1, ih2, ih3, ih4⟩ := ih
    have rc0 : ∀ M, Rc (B_X12_ruleWorth_15 N (nI h) p w G) () M () M 0 := fun M m => rfl
    refine ⟨?_, ?_, ?_, ?_, ?_⟩
    · -- a unit
      intro dep i j v a ws vs M hi hs hA hd
      unfold rwS at hs
      rw [if_pos rfl] at hs
      have hvl := hA.2.2.2.2.2.2.2.2.2
      have hwl := hA.2.2.2.2.2.2.2.2.1
      by_cases hdg : isDg (pk (txr M0 h) n i) = true
      · rw [if_pos hdg] at hs
        cases hs
        have hin := dg_le hdg
        have n1 : ¬ (pk (txr M0 h) n i = 120 ∨ pk (txr M0 h) n i = 115) := by
          rintro (q | q) <;> rw [q] at hdg <;> exact absurd hdg (by decide)
        have e3 : numS (txr M0 h) n 3 i 0 = numS (txr M0 h) n 2 (i + 1) (pk (txr M0 h) n i - 48) := by
          show (if isDg (pk (txr M0 h) n i) then numS (txr M0 h) n 2 (i + 1) (0 * 10 + (pk (txr M0 h) n i - 48)) else (i, 0)) = _
          rw [if_pos hdg, Int32.zero_mul, Int32.zero_add]
        rw [e3] at hd ⊢
        have l2 := num_b (tx := txr M0 h) (n := n) 2 (i + 1) (pk (txr M0 h) n i - 48) hin
        obtain ⟨Ma, a1, a2⟩ := digs (N := N) (p := p) (w := w) hh hn h9 2 (i + 1) (pk (txr M0 h) n i - 48) _ hin (hA.step (j := i + 1) (by omega) (by omega)) hd
        obtain ⟨Mb, b1, b2⟩ := a2.push (N := N) (by omega) (numS (txr M0 h) n 2 (i + 1) (pk (txr M0 h) n i - 48)).2
        refine ⟨1, Mb, by omega, Rc.one (fun rec => ?_), b2⟩
        rw [rbeg hh hn h9 hA (by omega) rec, if_neg n1, if_pos hdg, a1 _ N (by omega)]
        try dsimp only
        rw [bd_of b1]
      · rw [if_neg hdg] at hs
        by_cases c120 : pk (txr M0 h) n i = 120
        · rw [if_pos c120] at hs
          have hin := pkin c120 (by decide)
          split at hs
          · rename_i hd2
            cases hs
            have hin2 := dg_le hd2
            obtain ⟨k, k1, k2, k3⟩ := dg_of hd2
            have e8 : M0.1 8 (40 * h + (i + 1)) = pk (txr M0 h) n (i + 1) := by unfold pk; rw [if_pos (by omega)]
            have hS := (hA.step (j := i + 1) (by omega) (by omega)).step (j := i + 2) (by omega) (by omega)
            obtain ⟨Mb, b1, b2⟩ := hS.push (N := N) (by omega) (ferS (pk (txr M0 h) n (i + 1) - 48) p w)
            refine ⟨1, Mb, by omega, Rc.one (fun rec => ?_), b2⟩
            rw [rbeg hh hn h9 hA (by omega) rec, if_pos (Or.inl c120), inb_n (by omega) (by omega), ix_n (by omega), if_pos rfl, e8, k3]
            rw [k3] at b1
            unfold ferS at b1
            by_cases h4 : nI k < 4
            · rw [if_pos h4] at b1
              rw [if_neg (show ¬ 3 < nI k by rw [gt3 (by omega)]; rw [lt4 (by omega)] at h4; omega), if_pos c120, bd_of b1]
            · rw [if_neg h4] at b1
              rw [if_pos (show 3 < nI k by rw [gt3 (by omega)]; rw [lt4 (by omega)] at h4; omega), bd_of b1]
          · cases hs
        · rw [if_neg c120] at hs
          by_cases c115 : pk (txr M0 h) n i = 115
          · rw [if_pos c115] at hs
            have hin := pkin c115 (by decide)
            split at hs
            · rename_i hs2
              cases hs
              have hin2 := (sn_le hsn hs2).1
              obtain ⟨k, k1, k3⟩ := hsn _ hs2
              have e8 : M0.1 8 (40 * h + (i + 1)) = pk (txr M0 h) n (i + 1) := by unfold pk; rw [if_pos (by omega)]
              have hS := (hA.step (j := i + 1) (by omega) (by omega)).step (j := i + 2) (by omega) (by omega)
              obtain ⟨Mb, b1, b2⟩ := hS.push (N := N) (by omega) (seeS (pk (txr M0 h) n (i + 1) - 48) p w)
              refine ⟨1, Mb, by omega, Rc.one (fun rec => ?_), b2⟩
              rw [rbeg hh hn h9 hA (by omega) rec, if_pos (Or.inr c115), inb_n (by omega) (by omega), ix_n (by omega), if_pos rfl, e8, k3]
              rw [k3] at b1
              unfold seeS at b1
              rw [if_neg (show ¬ 3 < nI k by rw [gt3 (by omega)]; omega), if_neg c120, bd_of b1]
            · cases hs
          · rw [if_neg c115] at hs
            by_cases c40 : pk (txr M0 h) n i = 40
            · rw [if_pos c40] at hs
              have hin := pkin c40 (by decide)
              have hb := rw_b (tx := txr M0 h) (n := n) hsn f 2 (dep + 1) (i + 1) a hin
              split at hs
              · split at hs
                · cases hs
                · rename_i j' v' he
                  split at hs
                  · rename_i h41
                    cases hs
                    have hj := hb.2 j' v he
                    have hjn := pkin h41 (by decide)
                    obtain ⟨M1, a1, a2⟩ := (hA.step (j := i + 1) (by omega) (by omega)).wait (N := N) (by omega) 40
                    obtain ⟨k, M2, ws', vs', x3, x4, x5, x6⟩ := ih2 _ _ _ _ _ (40 :: ws) vs _ hin he a2 (Or.inr ⟨ws, rfl⟩) (by rw [h41]; decide)
                    have x7 : wk 1 ws' vs' = some (40 :: ws, v p w :: vs) := by rw [wk_wk (by omega) x6]; exact base_wk (Or.inr ⟨ws, rfl⟩) (by omega)
                    obtain ⟨M3, b1, b2⟩ := works_e hN (by omega : 1 ≤ 5) (x5.step (j := j' + 1) (by omega) (by omega)) x7
                    have b1' : f_X12_works N 1 (wI M2 0 22 (nI (j' + 1))) = some (0, M3) := b1
                    have e20 : M3.1 0 20 = nI (ws.length + 1) := b2.2.2.2.1
                    refine ⟨1 + (k + 1), _, by omega, Rc.tr (Rc.one (fun rec => ?_)) (x4.tr (Rc.one (fun rec => ?_))), b2.drop⟩
                    · rw [rbeg hh hn h9 hA (by omega) rec, c40, if_neg (by decide), if_neg (by decide), if_neg (by decide), if_pos rfl, bd_of a1]
                    · rw [rbeg hh hn h9 x5 (by omega) rec, h41, if_neg (by decide), if_neg (by decide), if_pos rfl, bd_of b1', e20, dec1]
                  · cases hs
              · cases hs
            · rw [if_neg c40] at hs; cases hs
    · -- a product
      intro dep i j v a W V M hi hs hA hW hd
      unfold rwS at hs
      rw [if_neg (by decide), if_pos rfl] at hs
      have hb := rw_b (tx := txr M0 h) (n := n) hsn f 0 dep i a hi
      split at hs
      · cases hs
      · rename_i j1 v1 he
        have hj := hb.2 j1 v1 he
        have hb2 := (rw_b (tx := txr M0 h) (n := n) hsn f 3 dep j1 v1 hj.2.1).2 j v hs
        obtain ⟨k, M1, x1, x2, x3⟩ := ih0 _ _ _ _ _ _ _ _ hi he hA (rest_d (Or.inl rfl) hs hd)
        obtain ⟨k2, M2, ws', vs', y1, y2, y3, y4⟩ := ih3 _ _ _ _ _ _ _ W V _ hj.2.1 hs x3 (hW _) hW hd
        exact ⟨k + k2, M2, ws', vs', by omega, x2.tr y2, y3, y4⟩
    · -- a sum
      intro dep i j v a W V M hi hs hA hW hd
      unfold rwS at hs
      rw [if_neg (by decide), if_neg (by decide), if_pos rfl] at hs
      have hb := rw_b (tx := txr M0 h) (n := n) hsn f 1 dep i a hi
      split at hs
      · cases hs
      · rename_i j1 v1 he
        have hj := hb.2 j1 v1 he
        have hb2 := (rw_b (tx := txr M0 h) (n := n) hsn f 4 dep j1 v1 hj.2.1).2 j v hs
        obtain ⟨k, M1, ws1, vs1, x1, x2, x3, x4⟩ := ih1 _ _ _ _ _ _ _ _ hi he hA (Stb.base hW (by omega)) (rest_d (Or.inr rfl) hs hd)
        have x5 : wk 4 ws1 vs1 = some (W, v1 p w :: V) := by rw [wk_wk (by omega) x4]; exact base_wk hW (by omega)
        obtain ⟨k2, M2, ws', vs', y1, y2, y3, y4⟩ := ih4 _ _ _ _ _ _ _ W V _ hj.2.1 hs x3 x5 hW hd
        exact ⟨k + k2, M2, ws', vs', by omega, x2.tr y2, y3, y4⟩
    · -- the rest of a product
      intro dep i j v a ws vs W V M hi hs hA hk hW hd
      unfold rwS at hs
      rw [if_neg (by decide), if_neg (by decide), if_neg (by decide), if_pos rfl] at hs
      by_cases c42 : pk (txr M0 h) n i = 42
      · rw [if_pos c42] at hs
        have hin := pkin c42 (by decide)
        have hb := rw_b (tx := txr M0 h) (n := n) hsn f 0 dep (i + 1) a hin
        split at hs
        · cases hs
        · rename_i j1 v1 he
          have hj := hb.2 j1 v1 he
          have hb2 := (rw_b (tx := txr M0 h) (n := n) hsn f 3 dep j1 (fun p w => a p w * v1 p w) hj.2.1).2 j v hs
          obtain ⟨M1, x1, x2⟩ := rmid (p := p) (w := w) (G := G) hN hh hn h9 (c := 42) (Or.inr (Or.inr rfl)) rfl c42 hA hk
          obtain ⟨k, M2, y1, y2, y3⟩ := ih0 _ _ _ _ _ _ _ _ hin he x2 (rest_d (Or.inl rfl) hs hd)
          have y4 : wk 5 (42 :: W) (v1 p w :: a p w :: V) = some (W, (a p w * v1 p w) :: V) := by
            rw [wk, if_neg (by decide)]
            show wk 5 W (opI 42 (a p w) (v1 p w) :: V) = _
            rw [hW]
            rfl
          obtain ⟨k2, M3, ws', vs', z1, z2, z3, z4⟩ := ih3 _ _ _ _ _ _ _ W V _ hj.2.1 hs y3 y4 hW hd
          exact ⟨1 + (k + k2), M3, ws', vs', by omega, x1.tr (y2.tr z2), z3, z4⟩
      · rw [if_neg c42] at hs
        cases hs
        exact ⟨0, M, ws, vs, by omega, rc0 M, hA, hk⟩
    · -- the rest of a sum
      intro dep i j v a ws vs W V M hi hs hA hk hW hd
      unfold rwS at hs
      rw [if_neg (by decide), if_neg (by decide), if_neg (by decide), if_neg (by decide)] at hs
      have go : ∀ (c : Int32) (op : Vl → Vl), (c = 43 ∨ c = 45) → pk (txr M0 h) n i = c → (∀ v1, opI c (a p w) (v1 p w) = op v1 p w) → (match rwS (txr M0 h) n sn f 1 dep (i + 1) a with | .inl q => .inl q | .inr (j, v) => rwS (txr M0 h) n sn f 4 dep j (op v) : RR) = .inr (j, v) → ∃ k M' ws' vs', k ≤ j - i ∧ Rc (B_X12_ruleWorth_15 N (nI h) p w G) () M () M' k ∧ AS M0 j ws' vs' M' ∧ wk 4 ws' vs' = some (W, v p w :: V) := by
        intro c op hc hp hop hs
        have hin := pkin hp (by rcases hc with rfl | rfl <;> decide)
        have hr : rkN c = 4 := by rcases hc with rfl | rfl <;> decide
        have n33 : ¬ c = 33 := by rcases hc with rfl | rfl <;> decide
        have hb := rw_b (tx := txr M0 h) (n := n) hsn f 1 dep (i + 1) a hin
        split at hs
        · cases hs
        · rename_i j1 v1 he
          have hj := hb.2 j1 v1 he
          have hb2 := (rw_b (tx := txr M0 h) (n := n) hsn f 4 dep j1 (op v1) hj.2.1).2 j v hs
          obtain ⟨M1, x1, x2⟩ := rmid (p := p) (w := w) (G := G) hN hh hn h9 (c := c) (by rcases hc with h | h; exact Or.inl h; exact Or.inr (Or.inl h)) hr hp hA hk
          obtain ⟨k, M2, ws1, vs1, y1, y2, y3, y4⟩ := ih1 _ _ _ _ _ _ _ _ hin he x2 (Stb.c (by omega)) (rest_d (Or.inr rfl) hs hd)
          have y5 : wk 4 ws1 vs1 = some (W, op v1 p w :: V) := by
            rw [wk_wk (by omega) y4, wk, if_neg (by omega)]
            unfold apO
            rw [if_neg n33]
            dsimp only
            rw [hop]
            exact base_wk hW (by omega)
          obtain ⟨k2, M3, ws', vs', z1, z2, z3, z4⟩ := ih4 _ _ _ _ _ _ _ W V _ hj.2.1 hs y3 y5 hW hd
          exact ⟨1 + (k + k2), M3, ws', vs', by omega, x1.tr (y2.tr z2), z3, z4⟩
      by_cases c43 : pk (txr M0 h) n i = 43
      · rw [if_pos c43] at hs
        exact go 43 (fun v p w => a p w + v p w) (Or.inl rfl) c43 (fun _ => rfl) hs
      · rw [if_neg c43] at hs
        by_cases c45 : pk (txr M0 h) n i = 45
        · rw [if_pos c45] at hs
          exact go 45 (fun v p w => a p w - v p w) (Or.inr rfl) c45 (fun _ => rfl) hs
        · rw [if_neg c45] at hs
          cases hs
          exact ⟨0, M, ws, vs, by omega, rc0 M, hA, hk⟩
end Worth
section Worth2
variable {N : Nat} {M0 : Mm} {h n : Nat} {sn : Int32 → Bool}
/-- the value of a harbour's rule, as the reference has it -/
theorem worth_r (hN : 100000 ≤ N) (hh : h < 4) (hn : n ≤ 40) (h9 : M0.1 9 h = nI n) (hsn : SnOk sn) {v : Vl} (hs : rwS (txr M0 h) n sn 200 2 0 0 (fun _ _ => 0) = .inr (n, v)) (p w : Int32) : ∃ M', f_X12_ruleWorth N (nI h) p w M0 = some (v p w, M') ∧ Fr [0, 13, 14] M0 M' ∧ ∀ k, k ≠ 20 → k ≠ 21 → k ≠ 22 → M'.1 0 k = M0.1 0 k := by
  have hA : AS M0 0 [] [] (wI (wI (wI M0 0 22 0) 0 20 0) 0 21 0) := by
    refine ⟨(((Fr.rf _ _).wI (by simp)).wI (by simp)).wI (by simp), fun k k1 k2 k3 => by simp [wI_g, upd_g, k1, k2, k3], by simp [wI_g, upd_g]; rfl, by simp [wI_g, upd_g]; rfl, by simp [wI_g, upd_g]; rfl, True.intro, True.intro, by omega, Nat.le_refl _, Nat.le_refl _⟩
  have hd : isDg (pk (txr M0 h) n n) = false := by
    have : pk (txr M0 h) n n = -1 := by unfold pk; rw [if_neg (by omega)]
    rw [this]; exact dg_m1
  obtain ⟨k, M1, ws', vs', x3, x4, x5, x6⟩ := (wor_m (p := p) (w := w) (G := fun _ M42 => (bd (f_X12_works N 1 M42) fun _ M44 => some (M44.1 14 (ix 0), M44))) hN hh hn h9 hsn 200).2.2.1 _ _ _ _ _ [] [] _ (by omega) hs hA (Or.inl rfl) hd
  have x7 : wk 1 ws' vs' = some ([], [v p w]) := by rw [wk_wk (by omega) x6]; rfl
  obtain ⟨M2, y1, y2⟩ := works_e hN (by omega : 1 ≤ 5) x5 x7
  have y1' : f_X12_works N 1 M1 = some (0, M2) := y1
  refine ⟨M2, ?_, y2.1, y2.2.1⟩
  unfold f_X12_ruleWorth
  simp only [lt_eq]
  have := x4 (N - k)
  rw [show N - k + k = N by omega] at this
  refine Eq.trans this ?_
  obtain ⟨N', hN'⟩ : ∃ N', N - k = N' + 1 := ⟨N - k - 1, by omega⟩
  have eB : ∀ G rec, B_X12_ruleWorth_15 N (nI h) p w G rec () M1 = G () M1 := fun G rec => by
    unfold B_X12_ruleWorth_15
    rw [inb_n (by omega) (by omega), ix_n (by omega), x5.e9, h9, x5.2.2.1, if_pos rfl, if_neg (by rw [nlt (by omega) (by omega)]; omega)]
  rw [hN', itr_s, eB, bd_of y1']
  have e14 : M2.1 14 0 = v p w := y2.2.2.2.2.2.2.1.1
  rw [show ix (0 : Int32) = 0 by rfl, e14]
end Worth2
