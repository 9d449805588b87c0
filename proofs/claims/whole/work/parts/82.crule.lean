/-! the class reads a rule -/
abbrev Up : Type := Int32 → Int32 → List Int32 → List Int32
def RO (tx : Nat → Int32) (n i c : Nat) (M : Mm) (u : Up) (o : RR) (R : Rs) : Prop := ∃ x M', R = some (x, M') ∧ Fr [30, 35, 36] M M' ∧ match o with
  | .inl q => Tf tx n q M' ∧ ∃ c', c' ≤ 40 ∧ M'.1 35 1 = nI c'
  | .inr (j, v) => Tx tx n j M' ∧ ∃ k, k ≤ j - i ∧ M'.1 35 1 = nI (c + k) ∧ (∀ i, i < c → M'.1 36 i = M.1 36 i) ∧ ∀ p w st, rpR (M'.1 36) p w c k (u p w st) = some (v p w :: st)
def u0 : Up := fun _ _ st => st
def u1 (a : Vl) : Up := fun p w st => a p w :: st
section Crule
variable {N : Nat} {M : Mm} {tx : Nat → Int32} {n i q c : Nat} {u : Up} {sn : Int32 → Bool} {sd : Int32}
theorem Tx.fr {M' : Mm} (h : Tx tx n i M) (h1 : M'.1 30 = M.1 30) (h2 : M'.1 31 = M.1 31) : Tx tx n i M' := by
  unfold Tx at *
  rw [h1, h2]; exact h
theorem Tf.fr {M' : Mm} (h : Tf tx n i M) (h1 : M'.1 30 = M.1 30) (h2 : M'.1 31 = M.1 31) : Tf tx n i M' := by
  unfold Tf at *
  rw [h1, h2]; exact h
theorem add_e (hc : M.1 35 1 = nI c) (h : c ≤ 40) (x : Int32) : ∃ M', f_X7_add N x M = some (0, M') ∧ Fr [35, 36] M M' ∧ (∃ c', c' ≤ 40 ∧ M'.1 35 1 = nI c') ∧ (c < 40 → M'.1 35 1 = nI (c + 1) ∧ M'.1 36 = upd (M.1 36) c x) := by
  unfold f_X7_add
  rw [hc]
  by_cases h4 : c < 40
  · rw [if_pos (show nI c < 40 by rw [lt40 (by omega)]; exact h4), inb_n (by omega) (by omega), ix_n (by omega), if_pos rfl]
    simp only [lt_eq]
    have e : (wI M 36 c x).1 35 1 = nI c := by rw [wI_g, if_neg (by omega)]; exact hc
    rw [e, nI_1]
    have e1 : (wI (wI M 36 c x) 35 1 (nI (c + 1))).1 35 1 = nI (c + 1) := by simp [wI_g, upd_g]
    refine ⟨_, rfl, ((Fr.rf _ _).wI (by simp)).wI (by simp), ⟨c + 1, by omega, e1⟩, fun _ => ⟨e1, by simp [wI_g]⟩⟩
  · rw [if_neg (show ¬ nI c < 40 by rw [lt40 (by omega)]; exact h4)]
    exact ⟨M, rfl, Fr.rf _ _, ⟨c, h, hc⟩, fun q => absurd q h4⟩
/-- one part more, behind what was read -/
theorem RO.one {Ma : Mm} {j : Nat} {v : Vl} (h : Tx tx n j Ma) (F : Fr [30] M Ma) (hc : M.1 35 1 = nI c) (hci : c ≤ i) (hij : i < j) (hj : j ≤ 40) {x : Int32} (hx : ∀ p w st, stp p w x (u p w st) = some (v p w :: st)) : ∃ M', f_X7_add N x Ma = some (0, M') ∧ RO tx n i c M u (.inr (j, v)) (some (0, M')) := by
  obtain ⟨M', a1, a2, a3, a4⟩ := add_e (N := N) (M := Ma) (by rw [F.1 35 (by decide)]; exact hc) (by omega) x
  obtain ⟨b1, b2⟩ := a4 (by omega)
  refine ⟨M', a1, 0, M', rfl, (F.mono (by simp)).tr (a2.mono (by simp)), h.fr (a2.1 30 (by decide)) (a2.1 31 (by decide)), 1, by omega, b1, fun i hi => ?_, fun p w st => ?_⟩
  · rw [b2, upd_ne (by omega), F.1 36 (by decide)]
  · rw [rp_1, b2, upd_at]; exact hx p w st
theorem RO.bad {Ma : Mm} {q : Nat} (h : Tf tx n q Ma) (F : Fr [30] M Ma) (hc : M.1 35 1 = nI c) (hci : c ≤ 40) : RO tx n i c M u (.inl q) (some (0, Ma)) := ⟨0, Ma, rfl, F.mono (by simp), h, c, hci, by rw [F.1 35 (by decide)]; exact hc⟩
theorem RO.badd {Ma : Mm} {q : Nat} (h : Tf tx n q Ma) (F : Fr [30] M Ma) (hc : M.1 35 1 = nI c) (hci : c ≤ 40) (x : Int32) : ∃ M', f_X7_add N x Ma = some (0, M') ∧ RO tx n i c M u (.inl q) (some (0, M')) := by
  obtain ⟨M', a1, a2, a3, a4⟩ := add_e (N := N) (M := Ma) (by rw [F.1 35 (by decide)]; exact hc) hci x
  exact ⟨M', a1, 0, M', rfl, (F.mono (by simp)).tr (a2.mono (by simp)), h.fr (a2.1 30 (by decide)) (a2.1 31 (by decide)), a3⟩
theorem rnum_l (hn : n ≤ 40) (G : Int32 → Mm → Rs) : ∀ (f i : Nat) (acc : Int32) (cnt m : Nat) (M : Mm), cnt + f = 3 → f < m → i ≤ n → Tx tx n i M → ∃ Ma, itr (B_X8_readNumber_4 N G) m (acc, nI cnt) M = G (numS tx n f i acc).2 Ma ∧ Tx tx n (numS tx n f i acc).1 Ma ∧ Fr [30] M Ma := by
  intro f
  induction f with
  | zero =>
    intro i acc cnt m M h1 h2 hi h
    obtain ⟨m, rfl⟩ : ∃ m', m = m' + 1 := ⟨m - 1, by omega⟩
    have : cnt = 3 := by omega
    subst this
    refine ⟨M, ?_, h, Fr.rf _ _⟩
    rw [itr_s]
    have eB : ∀ rec, B_X8_readNumber_4 N G rec (acc, nI 3) M = G acc M := fun rec => by
      unfold B_X8_readNumber_4
      dsimp only
      rw [if_neg (show ¬ nI 3 < 3 by decide)]
    rw [eB]
    rfl
  | succ f ih =>
    intro i acc cnt m M h1 h2 hi h
    obtain ⟨m, rfl⟩ : ∃ m', m = m' + 1 := ⟨m - 1, by omega⟩
    rw [itr_s]
    unfold numS
    by_cases hd : isDg (pk tx n i) = true
    · have eB : ∀ rec, B_X8_readNumber_4 N G rec (acc, nI cnt) M = rec (acc * 10 + (pk tx n i - 48), nI (cnt + 1)) (wI M 30 2 (nI (i + 1))) := fun rec => by
        unfold B_X8_readNumber_4
        dsimp only
        rw [if_pos (show nI cnt < 3 by rw [lt3 (by omega)]; omega), bd_of (atd_e h hn hi), hd, if_neg (show ¬ b01 true = 0 by decide), bd_of (digit_t h hn hi hd), nI_1]
        rfl
      rw [eB, if_pos hd]
      obtain ⟨Ma, a1, a2, a3⟩ := ih (i + 1) (acc * 10 + (pk tx n i - 48)) (cnt + 1) m _ (by omega) (by omega) (dg_le hd) (h.go (i + 1))
      exact ⟨Ma, a1, a2, ((Fr.rf _ _).wI (by simp)).tr a3⟩
    · have hd' : isDg (pk tx n i) = false := by cases e : isDg (pk tx n i) <;> simp_all
      have eB : ∀ rec, B_X8_readNumber_4 N G rec (acc, nI cnt) M = G acc M := fun rec => by
        unfold B_X8_readNumber_4
        dsimp only
        rw [if_pos (show nI cnt < 3 by rw [lt3 (by omega)]; omega), bd_of (atd_e h hn hi), hd', if_pos b01_f]
      rw [eB, if_neg hd]
      exact ⟨M, rfl, h, Fr.rf _ _⟩
/-- the four kinds of parts that stand for a value -/
theorem stp_n {z : Nat} (hz : z < 1000) (p w : Int32) (st : List Int32) : stp p w (nI z) st = some (nI z :: st) := by
  unfold stp rpV
  rw [if_pos (by rw [ltc (c := 1020) (n := 1020) rfl (by omega) (by omega)]; omega), if_pos (by rw [ltc (c := 1000) (n := 1000) rfl (by omega) (by omega)]; omega)]
theorem stp_f {k : Nat} (hk : k < 4) (p w : Int32) (st : List Int32) : stp p w (1000 + nI k) st = some (ferS (nI k) p w :: st) := by
  have e : 1000 + nI k = nI (1000 + k) := by show nI 1000 + nI k = _; rw [nI_add]
  have e2 : nI (1000 + k) - 1000 = nI k := by show nI (1000 + k) - nI 1000 = _; rw [nI_subl (by omega), Nat.add_sub_cancel_left]
  unfold stp rpV ferS
  rw [e, e2, if_pos (by rw [ltc (c := 1020) (n := 1020) rfl (by omega) (by omega)]; omega), if_neg (by rw [ltc (c := 1000) (n := 1000) rfl (by omega) (by omega)]; omega), if_pos (by rw [ltc (c := 1010) (n := 1010) rfl (by omega) (by omega)]; omega), if_pos (by rw [lt4 (by omega)]; exact hk)]
theorem stp_s {k : Nat} (hk : k < 4) (p w : Int32) (st : List Int32) : stp p w (1010 + nI k) st = some (seeS (nI k) p w :: st) := by
  have e : 1010 + nI k = nI (1010 + k) := by show nI 1010 + nI k = _; rw [nI_add]
  have e2 : nI (1010 + k) - 1010 = nI k := by show nI (1010 + k) - nI 1010 = _; rw [nI_subl (by omega), Nat.add_sub_cancel_left]
  unfold stp rpV seeS
  rw [e, e2, if_pos (by rw [ltc (c := 1020) (n := 1020) rfl (by omega) (by omega)]; omega), if_neg (by rw [ltc (c := 1000) (n := 1000) rfl (by omega) (by omega)]; omega), if_neg (by rw [ltc (c := 1010) (n := 1010) rfl (by omega) (by omega)]; omega)]
/-- whether a harbour is bad, where that is seen -/
theorem rseen_e (hn : n ≤ 40) (h : Tx tx n i M) (hi : i ≤ n) (hsn : SnOk sn) (hsd : ∀ k, k < 4 → sn (nI k) = bt sd k) (h34 : M.1 34 3 = sd) (hc : M.1 35 1 = nI c) (hci : c + 1 ≤ i) : ∃ M', f_X8_readSeen N M = some (0, M') ∧ RO tx n (i - 1) c M u0 (if sn (pk tx n i - 48) then .inr (i + 1, seeS (pk tx n i - 48)) else .inl i) (some (0, M')) := by
  unfold f_X8_readSeen
  simp only [lt_eq]
  by_cases hd : isDg (pk tx n i) = true
  · obtain ⟨k, k1, k2, k3⟩ := dg_of hd
    have hin := dg_le hd
    rw [bd_of (digit_t h hn hi hd), k3]
    have h1 := h.go (i + 1)
    have F1 : Fr [30] M (wI M 30 2 (nI (i + 1))) := (Fr.rf _ _).wI (by simp)
    have e34 : (wI M 30 2 (nI (i + 1))).1 34 3 = sd := by rw [F1.1 34 (by decide)]; exact h34
    rw [e34, h.2.2.1]
    have bad : sn (nI k) = false → ∃ M', (bd (f_X9_fail N (nI i) (wI M 30 2 (nI (i + 1)))) fun r6 M7 => bd (f_X7_add N (1010 + nI k) M7) fun r8 M9 => some (0, M9)) = some (0, M') ∧ RO tx n (i - 1) c M u0 (if sn (nI k) then .inr (i + 1, seeS (nI k)) else .inl i) (some (0, M')) := by
      intro hs
      rw [bd_of (fail_e h1 _), if_neg (by rw [hs]; decide)]
      obtain ⟨M', a1, a2⟩ := RO.badd (N := N) (i := i - 1) (u := u0) (h1.fl i) (F1.wI (by simp)) hc (by omega) (1010 + nI k)
      rw [bd_of a1]
      exact ⟨M', rfl, a2⟩
    by_cases h4 : k < 4
    · rw [if_pos (show nI k < 4 by rw [lt4 (by omega)]; exact h4), bit_e _ (by omega)]
      cases hb : bt sd k
      · rw [if_pos b01_f]
        exact bad (by rw [hsd k h4]; exact hb)
      · have hs : sn (nI k) = true := by rw [hsd k h4]; exact hb
        rw [if_neg (show ¬ b01 true = 0 by decide), if_pos hs]
        obtain ⟨M', a1, a2⟩ := RO.one (N := N) (i := i - 1) (u := u0) (v := seeS (nI k)) h1 F1 hc (by omega) (by omega) (by omega) (fun p w st => stp_s h4 p w st)
        rw [bd_of a1]
        exact ⟨M', rfl, a2⟩
    · rw [if_neg (show ¬ nI k < 4 by rw [lt4 (by omega)]; exact h4)]
      refine bad ?_
      cases hs : sn (nI k)
      · rfl
      · obtain ⟨k', k4, k5⟩ := hsn _ hs
        rw [neq (by omega) (by omega)] at k5
        omega
  · rw [bd_of (digit_n h hn hi hd)]
    have hs : ¬ sn (pk tx n i - 48) = true := fun q => hd (sn_le hsn q).2
    rw [if_neg hs]
    have h1 := h.fl i
    have F1 : Fr [30] M (wI M 30 3 (nI i)) := (Fr.rf _ _).wI (by simp)
    obtain ⟨M', a1, a2⟩ := RO.badd (N := N) (i := i - 1) (u := u0) h1 F1 hc (by omega) (1010 + 0)
    rw [if_pos (by decide), bd_of (fail_f h1 (by omega) _), bd_of a1]
    refine ⟨M', ?_, a2⟩
    split <;> rfl
theorem prd_x (h : (Tx tx n i M ∧ i ≤ n ∧ ¬ pk tx n i = 42) ∨ (Tf tx n q M ∧ q ≤ n)) (hn : n ≤ 40) (c0 c1 c2 : Int32 → Mm → Rs) (d cnt : Int32) (m : Nat) : itr (B_X8_readProduct_8 N c0 c1 c2 d fun _ M10 => some (0, M10)) (m + 1) cnt M = some (0, M) := by
  rw [itr_s]
  have e : f_X9_take N 42 M = some (0, M) := by
    rcases h with h | h
    · exact take_n h.1 hn h.2.1 h.2.2
    · exact take_f h.1 (by omega) (by decide)
  have eB : ∀ rec, B_X8_readProduct_8 N c0 c1 c2 d (fun _ M10 => some (0, M10)) rec cnt M = some (0, M) := fun rec => by
    unfold B_X8_readProduct_8
    rw [bd_of e, if_pos rfl]
    split <;> rfl
  rw [eB]
theorem sum_x (h : (Tx tx n i M ∧ i ≤ n ∧ ¬ pk tx n i = 43 ∧ ¬ pk tx n i = 45) ∨ (Tf tx n q M ∧ q ≤ n)) (hn : n ≤ 40) (c0 c1 c2 : Int32 → Mm → Rs) (d cnt : Int32) (m : Nat) : itr (B_X8_readSum_8 N c0 c1 c2 d fun _ M19 => some (0, M19)) (m + 1) cnt M = some (0, M) := by
  rw [itr_s]
  have e1 : f_X9_take N 43 M = some (0, M) := by
    rcases h with h | h
    · exact take_n h.1 hn h.2.1 h.2.2.1
    · exact take_f h.1 (by omega) (by decide)
  have e2 : f_X9_take N 45 M = some (0, M) := by
    rcases h with h | h
    · exact take_n h.1 hn h.2.1 h.2.2.2
    · exact take_f h.1 (by omega) (by decide)
  have e3 : ∃ y, f_X9_peek N M = some (y, M) := by
    rcases h with h | h
    · exact ⟨_, peek_e h.1 hn h.2.1⟩
    · exact ⟨_, peek_f h.1 (by omega)⟩
  obtain ⟨y, e3⟩ := e3
  have eB : ∀ rec, B_X8_readSum_8 N c0 c1 c2 d (fun _ M19 => some (0, M19)) rec cnt M = some (0, M) := fun rec => by
    unfold B_X8_readSum_8
    simp only [lt_eq, bd_of e1, bd_of e2, bd_of e3, if_true]
    split <;> rfl
  rw [eB]
theorem prd_s (h : Tx tx n i M) (hn : n ≤ 40) (hi : i ≤ n) (c42 : pk tx n i = 42) {cnt : Nat} (hc : cnt < 40) (c0 c1 c2 : Int32 → Mm → Rs) (d : Int32) (G : Unit → Mm → Rs) (rec : Int32 → Mm → Rs) : B_X8_readProduct_8 N c0 c1 c2 d G rec (nI cnt) M = bd (c2 d (wI M 30 2 (nI (i + 1)))) fun _ M6 => bd (f_X7_add N 1022 M6) fun _ M8 => rec (nI (cnt + 1)) M8 := by
  unfold B_X8_readProduct_8
  rw [if_pos (show nI cnt < 40 by rw [lt40 (by omega)]; omega), bd_of (take_t h hn hi c42), if_neg (show ¬ (1 : Int32) = 0 by decide), nI_1]
theorem sum_s (h : Tx tx n i M) (hn : n ≤ 40) (hi : i ≤ n) {x : Int32} (hx : (pk tx n i = 43 ∧ x = 1020) ∨ (pk tx n i = 45 ∧ x = 1021)) {cnt : Nat} (hc : cnt < 40) (c0 c1 c2 : Int32 → Mm → Rs) (d : Int32) (G : Unit → Mm → Rs) (rec : Int32 → Mm → Rs) : B_X8_readSum_8 N c0 c1 c2 d G rec (nI cnt) M = bd (c1 d (wI M 30 2 (nI (i + 1)))) fun _ M6 => bd (f_X7_add N x M6) fun _ M8 => rec (nI (cnt + 1)) M8 := by
  unfold B_X8_readSum_8
  rw [if_pos (show nI cnt < 40 by rw [lt40 (by omega)]; omega), bd_of (peek_e h hn hi), nI_1]
  simp only [lt_eq]
  rcases hx with ⟨hx, rfl⟩ | ⟨hx, rfl⟩
  · rw [bd_of (take_t h hn hi hx), if_neg (show ¬ (1 : Int32) = 0 by decide)]
    simp only [if_pos hx]
  · rw [bd_of (take_n h hn hi (by rw [hx]; decide)), if_pos rfl, bd_of (take_t h hn hi hx), if_neg (show ¬ (1 : Int32) = 0 by decide)]
    simp only [if_neg (show ¬ pk tx n i = 43 by rw [hx]; decide)]
end Crule
