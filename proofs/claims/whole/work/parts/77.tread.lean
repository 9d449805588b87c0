/-! the class reads a text: where it stands, or where it failed -/
def Tx (tx : Nat → Int32) (n i : Nat) (M : Mm) : Prop := M.1 31 = tx ∧ M.1 30 1 = nI n ∧ M.1 30 2 = nI i ∧ M.1 30 3 = -1
def Tf (tx : Nat → Int32) (n q : Nat) (M : Mm) : Prop := M.1 31 = tx ∧ M.1 30 1 = nI n ∧ M.1 30 3 = nI q
section Tread
variable {N : Nat} {M : Mm} {tx : Nat → Int32} {n i q : Nat}
theorem peek_e (h : Tx tx n i M) (hn : n ≤ 40) (hi : i ≤ n) : f_X9_peek N M = some (pk tx n i, M) := by
  obtain ⟨h1, h2, h3, h4⟩ := h
  unfold f_X9_peek pk
  rw [h4, h3, h2, h1, if_pos (by decide), if_neg (nI_pos (by omega))]
  by_cases hin : i < n
  · rw [if_pos (by rw [nlt (by omega) (by omega)]; exact hin), if_pos (by rw [lt40 (by omega)]; omega), inb_n (by omega) (by omega), ix_n (by omega), if_pos rfl, if_pos hin]
  · rw [if_neg (by rw [nlt (by omega) (by omega)]; exact hin), if_neg hin]
theorem peek_f (h : Tf tx n q M) (hq : q < 2 ^ 31) : f_X9_peek N M = some (-1, M) := by
  unfold f_X9_peek
  rw [h.2.2, if_neg (nI_pos hq)]
theorem Tx.go (h : Tx tx n i M) (j : Nat) : Tx tx n j (wI M 30 2 (nI j)) := by
  obtain ⟨h1, h2, h3, h4⟩ := h
  exact ⟨by rw [← h1]; simp [wI_g], by rw [← h2]; simp [wI_g, upd_g], by simp [wI_g, upd_g], by rw [← h4]; simp [wI_g, upd_g]⟩
theorem Tx.fl (h : Tx tx n i M) (j : Nat) : Tf tx n j (wI M 30 3 (nI j)) := by
  obtain ⟨h1, h2, h3, h4⟩ := h
  exact ⟨by rw [← h1]; simp [wI_g], by rw [← h2]; simp [wI_g, upd_g], by simp [wI_g, upd_g]⟩
theorem take_t (h : Tx tx n i M) (hn : n ≤ 40) (hi : i ≤ n) {c : Int32} (hc : pk tx n i = c) : f_X9_take N c M = some (1, wI M 30 2 (nI (i + 1))) := by
  unfold f_X9_take
  rw [bd_of (peek_e h hn hi), if_pos hc, lt_eq, h.2.2.1, nI_1]
theorem take_n (h : Tx tx n i M) (hn : n ≤ 40) (hi : i ≤ n) {c : Int32} (hc : ¬ pk tx n i = c) : f_X9_take N c M = some (0, M) := by
  unfold f_X9_take
  rw [bd_of (peek_e h hn hi), if_neg hc]
theorem take_f (h : Tf tx n q M) (hq : q < 2 ^ 31) {c : Int32} (hc : ¬ (-1) = c) : f_X9_take N c M = some (0, M) := by
  unfold f_X9_take
  rw [bd_of (peek_f h hq), if_neg hc]
theorem fail_e (h : Tx tx n i M) (x : Int32) : f_X9_fail N x M = some (0, wI M 30 3 x) := by
  unfold f_X9_fail
  rw [h.2.2.2, if_pos (by decide)]
  rfl
theorem fail_f (h : Tf tx n q M) (hq : q < 2 ^ 31) (x : Int32) : f_X9_fail N x M = some (0, M) := by
  unfold f_X9_fail
  rw [h.2.2, if_neg (nI_pos hq)]
theorem dg_ne {c : Int32} : isDg c = true ↔ (¬ c < 48 ∧ ¬ 57 < c) := by
  unfold isDg
  simp
theorem digit_t (h : Tx tx n i M) (hn : n ≤ 40) (hi : i ≤ n) (hd : isDg (pk tx n i) = true) : f_X9_digit N M = some (pk tx n i - 48, wI M 30 2 (nI (i + 1))) := by
  unfold f_X9_digit
  rw [dg_ne] at hd
  rw [bd_of (peek_e h hn hi), if_neg hd.1, if_neg hd.2, lt_eq, h.2.2.1, nI_1]
theorem digit_n (h : Tx tx n i M) (hn : n ≤ 40) (hi : i ≤ n) (hd : ¬ isDg (pk tx n i) = true) : f_X9_digit N M = some (0, wI M 30 3 (nI i)) := by
  unfold f_X9_digit
  rw [bd_of (peek_e h hn hi), bd_of (fail_e h _), h.2.2.1]
  by_cases h1 : pk tx n i < 48
  · rw [if_pos h1]
  · rw [if_neg h1]
    by_cases h2 : 57 < pk tx n i
    · rw [if_pos h2]
    · exact absurd (dg_ne.mpr ⟨h1, h2⟩) hd
theorem digit_f (h : Tf tx n q M) (hq : q < 2 ^ 31) : f_X9_digit N M = some (0, M) := by
  unfold f_X9_digit
  rw [bd_of (peek_f h hq), if_pos (by decide), bd_of (fail_f h hq _)]
theorem atd_e (h : Tx tx n i M) (hn : n ≤ 40) (hi : i ≤ n) : f_X9_atDigit N M = some (b01 (isDg (pk tx n i)), M) := by
  unfold f_X9_atDigit
  rw [bd_of (peek_e h hn hi)]
  cases hd : isDg (pk tx n i)
  · have : ¬ isDg (pk tx n i) = true := by rw [hd]; decide
    by_cases h1 : pk tx n i < 48
    · rw [if_pos h1]; rfl
    · rw [if_neg h1]
      by_cases h2 : 57 < pk tx n i
      · rw [if_pos h2]; rfl
      · exact absurd (dg_ne.mpr ⟨h1, h2⟩) this
  · have := dg_ne.mp hd
    rw [if_neg this.1, if_neg this.2]; rfl
theorem atd_f (h : Tf tx n q M) (hq : q < 2 ^ 31) : f_X9_atDigit N M = some (0, M) := by
  unfold f_X9_atDigit
  rw [bd_of (peek_f h hq), if_pos (by decide)]
theorem pkin {c : Int32} (h : pk tx n i = c) (hc : c ≠ -1) : i + 1 ≤ n := (pkI h hc).1
theorem dg_le (h : isDg (pk tx n i) = true) : i + 1 ≤ n := by
  obtain ⟨k, k1, k2, -⟩ := dg_of h
  exact (pkI k2 (nI_m1 (by omega))).1
/-! where a law's reading may end -/
theorem lw_b : ∀ (f md dep i : Nat), i ≤ n → (∀ q, lwS tx n f md dep i = .inl q → q ≤ n) ∧ ∀ j v, lwS tx n f md dep i = .inr (j, v) → i < j ∧ j ≤ n ∧ (1 ≤ md → pk tx n j ≠ 38) ∧ (2 ≤ md → pk tx n j ≠ 124) := by
  intro f
  induction f with
  | zero =>
    intro md dep i hi
    exact ⟨fun q h => by cases h; exact hi, fun j v h => by cases h⟩
  | succ f ih =>
    intro md dep i hi
    unfold lwS
    by_cases m0 : md = 0
    · rw [if_pos m0]
      by_cases c98 : pk tx n i = 98
      · rw [if_pos c98]
        have := pkin c98 (by decide)
        by_cases hd : isDg (pk tx n (i + 1)) = true
        · rw [if_pos hd]
          have := dg_le hd
          exact ⟨fun q h => (by cases h), fun j v h => by cases h; exact ⟨by omega, by omega, fun _ => by omega, fun _ => by omega⟩⟩
        · rw [if_neg hd]
          exact ⟨fun q h => (by cases h; omega), fun j v h => by cases h⟩
      · rw [if_neg c98]
        by_cases c110 : pk tx n i = 110
        · rw [if_pos c110]
          have := pkin c110 (by decide)
          split
          · rename_i hc
            have : i + 1 + 1 ≤ n := by rcases hc with h | h | h <;> exact pkin h (by decide)
            by_cases hd : isDg (pk tx n (i + 2)) = true
            · rw [if_pos hd]
              have := dg_le hd
              exact ⟨fun q h => (by cases h), fun j v h => by cases h; exact ⟨by omega, by omega, fun _ => by omega, fun _ => by omega⟩⟩
            · rw [if_neg hd]
              exact ⟨fun q h => (by cases h; omega), fun j v h => by cases h⟩
          · exact ⟨fun q h => (by cases h; omega), fun j v h => by cases h⟩
        · rw [if_neg c110]
          by_cases c33 : pk tx n i = 33
          · rw [if_pos c33]
            have := pkin c33 (by decide)
            split
            · have := ih 0 (dep + 1) (i + 1) (by omega)
              split
              · rename_i q he
                exact ⟨fun q' h => by cases h; exact this.1 q he, fun j v h => by cases h⟩
              · rename_i j v he
                have := this.2 j v he
                exact ⟨fun q h => (by cases h), fun j' v' h => by cases h; exact ⟨by omega, by omega, fun _ => by omega, fun _ => by omega⟩⟩
            · exact ⟨fun q h => (by cases h; omega), fun j v h => by cases h⟩
          · rw [if_neg c33]
            by_cases c40 : pk tx n i = 40
            · rw [if_pos c40]
              have := pkin c40 (by decide)
              split
              · have := ih 2 (dep + 1) (i + 1) (by omega)
                split
                · rename_i q he
                  exact ⟨fun q' h => by cases h; exact this.1 q he, fun j v h => by cases h⟩
                · rename_i j v he
                  have := this.2 j v he
                  split
                  · rename_i h41
                    have := pkin h41 (by decide)
                    exact ⟨fun q h => (by cases h), fun j' v' h => by cases h; exact ⟨by omega, by omega, fun _ => by omega, fun _ => by omega⟩⟩
                  · exact ⟨fun q h => (by cases h; omega), fun j v h => by cases h⟩
              · exact ⟨fun q h => (by cases h; omega), fun j v h => by cases h⟩
            · rw [if_neg c40]
              exact ⟨fun q h => (by cases h; omega), fun j v h => by cases h⟩
    · rw [if_neg m0]
      by_cases m1 : md = 1
      · rw [if_pos m1]
        have a := ih 0 dep i hi
        split
        · rename_i q he
          exact ⟨fun q' h => by cases h; exact a.1 q he, fun j v h => by cases h⟩
        · rename_i j v he
          have a := a.2 j v he
          split
          · rename_i h38
            have := pkin h38 (by decide)
            have b := ih 1 dep (j + 1) (by omega)
            split
            · rename_i q he
              exact ⟨fun q' h => by cases h; exact b.1 q he, fun j v h => by cases h⟩
            · rename_i j2 v2 he
              have b := b.2 j2 v2 he
              exact ⟨fun q h => (by cases h), fun j' v' h => by cases h; exact ⟨by omega, by omega, fun _ => b.2.2.1 (by omega), fun _ => by omega⟩⟩
          · rename_i h38
            exact ⟨fun q h => (by cases h), fun j' v' h => by cases h; exact ⟨by omega, by omega, fun _ => h38, fun _ => by omega⟩⟩
      · rw [if_neg m1]
        have a := ih 1 dep i hi
        split
        · rename_i q he
          exact ⟨fun q' h => by cases h; exact a.1 q he, fun j v h => by cases h⟩
        · rename_i j v he
          have a := a.2 j v he
          split
          · rename_i h124
            have := pkin h124 (by decide)
            have b := ih 2 dep (j + 1) (by omega)
            split
            · rename_i q he
              exact ⟨fun q' h => by cases h; exact b.1 q he, fun j v h => by cases h⟩
            · rename_i j2 v2 he
              have b := b.2 j2 v2 he
              exact ⟨fun q h => (by cases h), fun j' v' h => by cases h; exact ⟨by omega, by omega, fun _ => b.2.2.1 (by omega), fun _ => b.2.2.2 (by omega)⟩⟩
          · rename_i h124
            exact ⟨fun q h => (by cases h), fun j' v' h => by cases h; exact ⟨by omega, by omega, fun _ => a.2.2.1 (by omega), fun _ => h124⟩⟩
end Tread
