/-! the reference reads a law -/
def Rq (M0 : Mm) (i : Nat) (M : Mm) : Prop := Fr [0, 10] M0 M ∧ (∀ k, k ≠ 16 → k ≠ 17 → M.1 0 k = M0.1 0 k) ∧ M.1 0 16 = nI i
def Rx (M0 : Mm) (i : Nat) (st : List Int32) (M : Mm) : Prop := Rq M0 i M ∧ M.1 0 17 = nI st.length ∧ Stk (M.1 10) st ∧ st.length ≤ 4
def stp1 : List Int32 → List Int32
  | [] => []
  | b :: r => if b = 1 then stp1 r else b :: r
theorem stp1_le : ∀ st : List Int32, (stp1 st).length ≤ st.length := by
  intro st
  induction st with
  | nil => exact Nat.le_refl _
  | cons b r ih =>
    unfold stp1
    split
    · show _ ≤ r.length + 1; omega
    · exact Nat.le_refl _
section Mlaw
variable {N : Nat} {M0 M : Mm} {tx : Nat → Int32} {n i : Nat} {st : List Int32}
theorem Rq.go (h : Rq M0 i M) (j : Nat) : Rq M0 j (wI M 0 16 (nI j)) := by
  obtain ⟨h1, h2, h3⟩ := h
  exact ⟨h1.wI (by simp), fun k k1 k2 => by rw [← h2 k k1 k2]; simp [wI_g, upd_g, k1], by simp [wI_g, upd_g]⟩
theorem Rx.go (h : Rx M0 i st M) (j : Nat) : Rx M0 j st (wI M 0 16 (nI j)) := by
  obtain ⟨h1, h2, h3, h4⟩ := h
  refine ⟨h1.go j, by rw [← h2]; simp [wI_g, upd_g], ?_, h4⟩
  have e : (wI M 0 16 (nI j)).1 10 = M.1 10 := by simp [wI_g]
  rw [e]; exact h3
theorem Rx.pop {b : Int32} (h : Rx M0 i (b :: st) M) : Rx M0 i st (wI M 0 17 (nI st.length)) := by
  obtain ⟨⟨a1, a2, a3⟩, h2, h3, h4⟩ := h
  have h4' : st.length + 1 ≤ 4 := h4
  refine ⟨⟨a1.wI (by simp), fun k k1 k2 => by rw [← a2 k k1 k2]; simp [wI_g, upd_g, k2], by rw [← a3]; simp [wI_g, upd_g]⟩, by simp [wI_g, upd_g], ?_, by omega⟩
  have e : (wI M 0 17 (nI st.length)).1 10 = M.1 10 := by simp [wI_g]
  rw [e]; exact h3.2
theorem Rx.put (h : Rx M0 i st M) (hl : st.length < 4) (b : Int32) : Rx M0 i (b :: st) (wI (wI M 10 st.length b) 0 17 (nI (st.length + 1))) := by
  obtain ⟨⟨a1, a2, a3⟩, h2, h3, h4⟩ := h
  refine ⟨⟨(a1.wI (by simp)).wI (by simp), fun k k1 k2 => by rw [← a2 k k1 k2]; simp [wI_g, upd_g, k2], by rw [← a3]; simp [wI_g, upd_g]⟩, by simp [wI_g, upd_g], ?_, hl⟩
  have e : (wI (wI M 10 st.length b) 0 17 (nI (st.length + 1))).1 10 = upd (M.1 10) st.length b := by simp [wI_g]
  rw [e]; exact h3.push
theorem msign_e (h : Rq M0 i M) (h14 : M0.1 0 14 = nI n) (h5 : M0.1 5 = tx) (hn : n ≤ 40) (hi : i ≤ n) : f_X12_sign N M = some (pk tx n i, M) := by
  obtain ⟨h1, h2, h3⟩ := h
  unfold f_X12_sign pk
  rw [h3, h2 14 (by omega) (by omega), h14, h1.1 5 (by decide), h5]
  by_cases hin : i < n
  · rw [if_pos (by rw [nlt (by omega) (by omega)]; exact hin), inb_n (by omega) (by omega), ix_n (by omega), if_pos rfl, if_pos hin]
  · rw [if_neg (by rw [nlt (by omega) (by omega)]; exact hin), if_neg hin]
theorem isD_e (c : Int32) : f_X12_isDigit N c M = some (b01 (isDg c), M) := by
  unfold f_X12_isDigit
  cases hd : isDg c
  · have : ¬ isDg c = true := by rw [hd]; decide
    by_cases h1 : c < 48
    · rw [if_pos h1]; rfl
    · rw [if_neg h1]
      by_cases h2 : 57 < c
      · rw [if_pos h2]; rfl
      · exact absurd (dg_ne.mpr ⟨h1, h2⟩) this
  · have := dg_ne.mp hd
    rw [if_neg this.1, if_neg this.2]; rfl
theorem mdig_e (h : Rq M0 i M) (h14 : M0.1 0 14 = nI n) (h5 : M0.1 5 = tx) (hn : n ≤ 40) (hi : i ≤ n) : f_X12_digit N M = if isDg (pk tx n i) then some (1, wI M 0 16 (nI (i + 1))) else some (0, M) := by
  unfold f_X12_digit
  rw [bd_of (msign_e h h14 h5 hn hi), bd_of (isD_e _), h.2.2, nI_1]
  cases isDg (pk tx n i)
  · rw [if_pos b01_f]; rfl
  · rw [if_neg (show ¬ b01 true = 0 by decide)]; rfl
/-- one part, but a sign that waits -/
theorem mpart_e (h : Rx M0 i st M) (h14 : M0.1 0 14 = nI n) (h5 : M0.1 5 = tx) (hn : n ≤ 40) (hi : i ≤ n) (f dep : Nat) (c33 : ¬ pk tx n i = 33) (c40 : ¬ pk tx n i = 40) :
    match lwS tx n (f + 1) 0 dep i with
    | .inl q => ∃ M', f_X12_part N M = some (0, M') ∧ Rx M0 q st M'
    | .inr (j, _) => ∃ M', f_X12_part N M = some (1, M') ∧ Rx M0 j st M' := by
  unfold lwS f_X12_part
  rw [if_pos rfl, bd_of (msign_e h.1 h14 h5 hn hi)]
  simp only [lt_eq]
  rw [h.1.2.2, nI_1]
  have h1 := h.go (i + 1)
  by_cases c98 : pk tx n i = 98
  · have hin := pkin c98 (by decide)
    rw [if_pos c98, if_pos c98, if_pos c98]
    rw [mdig_e h1.1 h14 h5 hn hin]
    by_cases hd : isDg (pk tx n (i + 1)) = true
    · rw [if_pos hd, if_pos hd, bd_s, if_pos (by rfl)]
      exact ⟨_, rfl, h1.go (i + 2)⟩
    · rw [if_neg hd, if_neg hd, bd_s, if_pos (by rfl)]
      exact ⟨_, rfl, h1⟩
  · rw [if_neg c98, if_neg c98]
    by_cases c110 : pk tx n i = 110
    · have hin := pkin c110 (by decide)
      rw [if_pos c110, if_pos c110, if_neg c98, bd_of (msign_e h1.1 h14 h5 hn hin)]
      have e16 : (wI M 0 16 (nI (i + 1))).1 0 16 = nI (i + 1) := h1.1.2.2
      have key : i + 2 ≤ n → (match (if isDg (pk tx n (i + 2)) = true then (.inr (i + 3, cntS (pk tx n (i + 1)) (pk tx n (i + 2))) : LR) else .inl (i + 2)) with
          | .inl q => ∃ M', (bd (f_X12_digit N (wI (wI M 0 16 (nI (i + 1))) 0 16 ((wI M 0 16 (nI (i + 1))).1 0 16 + 1))) fun r13 M14 => if bz r13 = true then some (r13, M14) else none) = some (0, M') ∧ Rx M0 q st M'
          | .inr (j, _) => ∃ M', (bd (f_X12_digit N (wI (wI M 0 16 (nI (i + 1))) 0 16 ((wI M 0 16 (nI (i + 1))).1 0 16 + 1))) fun r13 M14 => if bz r13 = true then some (r13, M14) else none) = some (1, M') ∧ Rx M0 j st M') := by
        intro hi2
        rw [e16, nI_1]
        have h2 := h1.go (i + 2)
        rw [mdig_e (i := i + 2) h2.1 h14 h5 hn hi2]
        by_cases hd : isDg (pk tx n (i + 2)) = true
        · rw [if_pos hd, if_pos hd, bd_s, if_pos (by rfl)]
          exact ⟨_, rfl, h2.go (i + 3)⟩
        · rw [if_neg hd, if_neg hd, bd_s, if_pos (by rfl)]
          exact ⟨_, rfl, h2⟩
      by_cases c1 : pk tx n (i + 1) = 60
      · rw [if_pos (Or.inl c1), if_pos c1]
        exact key (pkin c1 (by decide))
      · rw [if_neg c1, bd_of (msign_e h1.1 h14 h5 hn hin)]
        by_cases c2 : pk tx n (i + 1) = 61
        · rw [if_pos (Or.inr (Or.inl c2)), if_pos c2]
          exact key (pkin c2 (by decide))
        · rw [if_neg c2, bd_of (msign_e h1.1 h14 h5 hn hin)]
          by_cases c3 : pk tx n (i + 1) = 62
          · rw [if_pos (Or.inr (Or.inr c3)), if_pos c3]
            exact key (pkin c3 (by decide))
          · rw [if_neg c3, if_neg (show ¬ (pk tx n (i + 1) = 60 ∨ pk tx n (i + 1) = 61 ∨ pk tx n (i + 1) = 62) by rintro (q | q | q) <;> contradiction)]
            exact ⟨_, rfl, h1⟩
    · rw [if_neg c110, if_neg c110, if_neg c33, if_neg c40]
      exact ⟨_, rfl, h⟩
theorem mcl_e (hN : 100000 ≤ N) : ∀ (st : List Int32) (M : Mm) (m : Nat), st.length < m → Rx M0 i st M → ∃ M', itr (B_X12_closes_0 N fun z2 M3 => some (0, M3)) m () M = some (0, M') ∧ Rx M0 i (stp1 st) M' := by
  intro st
  induction st with
  | nil =>
    intro M m hm h
    obtain ⟨m, rfl⟩ : ∃ m', m = m' + 1 := ⟨m - 1, by have : 0 < m := hm; omega⟩
    rw [itr_s]
    unfold B_X12_closes_0
    rw [h.2.1, if_neg (show ¬ (0 : Int32) < nI ([] : List Int32).length by decide)]
    exact ⟨M, rfl, h⟩
  | cons b r ih =>
    intro M m hm h
    have hm' : r.length + 1 < m := hm
    have h4 : r.length + 1 ≤ 4 := h.2.2.2
    obtain ⟨m, rfl⟩ : ∃ m', m = m' + 1 := ⟨m - 1, by omega⟩
    rw [itr_s]
    unfold B_X12_closes_0
    have e17 : M.1 0 17 = nI (r.length + 1) := h.2.1
    have e10 : M.1 10 r.length = b := h.2.2.1.1
    rw [e17, dec1, if_pos (by rw [gt0 (by omega)]; omega), inb_n (by omega) (by omega), ix_n (by omega), e10, if_pos rfl, lt_eq]
    unfold stp1
    by_cases e : b = 1
    · rw [if_pos e, if_pos e]
      have := ih _ m (by omega) h.pop
      unfold B_X12_closes_0 at this
      exact this
    · rw [if_neg e, if_neg e]
      exact ⟨M, rfl, h⟩
theorem mcl (hN : 100000 ≤ N) (h : Rx M0 i st M) : ∃ M', f_X12_closes N M = some (0, M') ∧ Rx M0 i (stp1 st) M' := mcl_e hN st M N (by have := h.2.2.2; omega) h
/-- what comes behind a part and what it closes -/
def GL (N : Nat) (rec : Unit → Mm → Rs) : Unit → Mm → Rs := fun _ M29 => bd (f_X12_sign N M29) fun r30 M31 =>
  if r30 = (-1) then
    (if (M31.1 0 17) = 0 then (some (1, M31))
    else (bd (f_X12_sign N M31) fun r35 M36 => (if r35 = 124 then (rec () (wI M36 0 16 ((M36.1 0 16) + 1))) else (bd (f_X12_sign N M36) fun r38 M39 => (if r38 = 38 then (rec () (wI M39 0 16 ((M39.1 0 16) + 1))) else (some (0, M39)))))))
  else (bd (f_X12_sign N M31) fun r35 M36 => (if r35 = 124 then (rec () (wI M36 0 16 ((M36.1 0 16) + 1))) else (bd (f_X12_sign N M36) fun r38 M39 => (if r38 = 38 then (rec () (wI M39 0 16 ((M39.1 0 16) + 1))) else (some (0, M39))))))
abbrev TL (N m : Nat) (M : Mm) : Rs := itr (B_X12_isLaw_10 N) m () M
abbrev CL (N m k : Nat) (M : Mm) : Rs := itr (B_X12_isLaw_97 N (GL N (itr (B_X12_isLaw_10 N) m))) k () M
/-- the inner loop ends -/
theorem CL_x (h : Rx M0 i st M) (h14 : M0.1 0 14 = nI n) (h5 : M0.1 5 = tx) (hn : n ≤ 40) (hi : i ≤ n) (hx : ¬ pk tx n i = 41 ∨ st = []) {m k : Nat} (hk : 0 < k) : CL N m k M = GL N (itr (B_X12_isLaw_10 N) m) () M := by
  obtain ⟨k, rfl⟩ : ∃ k', k = k' + 1 := ⟨k - 1, by omega⟩
  show itr _ (k + 1) () M = _
  rw [itr_s]
  unfold B_X12_isLaw_97
  rw [bd_of (msign_e h.1 h14 h5 hn hi)]
  rcases hx with hx | hx
  · rw [if_neg hx]
  · subst hx
    rw [h.2.1, if_neg (show ¬ (0 : Int32) < nI [].length by decide)]
    split <;> rfl
theorem GL_s (h : Rx M0 i st M) (h14 : M0.1 0 14 = nI n) (h5 : M0.1 5 = tx) (hn : n ≤ 40) (hi : i ≤ n) {rec : Unit → Mm → Rs} (hc : pk tx n i = 124 ∨ pk tx n i = 38) : GL N rec () M = rec () (wI M 0 16 (nI (i + 1))) := by
  unfold GL
  have e := msign_e (N := N) h.1 h14 h5 hn hi
  rw [bd_of e, bd_of e, bd_of e, if_neg (by rcases hc with q | q <;> rw [q] <;> decide), h.1.2.2, nI_1]
  rcases hc with q | q
  · rw [if_pos q]
  · rw [if_neg (by rw [q]; decide), if_pos q]
theorem GL_n (h : Rx M0 i st M) (h14 : M0.1 0 14 = nI n) (h5 : M0.1 5 = tx) (hn : n ≤ 40) (hi : i ≤ n) {rec : Unit → Mm → Rs} (c1 : ¬ pk tx n i = 124) (c2 : ¬ pk tx n i = 38) (hx : ¬ pk tx n i = -1 ∨ st ≠ []) : GL N rec () M = some (0, M) := by
  unfold GL
  have e := msign_e (N := N) h.1 h14 h5 hn hi
  rw [bd_of e, bd_of e, bd_of e, if_neg c1, if_neg c2]
  rcases hx with hx | hx
  · rw [if_neg hx]
  · have : ¬ M.1 0 17 = 0 := by
      rw [h.2.1]
      cases st with
      | nil => exact absurd rfl hx
      | cons a r =>
        have h4 : r.length + 1 ≤ 4 := h.2.2.2
        show ¬ nI (r.length + 1) = 0
        rw [eq0 (by omega)]; omega
    rw [if_neg this]
    split <;> rfl
/-- a turn of the reading -/
theorem B10_w (h : Rx M0 i st M) (h14 : M0.1 0 14 = nI n) (h5 : M0.1 5 = tx) (hn : n ≤ 40) (hi : i ≤ n) (hl : st.length < 4) {s : Int32} (hc : (pk tx n i = 33 ∧ s = 1) ∨ (pk tx n i = 40 ∧ s = 2)) (rec : Unit → Mm → Rs) : B_X12_isLaw_10 N rec () M = rec () (wI (wI (wI M 10 st.length s) 0 17 (nI (st.length + 1))) 0 16 (nI (i + 1))) := by
  have e := msign_e (N := N) h.1 h14 h5 hn hi
  have h4 : ¬ M.1 0 17 = 4 := by rw [h.2.1, eq4 (by omega)]; omega
  unfold B_X12_isLaw_10
  simp only [lt_eq, bd_of e, if_neg h4]
  have e1 : ∀ s, (wI M 10 st.length s).1 0 17 = nI st.length := fun s => by rw [wI_g, if_neg (by omega)]; exact h.2.1
  simp only [h.2.1, inb_n (show st.length < 8 by omega) (by omega), ix_n (show st.length < 2 ^ 31 by omega), if_true, e1, nI_1, (h.put hl 1).1.2.2, (h.put hl 2).1.2.2]
  rcases hc with ⟨c, rfl⟩ | ⟨c, rfl⟩
  · rw [if_pos c, if_pos c]
  · rw [if_neg (by rw [c]; decide), if_pos c, if_neg (by rw [c]; decide)]
theorem B10_4 (h : Rx M0 i st M) (h14 : M0.1 0 14 = nI n) (h5 : M0.1 5 = tx) (hn : n ≤ 40) (hi : i ≤ n) (hl : ¬ st.length < 4) (hc : pk tx n i = 33 ∨ pk tx n i = 40) (rec : Unit → Mm → Rs) : B_X12_isLaw_10 N rec () M = some (0, M) := by
  have e := msign_e (N := N) h.1 h14 h5 hn hi
  have h44 := h.2.2.2
  have h4 : M.1 0 17 = 4 := by rw [h.2.1, eq4 (by omega)]; omega
  unfold B_X12_isLaw_10
  simp only [lt_eq, bd_of e, if_pos h4]
  by_cases c : pk tx n i = 33
  · rw [if_pos c]
  · rw [if_neg c, if_pos (hc.resolve_left c)]
theorem B10_p (h : Rx M0 i st M) (h14 : M0.1 0 14 = nI n) (h5 : M0.1 5 = tx) (hn : n ≤ 40) (hi : i ≤ n) (c33 : ¬ pk tx n i = 33) (c40 : ¬ pk tx n i = 40) (rec : Unit → Mm → Rs) : B_X12_isLaw_10 N rec () M = bd (f_X12_part N M) fun r18 M19 => if r18 = 0 then some (0, M19) else bd (f_X12_closes N M19) fun _ M21 => itr (B_X12_isLaw_97 N (GL N rec)) N () M21 := by
  have e := msign_e (N := N) h.1 h14 h5 hn hi
  unfold B_X12_isLaw_10
  simp only [lt_eq, bd_of e]
  rw [if_neg c33, if_neg c40]
  rfl
theorem B97_s {b : Int32} {M2 : Mm} (h : Rx M0 i (b :: st) M) (h14 : M0.1 0 14 = nI n) (h5 : M0.1 5 = tx) (hn : n ≤ 40) (hi : i ≤ n) (c41 : pk tx n i = 41) (h2 : f_X12_closes N (wI (wI M 0 16 (nI (i + 1))) 0 17 (nI st.length)) = some (0, M2)) (G rec : Unit → Mm → Rs) : B_X12_isLaw_97 N G rec () M = rec () M2 := by
  have h4 : st.length + 1 ≤ 4 := h.2.2.2
  have e17 : M.1 0 17 = nI (st.length + 1) := h.2.1
  have e17' : (wI M 0 16 (nI (i + 1))).1 0 17 = nI (st.length + 1) := (h.go (i + 1)).2.1
  unfold B_X12_isLaw_97
  rw [bd_of (msign_e h.1 h14 h5 hn hi), if_pos c41, e17, if_pos (by rw [gt0 (by omega)]; omega)]
  simp only [lt_eq]
  rw [h.1.2.2, nI_1, e17', dec1, bd_of h2]
/-- the reference's reading of a law -/
theorem isl_m (hN : 100000 ≤ N) (hn : n ≤ 40) (h14 : M0.1 0 14 = nI n) (h5 : M0.1 5 = tx) : ∀ f : Nat,
    (∀ i st M m, i ≤ n → 3 * (n - i) + 1 ≤ f → Rx M0 i st M → n - i < m → match lwS tx n f 0 st.length i with
      | .inl q => ∃ M', TL N m M = some (0, M') ∧ Rq M0 q M'
      | .inr (j, _) => ∃ m' k M', n - j < m' ∧ n - j < k ∧ TL N m M = CL N m' k M' ∧ Rx M0 j (stp1 st) M') ∧
    (∀ i st M m, i ≤ n → 3 * (n - i) + 2 ≤ f → Rx M0 i st M → n - i < m → stp1 st = st → match lwS tx n f 1 st.length i with
      | .inl q => ∃ M', TL N m M = some (0, M') ∧ Rq M0 q M'
      | .inr (j, _) => ∃ m' k M', n - j < m' ∧ n - j < k ∧ TL N m M = CL N m' k M' ∧ Rx M0 j st M') ∧
    (∀ i st M m, i ≤ n → 3 * (n - i) + 3 ≤ f → Rx M0 i st M → n - i < m → stp1 st = st → match lwS tx n f 2 st.length i with
      | .inl q => ∃ M', TL N m M = some (0, M') ∧ Rq M0 q M'
      | .inr (j, _) => ∃ m' k M', n - j < m' ∧ n - j < k ∧ TL N m M = CL N m' k M' ∧ Rx M0 j st M') := by
  intro f
  induction f with
  | zero => exact ⟨fun i st M m h1 h2 => by omega, fun i st M m h1 h2 => by omega, fun i st M m h1 h2 => by omega⟩
  | succ f ih =>
    obtain ⟨ih0, ih1, ih2⟩ := ih
    refine ⟨?_, ?_, ?_⟩
    · intro i st M m hi hf h hm
      obtain ⟨m, rfl⟩ : ∃ m', m = m' + 1 := ⟨m - 1, by omega⟩
      have eT : TL N (m + 1) M = B_X12_isLaw_10 N (itr (B_X12_isLaw_10 N) m) () M := rfl
      rw [eT]
      by_cases c33 : pk tx n i = 33
      · have hin := pkin c33 (by decide)
        unfold lwS
        rw [if_pos rfl, if_neg (by rw [c33]; decide), if_neg (by rw [c33]; decide), if_pos c33]
        by_cases h4 : st.length < 4
        · rw [if_pos h4, B10_w h h14 h5 hn hi h4 (Or.inl ⟨c33, rfl⟩)]
          have x := ih0 (i + 1) (1 :: st) _ m hin (by omega) ((h.put h4 1).go (i + 1)) (by omega)
          have e2 : stp1 (1 :: st) = stp1 st := rfl
          have e3 : (1 :: st).length = st.length + 1 := rfl
          rw [e2, e3] at x
          split at x
          · rename_i q he; rw [he]; exact x
          · rename_i j v he; rw [he]; exact x
        · rw [if_neg h4, B10_4 h h14 h5 hn hi h4 (Or.inl c33)]
          exact ⟨M, rfl, h.1⟩
      · by_cases c40 : pk tx n i = 40
        · have hin := pkin c40 (by decide)
          unfold lwS
          rw [if_pos rfl, if_neg (by rw [c40]; decide), if_neg (by rw [c40]; decide), if_neg c33, if_pos c40]
          by_cases h4 : st.length < 4
          · rw [if_pos h4, B10_w h h14 h5 hn hi h4 (Or.inr ⟨c40, rfl⟩)]
            have x := ih2 (i + 1) (2 :: st) _ m hin (by omega) ((h.put h4 2).go (i + 1)) (by omega) (by rfl)
            have hb := lw_b (tx := tx) (n := n) f 2 (st.length + 1) (i + 1) hin
            have e3 : (2 :: st).length = st.length + 1 := rfl
            rw [e3] at x
            split at x
            · rename_i q he; rw [he]; exact x
            · rename_i j v he
              rw [he]
              obtain ⟨m', k, M', x1, x2, x3, x4⟩ := x
              have hj := hb.2 j v he
              dsimp only
              by_cases c41 : pk tx n j = 41
              · rw [if_pos c41]
                have hjn := pkin c41 (by decide)
                obtain ⟨k, rfl⟩ : ∃ k', k = k' + 1 := ⟨k - 1, by omega⟩
                obtain ⟨M2, y2, y3⟩ := mcl hN (x4.go (j + 1)).pop
                refine ⟨m', k, M2, by omega, by omega, ?_, y3⟩
                refine Eq.trans x3 ?_
                show itr _ (k + 1) () M' = _
                rw [itr_s, B97_s x4 h14 h5 hn hj.2.1 c41 y2]
              · rw [if_neg c41]
                refine ⟨M', Eq.trans x3 ?_, x4.1⟩
                rw [CL_x (N := N) (m := m') (k := k) x4 h14 h5 hn hj.2.1 (Or.inl c41) (by omega), GL_n x4 h14 h5 hn hj.2.1 (hj.2.2.2 (by omega)) (hj.2.2.1 (by omega)) (Or.inr (by simp))]
          · rw [if_neg h4, B10_4 h h14 h5 hn hi h4 (Or.inr c40)]
            exact ⟨M, rfl, h.1⟩
        · rw [B10_p h h14 h5 hn hi c33 c40]
          have hp := mpart_e (N := N) h h14 h5 hn hi f st.length c33 c40
          have hb := lw_b (tx := tx) (n := n) (f + 1) 0 st.length i hi
          split at hp
          · rename_i q he
            obtain ⟨M', p1, p2⟩ := hp
            rw [bd_of p1, if_pos rfl]
            exact ⟨M', rfl, p2.1⟩
          · rename_i j v he
            obtain ⟨M', p1, p2⟩ := hp
            have hj := hb.2 j v he
            obtain ⟨M2, y2, y3⟩ := mcl hN p2
            rw [bd_of p1, if_neg (show ¬ (1 : Int32) = 0 by decide), bd_of y2]
            exact ⟨m, N, M2, by omega, by omega, rfl, y3⟩
    · intro i st M m hi hf h hm hs
      have x := ih0 i st M m hi (by omega) h hm
      have hb := lw_b (tx := tx) (n := n) f 0 st.length i hi
      unfold lwS
      rw [if_neg (by decide), if_pos rfl]
      split at x
      · rename_i q he; rw [he]; exact x
      · rename_i j v he
        rw [he]
        obtain ⟨m', k, M', x1, x2, x3, x4⟩ := x
        rw [hs] at x4
        have hj := hb.2 j v he
        dsimp only
        by_cases c38 : pk tx n j = 38
        · rw [if_pos c38]
          have hjn := pkin c38 (by decide)
          rw [CL_x x4 h14 h5 hn hj.2.1 (Or.inl (by rw [c38]; decide)) (by omega), GL_s x4 h14 h5 hn hj.2.1 (Or.inr c38)] at x3
          have y := ih1 (j + 1) st _ m' hjn (by omega) (x4.go (j + 1)) (by omega) hs
          split at y
          · rename_i q he2; rw [he2]; obtain ⟨M2, z1, z2⟩ := y; exact ⟨M2, x3.trans z1, z2⟩
          · rename_i j2 v2 he2
            rw [he2]
            obtain ⟨m2, k2, M2, z1, z2, z3, z4⟩ := y
            exact ⟨m2, k2, M2, z1, z2, x3.trans z3, z4⟩
        · rw [if_neg c38]
          exact ⟨m', k, M', x1, x2, x3, x4⟩
    · intro i st M m hi hf h hm hs
      have x := ih1 i st M m hi (by omega) h hm hs
      have hb := lw_b (tx := tx) (n := n) f 1 st.length i hi
      unfold lwS
      rw [if_neg (by decide), if_neg (by decide)]
      split at x
      · rename_i q he; rw [he]; exact x
      · rename_i j v he
        rw [he]
        obtain ⟨m', k, M', x1, x2, x3, x4⟩ := x
        have hj := hb.2 j v he
        dsimp only
        by_cases c38 : pk tx n j = 124
        · rw [if_pos c38]
          have hjn := pkin c38 (by decide)
          rw [CL_x x4 h14 h5 hn hj.2.1 (Or.inl (by rw [c38]; decide)) (by omega), GL_s x4 h14 h5 hn hj.2.1 (Or.inl c38)] at x3
          have y := ih2 (j + 1) st _ m' hjn (by omega) (x4.go (j + 1)) (by omega) hs
          split at y
          · rename_i q he2; rw [he2]; obtain ⟨M2, z1, z2⟩ := y; exact ⟨M2, x3.trans z1, z2⟩
          · rename_i j2 v2 he2
            rw [he2]
            obtain ⟨m2, k2, M2, z1, z2, z3, z4⟩ := y
            exact ⟨m2, k2, M2, z1, z2, x3.trans z3, z4⟩
        · rw [if_neg c38]
          exact ⟨m', k, M', x1, x2, x3, x4⟩
/-- where it fails, or that it does not -/
theorem isl_e (hN : 100000 ≤ N) (hn : n ≤ 40) (h14 : M0.1 0 14 = nI n) (h5 : M0.1 5 = tx) (htx : ∀ i, i < n → 0 ≤ (tx i).toInt) : match lwS tx n 200 2 0 0 with
    | .inl q => ∃ M', f_X12_isLaw N M0 = some (0, M') ∧ Rq M0 q M'
    | .inr (j, _) => ∃ M', f_X12_isLaw N M0 = some (if j = n then 1 else 0, M') ∧ Rq M0 j M' := by
  have h0 : Rx M0 0 [] (wI (wI M0 0 16 0) 0 17 0) := by
    refine ⟨⟨((Fr.rf _ _).wI (by simp)).wI (by simp), fun k k1 k2 => by simp [wI_g, upd_g, k1, k2], by simp [wI_g, upd_g]; rfl⟩, by simp [wI_g, upd_g]; rfl, True.intro, by simp⟩
  have x := (isl_m hN hn h14 h5 200).2.2 0 [] _ N (by omega) (by omega) h0 (by omega) rfl
  have hb := lw_b (tx := tx) (n := n) 200 2 0 0 (by omega)
  have e0 : ([] : List Int32).length = 0 := rfl
  rw [e0] at x
  have ef : f_X12_isLaw N M0 = TL N N (wI (wI M0 0 16 0) 0 17 0) := rfl
  rw [ef]
  split at x
  · exact x
  · rename_i j v he
    obtain ⟨m', k, M', x1, x2, x3, x4⟩ := x
    have hj := hb.2 j v he
    rw [x3, CL_x x4 h14 h5 hn hj.2.1 (Or.inr rfl) (by omega)]
    by_cases hjn : j = n
    · rw [if_pos hjn]
      refine ⟨M', ?_, x4.1⟩
      unfold GL
      have ep : pk tx n j = -1 := by unfold pk; rw [if_neg (by omega)]
      rw [bd_of (msign_e x4.1 h14 h5 hn hj.2.1), if_pos ep, if_pos (show M'.1 0 17 = 0 from x4.2.1)]
    · rw [if_neg hjn]
      refine ⟨M', GL_n x4 h14 h5 hn hj.2.1 (hj.2.2.2 (by omega)) (hj.2.2.1 (by omega)) (Or.inl ?_), x4.1⟩
      unfold pk
      rw [if_pos (by omega)]
      intro q
      have := htx j (by omega)
      rw [q] at this
      exact absurd this (by decide)
end Mlaw
