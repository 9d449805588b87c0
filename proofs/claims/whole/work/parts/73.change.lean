/-! numbers that change, and are taken back -/
theorem upd_self (f : Nat → Int32) (k : Nat) : upd f k (f k) = f := by
  funext i
  rw [upd_g]
  split
  · rename_i h; rw [h]
  · rfl
theorem OkV.num {nu : Nat → Int32} (h : ∀ s, s < 43 → OkV s (nu s)) : NumB nu := ⟨fun i hi => ⟨(h i hi).1, (h i hi).2.1⟩, fun i hi hx => (h i (by omega)).2.2 hi hx⟩
section Change
variable {N : Nat} {M1 M2 : Mm}
/-- what comes of a slot that gets a number: the class -/
theorem note_e {x z : Nat} (hx : x < 40) (hz : z ≤ 40) (h2 : M1.1 27 2 = nI x) (h3 : M1.1 27 3 = nI z) (s v : Int32) : ∃ M', f_X1_note N s v M1 = some (0, M') ∧ Fr [27, 28, 29] M1 M' ∧ M'.1 27 2 = nI ((x + 1) % 40) ∧ M'.1 27 3 = nI (if z < 40 then z + 1 else z) ∧ M'.1 28 = upd (M1.1 28) x s ∧ M'.1 29 = upd (M1.1 29) x v := by
  unfold f_X1_note
  rw [h2, inb_n (by omega) (by omega), ix_n (by omega)]
  simp only [if_true, lt_eq]
  have e1 : (wI M1 28 x s).1 27 2 = nI x := by rw [wI_g, if_neg (by omega)]; exact h2
  rw [e1, inb_n (by omega) (by omega), ix_n (by omega)]
  simp only [if_true]
  have e2 : (wI (wI M1 28 x s) 29 x v).1 27 2 = nI x := by simp only [wI_g]; simp; exact h2
  have er : nI x + 1 - (nI x + 1) / 40 * 40 = nI ((x + 1) % 40) := by
    rw [nI_1]
    show nI (x + 1) - nI (x + 1) / nI 40 * nI 40 = _
    rw [pk_rem (by omega) (by omega) (by omega)]
  rw [e2, er]
  have e3 : (wI (wI (wI M1 28 x s) 29 x v) 27 2 (nI ((x + 1) % 40))).1 27 3 = nI z := by simp [wI_g, upd_g, h3]
  rw [e3, nI_1]
  by_cases h : z < 40
  · rw [if_pos (show nI z < 40 by rw [lt40 (by omega)]; exact h), if_pos h]
    exact ⟨_, rfl, ((((Fr.rf _ _).wI (by simp)).wI (by simp)).wI (by simp)).wI (by simp), by simp [wI_g, upd_g], by simp [wI_g, upd_g], by simp [wI_g], by simp [wI_g]⟩
  · rw [if_neg (show ¬ nI z < 40 by rw [lt40 (by omega)]; exact h), if_neg h]
    exact ⟨_, rfl, (((Fr.rf _ _).wI (by simp)).wI (by simp)).wI (by simp), by simp [wI_g, upd_g], e3, by simp [wI_g], by simp [wI_g]⟩
theorem forget_e (M : Mm) : f_X3_forget N M = some (0, wI M 38 3 1) := rfl
/-- the reference's row of changes moves up when it is full -/
def shM (M : Mm) (j : Nat) : Mm := wR (wR M 3 (fun i => if i + 1 < j then M.1 3 (i + 1) else M.1 3 i)) 4 (fun i => if i + 1 < j then M.1 4 (i + 1) else M.1 4 i)
theorem mm_ext {M M' : Mm} (h1 : ∀ b, M.1 b = M'.1 b) (h2 : M.2 = M'.2) : M = M' := Prod.ext (funext h1) h2
theorem sh_3 (M : Mm) (j i : Nat) : (shM M j).1 3 i = if i + 1 < j then M.1 3 (i + 1) else M.1 3 i := by unfold shM; simp [wR_g]
theorem sh_4 (M : Mm) (j i : Nat) : (shM M j).1 4 i = if i + 1 < j then M.1 4 (i + 1) else M.1 4 i := by unfold shM; simp [wR_g]
theorem sh_o (M : Mm) (j : Nat) {b : Nat} (h3 : b ≠ 3) (h4 : b ≠ 4) : (shM M j).1 b = M.1 b := by unfold shM; simp [wR_g, h3, h4]
theorem shift_e (hN : 100000 ≤ N) (a b : Int32) (G : Unit → Mm → Rs) : itr (B_X12_becomes_11 N a b G) N 1 M2 = G () (shM M2 40) := by
  have e0 : shM M2 1 = M2 := by
    refine mm_ext (fun b => ?_) rfl
    by_cases h3 : b = 3
    · subst h3; funext i; rw [sh_3, if_neg (by omega)]
    · by_cases h4 : b = 4
      · subst h4; funext i; rw [sh_4, if_neg (by omega)]
      · exact sh_o M2 1 h3 h4
  refine itr_for0 (fun j => nI (j + 1)) (fun j => shM M2 (j + 1)) 39 rfl e0 (by omega) (fun rec k hk => ?_) (fun rec => ?_)
  · unfold B_X12_becomes_11
    rw [if_pos (by rw [lt40 (by omega)]; omega), dec1]
    simp (disch := omega) only [inb_n, ix_n, if_true, lt_eq, nI_1]
    congr 1
    refine mm_ext (fun b => ?_) rfl
    by_cases h4 : b = 4
    · subst h4
      funext i
      rw [sh_4]
      simp only [wI_g, if_true, upd_g]
      simp only [show ¬ 4 = 3 by omega, if_false, sh_4]
      by_cases e : i = k
      · subst e; rw [if_pos rfl, if_neg (by omega), if_pos (by omega)]
      · rw [if_neg e]
        by_cases q : i + 1 < k + 1
        · rw [if_pos q, if_pos (by omega)]
        · rw [if_neg q, if_neg (by omega)]
    · by_cases h3 : b = 3
      · subst h3
        funext i
        rw [sh_3]
        simp only [wI_g, if_true, upd_g, show ¬ 3 = 4 by omega, if_false, sh_3]
        by_cases e : i = k
        · subst e; rw [if_pos rfl, if_neg (by omega), if_pos (by omega)]
        · rw [if_neg e]
          by_cases q : i + 1 < k + 1
          · rw [if_pos q, if_pos (by omega)]
          · rw [if_neg q, if_neg (by omega)]
      · rw [sh_o M2 _ h3 h4]
        simp only [wI_g, h3, h4, if_false]
        exact sh_o M2 _ h3 h4
  · unfold B_X12_becomes_11
    rw [if_neg (show ¬ nI (39 + 1) < 40 by decide)]
/-- a number becomes another: the reference -/
theorem becomes_e (hN : 100000 ≤ N) {s z : Nat} (hs : s < 43) (hz : z ≤ 40) (h5 : M2.1 0 5 = nI z) (v : Int32) : ∃ M', f_X12_becomes N (nI s) v M2 = some (M2.1 2 s, M') ∧ Fr [0, 2, 3, 4] M2 M' ∧ (∀ i, i ≠ 2 → i ≠ 5 → M'.1 0 i = M2.1 0 i) ∧ M'.1 0 2 = 0 ∧ M'.1 0 5 = nI (if z < 40 then z + 1 else z) ∧ M'.1 2 = upd (M2.1 2) s v ∧
    (∀ k, k < (if z < 40 then z + 1 else z) → M'.1 3 ((if z < 40 then z + 1 else z) - 1 - k) = if k = 0 then nI s else M2.1 3 (z - 1 - (k - 1))) ∧ ∀ k, k < (if z < 40 then z + 1 else z) → M'.1 4 ((if z < 40 then z + 1 else z) - 1 - k) = if k = 0 then M2.1 2 s else M2.1 4 (z - 1 - (k - 1)) := by
  -- the second half, over a row with room
  have key : ∀ (Mx : Mm) (y : Nat), y < 40 → Mx.1 0 5 = nI y → Mx.1 2 = M2.1 2 → ∃ M', (if inb (Mx.1 0 5) 40 then
      (lt' (wI Mx 3 (ix (Mx.1 0 5)) (nI s)) fun M4 =>
      (if inb (nI s) 47 then
      (if inb (M4.1 0 5) 40 then
      (lt' (wI M4 4 (ix (M4.1 0 5)) (M4.1 2 (ix (nI s)))) fun M5 =>
      (lt' (wI M5 0 5 ((M5.1 0 5) + 1)) fun M6 =>
      (if inb (nI s) 47 then
      (if inb (nI s) 47 then
      (lt' (wI M6 2 (ix (nI s)) v) fun M7 =>
      (lt' (wI M7 0 2 0) fun M8 =>
      (some (M6.1 2 (ix (nI s)), M8)))) else none) else none))) else none) else none)) else none) = some (M2.1 2 s, M') ∧ Fr [0, 2, 3, 4] Mx M' ∧ (∀ i, i ≠ 2 → i ≠ 5 → M'.1 0 i = Mx.1 0 i) ∧ M'.1 0 2 = 0 ∧ M'.1 0 5 = nI (y + 1) ∧ M'.1 2 = upd (M2.1 2) s v ∧ M'.1 3 = upd (Mx.1 3) y (nI s) ∧ M'.1 4 = upd (Mx.1 4) y (M2.1 2 s) := by
    intro Mx y hy e5 e2
    have w5 : (wI Mx 3 y (nI s)).1 0 5 = nI y := by rw [wI_g, if_neg (by omega)]; exact e5
    have w2 : (wI Mx 3 y (nI s)).1 2 s = M2.1 2 s := by rw [wI_g, if_neg (by omega), e2]
    have w6 : (wI (wI Mx 3 y (nI s)) 4 y (M2.1 2 s)).1 0 5 = nI y := by simp only [wI_g]; simp; exact e5
    rw [e5]
    simp (disch := omega) only [inb_n, ix_n, if_true, lt_eq, w5, w2, w6, nI_1]
    have w7 : (wI (wI (wI Mx 3 y (nI s)) 4 y (M2.1 2 s)) 0 5 (nI (y + 1))).1 2 s = M2.1 2 s := by simp only [wI_g]; simp; rw [e2]
    rw [w7]
    refine ⟨_, rfl, (((((Fr.rf _ _).wI (by simp)).wI (by simp)).wI (by simp)).wI (by simp)).wI (by simp), fun i i1 i2 => by simp [wI_g, upd_g, i1, i2], by simp [wI_g, upd_g], by simp [wI_g, upd_g], ?_, by simp [wI_g], by simp [wI_g]⟩
    simp only [wI_g]
    simp
    rw [e2]
  unfold f_X12_becomes
  simp only [lt_eq] at key ⊢
  by_cases h : z < 40
  · rw [h5, if_neg (show ¬ nI z = 40 by rw [eq40 (by omega)]; omega), ← h5]
    obtain ⟨M', a1, a2, a3, a4, a5, a6, a7, a8⟩ := key M2 z h h5 rfl
    rw [if_pos h]
    refine ⟨M', a1, a2, a3, a4, a5, a6, fun k hk => ?_, fun k hk => ?_⟩
    · rw [a7, upd_g]
      by_cases e : k = 0
      · rw [if_pos (by omega), if_pos e]
      · rw [if_neg (by omega), if_neg e]; exact congrArg _ (by omega)
    · rw [a8, upd_g]
      by_cases e : k = 0
      · rw [if_pos (by omega), if_pos e]
      · rw [if_neg (by omega), if_neg e]; exact congrArg _ (by omega)
  · have hz40 : z = 40 := by omega
    subst hz40
    rw [h5, if_pos (show nI 40 = 40 by rfl)]
    rw [shift_e hN]
    have e5 : (wI (shM M2 40) 0 5 (nI 39)).1 0 5 = nI 39 := by simp [wI_g, upd_g]
    have e2 : (wI (shM M2 40) 0 5 (nI 39)).1 2 = M2.1 2 := by rw [wI_g, if_neg (by omega), sh_o M2 40 (by omega) (by omega)]
    have q5 : (shM M2 40).1 0 5 - 1 = nI 39 := by rw [sh_o M2 40 (by omega) (by omega), h5]; exact dec1 39
    rw [q5]
    obtain ⟨M', a1, a2, a3, a4, a5, a6, a7, a8⟩ := key (wI (shM M2 40) 0 5 (nI 39)) 39 (by omega) e5 e2
    rw [if_neg h]
    have F : Fr [0, 2, 3, 4] M2 (wI (shM M2 40) 0 5 (nI 39)) := by
      unfold shM
      exact ((((Fr.rf _ _).wR (by simp)).wR (by simp))).wI (by simp)
    have g3 : ∀ i, (wI (shM M2 40) 0 5 (nI 39)).1 3 i = if i + 1 < 40 then M2.1 3 (i + 1) else M2.1 3 i := fun i => by rw [wI_g, if_neg (by omega), sh_3]
    have g4 : ∀ i, (wI (shM M2 40) 0 5 (nI 39)).1 4 i = if i + 1 < 40 then M2.1 4 (i + 1) else M2.1 4 i := fun i => by rw [wI_g, if_neg (by omega), sh_4]
    refine ⟨M', a1, F.tr a2, fun i i1 i2 => ?_, a4, a5, a6, fun k hk => ?_, fun k hk => ?_⟩
    · rw [a3 i i1 i2]
      simp only [wI_g, if_true, upd_g]
      rw [if_neg i2, sh_o M2 40 (by omega) (by omega)]
    · rw [a7, upd_g]
      by_cases e : k = 0
      · rw [if_pos (by omega), if_pos e]
      · rw [if_neg (by omega), if_neg e, g3, if_pos (by omega)]; exact congrArg _ (by omega)
    · rw [a8, upd_g]
      by_cases e : k = 0
      · rw [if_pos (by omega), if_pos e]
      · rw [if_neg (by omega), if_neg e, g4, if_pos (by omega)]; exact congrArg _ (by omega)
end Change
