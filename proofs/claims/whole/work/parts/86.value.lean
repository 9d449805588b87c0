/-! what a rule makes of a plan and a world: the class -/
section Value
variable {N : Nat} {M : Mm}
theorem vof_e (q p w : Int32) : f_X7_valueOf N q p w M = some (rpV q p w, M) := by
  unfold f_X7_valueOf rpV
  split
  · rfl
  · split <;> rfl
theorem joi_e (q x y : Int32) : f_X7_joined N q x y M = some (rpJ q x y, M) := by
  unfold f_X7_joined rpJ
  split
  · rfl
  · split <;> rfl
theorem rp_pre {pt : Nat → Int32} {p w : Int32} {a : Nat} {st : List Int32} : ∀ {k j : Nat} {t : List Int32}, j ≤ k → rpR pt p w a k st = some t → ∃ u, rpR pt p w a j st = some u := by
  intro k
  induction k with
  | zero => intro j t hj h; have : j = 0 := by omega
            subst this; exact ⟨t, h⟩
  | succ k ih =>
    intro j t hj h
    by_cases e : j = k + 1
    · subst e; exact ⟨t, h⟩
    · have h' : (match rpR pt p w a k st with
        | none => none
        | some t => stp p w (pt (a + k)) t) = some t := h
      cases hr : rpR pt p w a k st with
      | none => rw [hr] at h'; cases h'
      | some u => exact ih (by omega) hr
theorem value_e (hN : 100000 ≤ N) {k m : Nat} {p w x : Int32} (hk : k + 1 < 37) (hl : M.1 k 1 = nI m) (h0 : 0 < m) (hm : m ≤ 40) (hr : rpR (M.1 (k + 1)) p w 0 m [] = some [x]) : ∃ M', f_X7_value N k p w M = some (x, M') ∧ Fr [37] M M' := by
  obtain ⟨s', Ma, rec, ⟨st, i1, hs, hF, i2, i3⟩, he⟩ := itr_go (B := B_X7_value_6 N k p w fun z8 M9 => (if 0 < z8 then (if inb (z8 - 1) 40 then (some (M9.1 37 (ix (z8 - 1)), M9)) else none) else (some (0, M9)))) (fun j s M' => ∃ st, rpR (M.1 (k + 1)) p w 0 j [] = some st ∧ s = (nI st.length, nI j) ∧ Fr [37] M M' ∧ Stk (M'.1 37) st ∧ st.length ≤ j) m
    (fun rec j s Mx hj ⟨st, i1, hs, hF, i2, i3⟩ => by
      subst hs
      obtain ⟨u, hu⟩ := rp_pre (j := j + 1) (by omega) hr
      have hu' : (match rpR (M.1 (k + 1)) p w 0 j [] with
        | none => none
        | some t => stp p w (M.1 (k + 1) (0 + j)) t) = some u := hu
      rw [i1] at hu'
      dsimp only at hu'
      rw [Nat.zero_add] at hu'
      unfold B_X7_value_6
      dsimp only
      rw [hF.1 k (by simp; omega), hF.1 (k + 1) (by simp; omega), hl, if_pos (by rw [nlt (by omega) (by omega)]; exact hj), if_pos (by rw [lt40 (by omega)]; omega), inb_n (by omega) (by omega), ix_n (by omega), if_pos rfl]
      unfold stp at hu'
      by_cases hq : M.1 (k + 1) j < 1020
      · rw [if_pos hq] at hu'
        cases hu'
        rw [if_pos hq, if_pos (by rw [lt40 (by omega)]; omega), bd_of (vof_e _ _ _), inb_n (by omega) (by omega), ix_n (by omega), if_pos rfl, lt_eq, nI_1, nI_1]
        refine ⟨_, _, ⟨_, hu, rfl, hF.wI (by simp), ?_, ?_⟩, rfl⟩
        · have e : (wI Mx 37 st.length (rpV (M.1 (k + 1) j) p w)).1 37 = upd (Mx.1 37) st.length (rpV (M.1 (k + 1) j) p w) := by simp [wI_g]
          rw [e]; exact i2.push
        · show st.length + 1 ≤ j + 1; omega
      · rw [if_neg hq] at hu'
        match st, hu' with
        | y :: z :: r, hu' =>
          cases hu'
          have i3' : r.length + 1 + 1 ≤ j := i3
          have el : (y :: z :: r).length = r.length + 1 + 1 := rfl
          rw [if_neg hq, el, if_neg (by rw [lt2 (by omega)]; omega), lt_eq]
          have em : nI (r.length + 1 + 1) + -1 = nI (r.length + 1) := (Int32.sub_eq_add_neg _ _).symm.trans (dec1 _)
          rw [em, dec1, inb_n (by omega) (by omega), inb_n (by omega) (by omega), ix_n (by omega), ix_n (by omega), if_pos rfl, if_pos rfl, bd_of (joi_e _ _ _), if_pos rfl, lt_eq, nI_1]
          have e1 : Mx.1 37 (r.length + 1) = y := i2.1
          have e2 : Mx.1 37 r.length = z := i2.2.1
          rw [e1, e2]
          refine ⟨_, _, ⟨_, hu, rfl, hF.wI (by simp), ?_, ?_⟩, rfl⟩
          · have e : (wI Mx 37 r.length (rpJ (M.1 (k + 1) j) z y)).1 37 = upd (Mx.1 37) r.length (rpJ (M.1 (k + 1) j) z y) := by simp [wI_g]
            rw [e]; exact i2.2.2.push
          · show r.length + 1 ≤ j + 1; omega) N 0 (0, 0) M (by omega) (by omega) ⟨[], rfl, rfl, Fr.rf _ _, True.intro, Nat.le_refl _⟩
  subst hs
  rw [hr] at i1
  cases i1
  refine ⟨Ma, ?_, hF⟩
  unfold f_X7_value
  rw [he]
  have eB : ∀ G rec, B_X7_value_6 N k p w G rec (nI [x].length, nI m) Ma = G (nI 1) Ma := fun G rec => by
    unfold B_X7_value_6
    dsimp only
    rw [hF.1 k (by simp; omega), hl, if_neg (by rw [nlt (by omega) (by omega)]; omega)]
    rfl
  rw [eB, if_pos (by decide), show nI 1 - 1 = nI 0 by rfl, inb_n (by omega) (by omega), ix_n (by omega), if_pos rfl]
  have : Ma.1 37 0 = x := i2.1
  rw [this]
theorem value_0 (hN : 100000 ≤ N) {k : Nat} {p w : Int32} (hl : M.1 k 1 = 0) : f_X7_value N k p w M = some (0, M) := by
  obtain ⟨N', rfl⟩ : ∃ N', N = N' + 1 := ⟨N - 1, by omega⟩
  unfold f_X7_value
  rw [itr_s]
  have eB : ∀ G rec, B_X7_value_6 (N' + 1) k p w G rec (0, 0) M = G 0 M := fun G rec => by
    unfold B_X7_value_6
    dsimp only
    rw [hl, if_neg (by decide)]
  rw [eB, if_neg (by decide)]
/-- what is had by a value, under a limit -/
def hdI (lim v : Int32) : Int32 := if 0 < (if lim < v then lim else v) then (if lim < v then lim else v) else 0
theorem hd_b {lim v : Int32} (h0 : 0 ≤ lim.toInt) : 0 ≤ (hdI lim v).toInt ∧ (hdI lim v).toInt ≤ lim.toInt := by
  unfold hdI
  have z0 : (0 : Int32).toInt = 0 := rfl
  by_cases h : lim < v
  · rw [if_pos h]
    by_cases h1 : 0 < lim
    · rw [if_pos h1]; omega
    · rw [if_neg h1]; omega
  · rw [if_neg h]
    rw [toI_lt] at h
    by_cases h1 : 0 < v
    · rw [if_pos h1]; rw [toI_lt] at h1; omega
    · rw [if_neg h1]; omega
theorem hd_0 (v : Int32) : hdI 0 v = 0 := by
  unfold hdI
  by_cases h : 0 < v
  · rw [if_pos h, if_neg (by decide)]
  · rw [if_neg h, if_neg h]
theorem hd_v0 {lim : Int32} (h0 : 0 ≤ lim.toInt) : hdI lim 0 = 0 := by
  unfold hdI
  rw [if_neg (show ¬ lim < 0 by rw [toI_lt]; have : (0 : Int32).toInt = 0 := rfl; omega), if_neg (by decide)]
/-- the value of a harbour's rule, as the class has it -/
theorem had_c (hN : 100000 ≤ N) {h : Nat} (hh : h < 4) {p w v : Int32} (hv : (M.1 (5 + 2 * h) 1 = 0 ∧ v = 0) ∨ ∃ m, 0 < m ∧ m ≤ 40 ∧ M.1 (5 + 2 * h) 1 = nI m ∧ rpR (M.1 (6 + 2 * h)) p w 0 m [] = some [v]) : ∃ M', f_X8_hadAt N (nI h) p w M = some (hdI (M.1 2 (6 * h + 4)) v, M') ∧ Fr [37] M M' := by
  have key : ∃ M', f_X7_value N (5 + 2 * h) p w M = some (v, M') ∧ Fr [37] M M' := by
    rcases hv with ⟨h1, rfl⟩ | ⟨m, h1, h2, h3, h4⟩
    · exact ⟨M, value_0 hN h1, Fr.rf _ _⟩
    · exact value_e hN (by omega) h3 h1 h2 (by rw [show 5 + 2 * h + 1 = 6 + 2 * h by omega]; exact h4)
  obtain ⟨M', k1, k2⟩ := key
  refine ⟨M', ?_, k2⟩
  unfold f_X8_hadAt
  rw [inb_n (by omega) (by omega), ix_n (by omega), if_pos rfl, bd_of k1, mul6, add4, inb_n (by omega) (by omega), ix_n (by omega), if_pos rfl, k2.1 2 (by decide)]
  rfl
end Value
