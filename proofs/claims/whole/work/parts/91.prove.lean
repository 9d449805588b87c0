/-! a row that proves, or fails -/
/-- the first place from i on, of d, that is not good -/
def fgo (g : Nat → Bool) : Nat → Nat → Option Nat
  | _, 0 => none
  | i, d + 1 => if g i then fgo g (i + 1) d else some i
theorem itr_first {B : (Int32 → Mm → Rs) → Int32 → Mm → Rs} {M : Mm} {g : Nat → Bool} {R0 : Nat → Rs} {R1 : Rs} {e : Nat} (hs : ∀ rec j, j < e → B rec (nI j) M = if g j then rec (nI (j + 1)) M else R0 j) (he : ∀ rec, B rec (nI e) M = R1) : ∀ (d i n : Nat), i + d = e → d < n → itr B n (nI i) M = match fgo g i d with | none => R1 | some k => R0 k := by
  intro d
  induction d with
  | zero =>
    intro i n h hn
    obtain ⟨n, rfl⟩ : ∃ n', n = n' + 1 := ⟨n - 1, by omega⟩
    have : i = e := by omega
    subst this
    rw [itr_s, he]
    rfl
  | succ d ih =>
    intro i n h hn
    obtain ⟨n, rfl⟩ : ∃ n', n = n' + 1 := ⟨n - 1, by omega⟩
    rw [itr_s, hs _ i (by omega)]
    unfold fgo
    cases g i
    · rfl
    · exact ih (i + 1) n (by omega) (by omega)
theorem fgo_congr {g g' : Nat → Bool} : ∀ (d i : Nat), (∀ k, i ≤ k → k < i + d → g k = g' k) → fgo g i d = fgo g' i d := by
  intro d
  induction d with
  | zero => intro i _; rfl
  | succ d ih =>
    intro i h
    unfold fgo
    rw [h i (by omega) (by omega), ih (i + 1) (fun k h1 h2 => h k (by omega) (by omega))]
theorem fgo_some {g : Nat → Bool} : ∀ (d i k : Nat), fgo g i d = some k → i ≤ k ∧ k < i + d ∧ g k = false := by
  intro d
  induction d with
  | zero => intro i k h; cases h
  | succ d ih =>
    intro i k h
    unfold fgo at h
    cases hg : g i
    · rw [hg] at h; cases h; exact ⟨by omega, by omega, hg⟩
    · rw [hg] at h
      have := ih (i + 1) k h
      exact ⟨by omega, by omega, this.2.2⟩
theorem fgo_none {g : Nat → Bool} : ∀ (d i : Nat), fgo g i d = none → ∀ k, i ≤ k → k < i + d → g k = true := by
  intro d
  induction d with
  | zero => intro i h k h1 h2; omega
  | succ d ih =>
    intro i h k h1 h2
    unfold fgo at h
    cases hg : g i
    · rw [hg] at h; cases h
    · rw [hg] at h
      by_cases e : k = i
      · rw [e]; exact hg
      · exact ih (i + 1) h k (by omega) (by omega)
def g1P (r : Nat → Int32) (k : Nat) : Bool := !decide (r k < 0) && !decide (9999 < r k)
def g3P (r nu : Nat → Int32) (p w j i : Nat) : Bool := !(decide (0 < balZ nu p w i) && decide (r (4 + i) + nu (24 + 4 * i + j) < r j))
def fatI (r nu : Nat → Int32) (p w j : Nat) : Int32 := match fgo (g3P r nu p w j) 0 4 with
  | some i => nI (100 + 10 * i + j)
  | none => if r (8 + j) + nu (6 * j + 3) < r j then nI (200 + j) else if nu 41 < r j then nI (300 + j) else -1
def g2P (r nu : Nat → Int32) (p w j : Nat) : Bool := !decide (balZ nu p w j < 0) || decide (fatI r nu p w j < 0)
def failI (r nu : Nat → Int32) (p w : Nat) : Int32 := match fgo (g1P r) 0 12 with
  | some k => nI k
  | none => match fgo (g2P r nu p w) 0 4 with
    | some j => fatI r nu p w j
    | none => -1
section Prove
variable {N : Nat} {M : Mm} {p w : Nat}
theorem i_100 {i j : Nat} : 100 + 10 * nI i + nI j = nI (100 + 10 * i + j) := by
  show nI 100 + nI 10 * nI i + nI j = _
  rw [pk_mul, nI_add, nI_add]
theorem i_200 (j : Nat) : 200 + nI j = nI (200 + j) := by
  show nI 200 + nI j = _
  rw [nI_add]
theorem i_300 (j : Nat) : 300 + nI j = nI (300 + j) := by
  show nI 300 + nI j = _
  rw [nI_add]
theorem i_8 (j : Nat) : 8 + nI j = nI (8 + j) := by
  show nI 8 + nI j = _
  rw [nI_add]
theorem fat_e (hN : 100000 ≤ N) (hn : NumB (M.1 2)) (hp : p < 256) (hw : w < 16) {j : Nat} (hj : j < 4) : f_X6_failureAt N (nI j) (nI p) (nI w) M = some (fatI (M.1 32) (M.1 2) p w j, M) := by
  unfold f_X6_failureAt
  rw [inb_n (by omega) (by omega), ix_n (by omega), if_pos rfl]
  have key := itr_first (B := B_X6_failureAt_17 N (nI j) (nI p) (nI w) (M.1 32 j) fun z4 M5 => if inb (8 + nI j) 12 = true then (if inb (nI j * 6 + 3) 43 = true then (if M5.1 32 (ix (8 + nI j)) + M5.1 2 (ix (nI j * 6 + 3)) < M.1 32 j then some (200 + nI j, M5) else if M5.1 2 (ix 41) < M.1 32 j then some (300 + nI j, M5) else some (-1, M5)) else none) else none) (M := M) (g := g3P (M.1 32) (M.1 2) p w j) (R0 := fun i => some (nI (100 + 10 * i + j), M)) (R1 := if M.1 32 (8 + j) + M.1 2 (6 * j + 3) < M.1 32 j then some (nI (200 + j), M) else if M.1 2 41 < M.1 32 j then some (nI (300 + j), M) else some (-1, M)) (e := 4)
    (fun rec i hi => by
      obtain ⟨x, b1, b2⟩ := bal_e (N := N) hn hp hw hi
      unfold B_X6_failureAt_17
      rw [if_pos (by rw [lt4 (by omega)]; exact hi), mul4, ladd24, nI_add, inb_n (by omega) (by omega), ix_n (by omega), if_pos rfl, lt_eq, bd_of b1, ladd4, inb_n (by omega) (by omega), ix_n (by omega), nI_1, i_100]
      unfold g3P
      have z : (0 < x) = (0 < balZ (M.1 2) p w i) := by rw [zI, b2]
      by_cases c1 : 0 < balZ (M.1 2) p w i
      · rw [if_pos (by rw [z]; exact c1), if_pos rfl]
        by_cases c2 : M.1 32 (4 + i) + M.1 2 (24 + 4 * i + j) < M.1 32 j
        · rw [if_pos c2, if_neg (by simp [c1, c2])]
        · rw [if_neg c2, if_pos (by simp [c2])]
      · rw [if_neg (by rw [z]; exact c1), if_pos (by simp [c1])])
    (fun rec => by
      unfold B_X6_failureAt_17
      rw [if_neg (show ¬ nI 4 < 4 by decide), mul6, add3, i_8, inb_n (by omega) (by omega), inb_n (by omega) (by omega), ix_n (by omega), ix_n (by omega)]
      dsimp only
      rw [if_pos rfl, if_pos rfl, i_200, i_300, show ix (41 : Int32) = 41 by rfl]) 4 0 N (by omega) (by omega)
  rw [nI_0] at key
  refine Eq.trans key ?_
  unfold fatI
  cases fgo (g3P (M.1 32) (M.1 2) p w j) 0 4 with
  | some i => rfl
  | none =>
    dsimp only
    split
    · rfl
    · split <;> rfl
theorem cfail_e (hN : 100000 ≤ N) (hn : NumB (M.1 2)) (hp : p < 256) (hw : w < 16) : f_X6_failureOf N (nI p) (nI w) M = some (failI (M.1 32) (M.1 2) p w, M) := by
  have k2 := itr_first (B := B_X6_failureOf_39 N (nI p) (nI w) fun z7 M8 => some (-1, M8)) (M := M) (g := g2P (M.1 32) (M.1 2) p w) (R0 := fun j => some (fatI (M.1 32) (M.1 2) p w j, M)) (R1 := some (-1, M)) (e := 4)
    (fun rec j hj => by
      obtain ⟨x, b1, b2⟩ := bal_e (N := N) hn hp hw hj
      have z : (x < 0) = (balZ (M.1 2) p w j < 0) := by rw [zL, b2]
      unfold B_X6_failureOf_39
      rw [if_pos (by rw [lt4 (by omega)]; exact hj), bd_of b1, bd_of (fat_e hN hn hp hw hj), nI_1]
      unfold g2P
      by_cases c1 : balZ (M.1 2) p w j < 0
      · rw [if_pos (by rw [z]; exact c1)]
        by_cases c2 : fatI (M.1 32) (M.1 2) p w j < 0
        · rw [if_pos c2, if_pos (by simp [c2])]
        · rw [if_neg c2, if_neg (by simp [c1, c2])]
      · rw [if_neg (by rw [z]; exact c1), if_pos (by simp [c1])])
    (fun rec => by
      unfold B_X6_failureOf_39
      rw [if_neg (show ¬ nI 4 < 4 by decide)]) 4 0 N (by omega) (by omega)
  have k1 := itr_first (B := B_X6_failureOf_3 N (nI p) (nI w) fun z1 M2 => itr (B_X6_failureOf_39 N (nI p) (nI w) fun z7 M8 => some (-1, M8)) N 0 M2) (M := M) (g := g1P (M.1 32)) (R0 := fun k => some (nI k, M)) (R1 := itr (B_X6_failureOf_39 N (nI p) (nI w) fun z7 M8 => some (-1, M8)) N 0 M) (e := 12)
    (fun rec j hj => by
      unfold B_X6_failureOf_3
      rw [if_pos (by rw [lt12 (by omega)]; exact hj), inb_n (by omega) (by omega), ix_n (by omega), if_pos rfl, if_pos rfl, nI_1]
      unfold g1P
      by_cases c1 : M.1 32 j < 0
      · rw [if_pos c1, if_neg (by simp [c1])]
      · rw [if_neg c1]
        by_cases c2 : 9999 < M.1 32 j
        · rw [if_pos c2, if_neg (by simp [c2])]
        · rw [if_neg c2, if_pos (by simp [c1, c2])])
    (fun rec => by
      unfold B_X6_failureOf_3
      rw [if_neg (show ¬ nI 12 < 12 by decide)]) 12 0 N (by omega) (by omega)
  rw [nI_0] at k1 k2
  unfold f_X6_failureOf
  refine Eq.trans k1 ?_
  unfold failI
  cases fgo (g1P (M.1 32)) 0 12 with
  | some k => rfl
  | none =>
    refine Eq.trans k2 ?_
    cases fgo (g2P (M.1 32) (M.1 2) p w) 0 4 <;> rfl
/-- the reference, when what lacks is found -/
theorem mfail_e (hN : 100000 ≤ N) {r nu : Nat → Int32} (hr : ∀ k, k < 12 → M.1 23 k = r k) (hu : ∀ k, k < 43 → M.1 2 k = nu k) (hl : ∀ h, h < 4 → (M.1 16 h).toInt = lkZ nu p w h ∧ (M.1 15 h).toInt = spZ nu p w h) : f_X12_fails N M = some (failI r nu p w, M) := by
  have in3 : ∀ j, j < 4 → ∀ (G : Unit → Mm → Rs), itr (B_X12_fails_54 N (nI j) G) N 0 M = match fgo (g3P r nu p w j) 0 4 with | none => G () M | some i => some (nI (100 + 10 * i + j), M) := by
    intro j hj G
    have key := itr_first (B := B_X12_fails_54 N (nI j) G) (M := M) (g := g3P r nu p w j) (R0 := fun i => some (nI (100 + 10 * i + j), M)) (R1 := G () M) (e := 4)
      (fun rec i hi => by
        unfold B_X12_fails_54
        rw [if_pos (by rw [lt4 (by omega)]; exact hi), inb_n (by omega) (by omega), ix_n (by omega), if_pos rfl, inb_n (by omega) (by omega), ix_n (by omega), if_pos rfl, ladd4, inb_n (by omega) (by omega), ix_n (by omega), if_pos rfl, lmul4, ladd24, nI_add, inb_n (by omega) (by omega), ix_n (by omega), if_pos rfl, nI_1, i_100, hr (4 + i) (by omega), hr j (by omega), hu (24 + 4 * i + j) (by omega)]
        have z : (0 < M.1 15 i) = (0 < balZ nu p w i) := by
          rw [zI, (hl i hi).2]
          unfold spZ
          split
          · rfl
          · rename_i q; exact propext ⟨fun t => absurd t (by omega), fun t => absurd t q⟩
        unfold g3P
        by_cases c1 : 0 < balZ nu p w i
        · rw [if_pos (by rw [z]; exact c1)]
          by_cases c2 : r (4 + i) + nu (24 + 4 * i + j) < r j
          · rw [if_pos c2, if_neg (by simp [c1, c2])]
          · rw [if_neg c2, if_pos (by simp [c2])]
        · rw [if_neg (by rw [z]; exact c1), if_pos (by simp [c1])])
      (fun rec => by
        unfold B_X12_fails_54
        rw [if_neg (show ¬ nI 4 < 4 by decide)]) 4 0 N (by omega) (by omega)
    rw [nI_0] at key
    exact key
  have k2 := itr_first (B := B_X12_fails_35 N fun z7 M8 => some (-1, M8)) (M := M) (g := g2P r nu p w) (R0 := fun j => some (fatI r nu p w j, M)) (R1 := some (-1, M)) (e := 4)
    (fun rec j hj => by
      have z : (M.1 16 j = 0) = ¬ (balZ nu p w j < 0) := by
        rw [toI_eq, (hl j hj).1]
        have z0 : (0 : Int32).toInt = 0 := rfl
        rw [z0]
        unfold lkZ
        split
        · rename_i q; exact propext ⟨fun t => by omega, fun t => absurd q t⟩
        · rename_i q; exact propext ⟨fun _ => q, fun _ => rfl⟩
      unfold B_X12_fails_35
      rw [if_pos (by rw [lt4 (by omega)]; exact hj), inb_n (by omega) (by omega), ix_n (by omega), if_pos rfl, nI_1]
      unfold g2P
      by_cases c1 : balZ nu p w j < 0
      · rw [if_neg (by rw [z]; exact fun t => t c1), in3 j hj]
        unfold fatI
        cases hg : fgo (g3P r nu p w j) 0 4 with
        | some i =>
          have := fgo_some _ _ _ hg
          dsimp only
          rw [if_neg]
          simp only [c1, decide_true, Bool.not_true, Bool.false_or, decide_eq_true_eq]
          exact nI_pos (by omega)
        | none =>
          dsimp only
          rw [inb_n (by omega) (by omega), i_8, inb_n (by omega) (by omega), lmul6, add3, inb_n (by omega) (by omega), ix_n (by omega), ix_n (by omega), if_pos rfl, if_pos rfl, if_pos rfl, if_pos rfl, show ix (41 : Int32) = 41 by rfl, i_200, i_300, hr j (by omega), hr (8 + j) (by omega), hu (6 * j + 3) (by omega), hu 41 (by omega)]
          by_cases c2 : r (8 + j) + nu (6 * j + 3) < r j
          · rw [if_pos c2, if_neg]
            · rw [if_pos c2]
            · rw [if_pos c2]
              simp only [c1, decide_true, Bool.not_true, Bool.false_or, decide_eq_true_eq]
              exact nI_pos (by omega)
          · rw [if_neg c2, if_neg c2]
            by_cases c3 : nu 41 < r j
            · rw [if_pos c3, if_pos c3, if_neg]
              simp only [c1, decide_true, Bool.not_true, Bool.false_or, decide_eq_true_eq]
              exact nI_pos (by omega)
            · rw [if_neg c3, if_neg c3, if_pos]
              simp only [c1, decide_true, Bool.not_true, Bool.false_or, decide_eq_true_eq]
              decide
      · rw [if_pos (by rw [z]; exact c1), if_pos (by simp [c1])])
    (fun rec => by
      unfold B_X12_fails_35
      rw [if_neg (show ¬ nI 4 < 4 by decide)]) 4 0 N (by omega) (by omega)
  have k1 := itr_first (B := B_X12_fails_2 N fun z3 M4 => itr (B_X12_fails_35 N fun z7 M8 => some (-1, M8)) N 0 M4) (M := M) (g := g1P r) (R0 := fun k => some (nI k, M)) (R1 := itr (B_X12_fails_35 N fun z7 M8 => some (-1, M8)) N 0 M) (e := 12)
    (fun rec j hj => by
      unfold B_X12_fails_2
      rw [if_pos (by rw [lt12 (by omega)]; exact hj), inb_n (by omega) (by omega), ix_n (by omega), if_pos rfl, nI_1, hr j hj]
      have e : f_X12_isIn N (r j).toInt64 0 9999 M = some (if r j < 0 then 0 else if 9999 < r j then 0 else 1, M) := in_lit (r j) 9999
      rw [bd_of e]
      unfold g1P
      by_cases c1 : r j < 0
      · rw [if_pos c1, if_pos rfl, if_neg (by simp [c1])]
      · rw [if_neg c1]
        by_cases c2 : 9999 < r j
        · rw [if_pos c2, if_pos rfl, if_neg (by simp [c2])]
        · rw [if_neg c2, if_neg (show ¬ (1 : Int32) = 0 by decide), if_pos (by simp [c1, c2])])
    (fun rec => by
      unfold B_X12_fails_2
      rw [if_neg (show ¬ nI 12 < 12 by decide)]) 12 0 N (by omega) (by omega)
  rw [nI_0] at k1 k2
  unfold f_X12_fails
  refine Eq.trans k1 ?_
  unfold failI
  cases fgo (g1P r) 0 12 with
  | some k => rfl
  | none =>
    refine Eq.trans k2 ?_
    cases fgo (g2P r nu p w) 0 4 <;> rfl
end Prove
