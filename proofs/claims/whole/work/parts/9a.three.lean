/-! sets of at most three worlds, in the order of their numbers -/
def tr3 (h m l : Nat) : Nat := 2 ^ h ||| 2 ^ m ||| 2 ^ l
def pc (y : Nat) : Nat := c8 (y / 256) + c8 (y % 256)
theorem tr_i : ∀ h, h < 16 → ∀ m, m < 16 → ∀ l, l < 16 → ((1 : Int32) <<< (nI h &&& 31) ||| (1 : Int32) <<< (nI m &&& 31)) ||| (1 : Int32) <<< (nI l &&& 31) = nI (tr3 h m l) := by decide +kernel
theorem tr_lt : ∀ h, h < 16 → ∀ m, m < 16 → ∀ l, l < 16 → 1 ≤ tr3 h m l ∧ tr3 h m l < 65536 := by decide +kernel
theorem tr_1 : ∀ h, h < 16 → tr3 h h h = 2 ^ h ∧ pc (tr3 h h h) = 1 := by decide +kernel
theorem tr_2 : ∀ h, h < 16 → ∀ m, m < h → tr3 h m m = 2 ^ h + 2 ^ m ∧ tr3 h h m = 2 ^ h + 2 ^ m ∧ pc (2 ^ h + 2 ^ m) = 2 := by decide +kernel
theorem tr_3 : ∀ h, h < 16 → ∀ m, m < h → ∀ l, l < m → tr3 h m l = 2 ^ h + 2 ^ m + 2 ^ l ∧ pc (2 ^ h + 2 ^ m + 2 ^ l) = 3 := by decide +kernel
theorem pw_lt : ∀ a, a < 16 → ∀ h, h < 16 → a < h → 2 * 2 ^ a ≤ 2 ^ h := by decide +kernel
theorem pw_1 (a : Nat) : 1 ≤ 2 ^ a := Nat.one_le_two_pow
/-- a byte with at most three bits, by its bits -/
theorem by_0 : ∀ a, a < 256 → c8 a = 0 → a = 0 := by decide +kernel
theorem by_1 : ∀ a, a < 256 → c8 a = 1 → ∃ i, i < 8 ∧ a = 2 ^ i := by decide +kernel
theorem by_2 : ∀ a, a < 256 → c8 a = 2 → ∃ i, i < 8 ∧ ∃ j, j < i ∧ a = 2 ^ i + 2 ^ j := by decide +kernel
theorem by_3 : ∀ a, a < 256 → c8 a = 3 → ∃ i, i < 8 ∧ ∃ j, j < i ∧ ∃ k, k < j ∧ a = 2 ^ i + 2 ^ j + 2 ^ k := by decide +kernel
theorem pw_8 (i : Nat) : 256 * 2 ^ i = 2 ^ (8 + i) := by rw [Nat.pow_add]
theorem dec_ok {y : Nat} (hy : y < 65536) (h0 : y ≠ 0) (h3 : pc y ≤ 3) : ∃ a b c, a < 16 ∧ y = tr3 a b c ∧ ((b = a ∧ c = a ∧ pc y = 1) ∨ (b < a ∧ c = b ∧ pc y = 2) ∨ (b < a ∧ c < b ∧ pc y = 3)) := by
  have ha : y / 256 < 256 := by omega
  have hb : y % 256 < 256 := by omega
  have ey : y = 256 * (y / 256) + y % 256 := by omega
  have hp : pc y = c8 (y / 256) + c8 (y % 256) := rfl
  have one : ∀ i, i < 16 → y = 2 ^ i → pc y = 1 → ∃ a b c, a < 16 ∧ y = tr3 a b c ∧ ((b = a ∧ c = a ∧ pc y = 1) ∨ (b < a ∧ c = b ∧ pc y = 2) ∨ (b < a ∧ c < b ∧ pc y = 3)) := fun i hi e q => ⟨i, i, i, hi, by rw [(tr_1 i hi).1]; exact e, Or.inl ⟨rfl, rfl, q⟩⟩
  have two : ∀ i j, i < 16 → j < i → y = 2 ^ i + 2 ^ j → pc y = 2 → ∃ a b c, a < 16 ∧ y = tr3 a b c ∧ ((b = a ∧ c = a ∧ pc y = 1) ∨ (b < a ∧ c = b ∧ pc y = 2) ∨ (b < a ∧ c < b ∧ pc y = 3)) := fun i j hi hj e q => ⟨i, j, j, hi, by rw [(tr_2 i hi j hj).1]; exact e, Or.inr (Or.inl ⟨hj, rfl, q⟩)⟩
  have three : ∀ i j k, i < 16 → j < i → k < j → y = 2 ^ i + 2 ^ j + 2 ^ k → pc y = 3 → ∃ a b c, a < 16 ∧ y = tr3 a b c ∧ ((b = a ∧ c = a ∧ pc y = 1) ∨ (b < a ∧ c = b ∧ pc y = 2) ∨ (b < a ∧ c < b ∧ pc y = 3)) := fun i j k hi hj hk e q => ⟨i, j, k, hi, by rw [(tr_3 i hi j hj k hk).1]; exact e, Or.inr (Or.inr ⟨hj, hk, q⟩)⟩
  have hs : (c8 (y / 256) = 0 ∧ c8 (y % 256) = 0) ∨ (c8 (y / 256) = 0 ∧ c8 (y % 256) = 1) ∨ (c8 (y / 256) = 0 ∧ c8 (y % 256) = 2) ∨ (c8 (y / 256) = 0 ∧ c8 (y % 256) = 3) ∨ (c8 (y / 256) = 1 ∧ c8 (y % 256) = 0) ∨ (c8 (y / 256) = 1 ∧ c8 (y % 256) = 1) ∨ (c8 (y / 256) = 1 ∧ c8 (y % 256) = 2) ∨ (c8 (y / 256) = 2 ∧ c8 (y % 256) = 0) ∨ (c8 (y / 256) = 2 ∧ c8 (y % 256) = 1) ∨ (c8 (y / 256) = 3 ∧ c8 (y % 256) = 0) := by omega
  rcases hs with ⟨q1, q2⟩ | ⟨q1, q2⟩ | ⟨q1, q2⟩ | ⟨q1, q2⟩ | ⟨q1, q2⟩ | ⟨q1, q2⟩ | ⟨q1, q2⟩ | ⟨q1, q2⟩ | ⟨q1, q2⟩ | ⟨q1, q2⟩
  · have e1 := by_0 _ ha q1
    have e2 := by_0 _ hb q2
    omega
  · have e1 := by_0 _ ha q1
    obtain ⟨i, hi, e2⟩ := by_1 _ hb q2
    exact one i (by omega) (by omega) (by omega)
  · have e1 := by_0 _ ha q1
    obtain ⟨i, hi, j, hj, e2⟩ := by_2 _ hb q2
    exact two i j (by omega) hj (by omega) (by omega)
  · have e1 := by_0 _ ha q1
    obtain ⟨i, hi, j, hj, k, hk, e2⟩ := by_3 _ hb q2
    exact three i j k (by omega) hj hk (by omega) (by omega)
  · obtain ⟨i, hi, e1⟩ := by_1 _ ha q1
    have e2 := by_0 _ hb q2
    have z := pw_8 i
    exact one (8 + i) (by omega) (by omega) (by omega)
  · obtain ⟨i, hi, e1⟩ := by_1 _ ha q1
    obtain ⟨j, hj, e2⟩ := by_1 _ hb q2
    have z := pw_8 i
    exact two (8 + i) j (by omega) (by omega) (by omega) (by omega)
  · obtain ⟨i, hi, e1⟩ := by_1 _ ha q1
    obtain ⟨j, hj, k, hk, e2⟩ := by_2 _ hb q2
    have z := pw_8 i
    exact three (8 + i) j k (by omega) (by omega) hk (by omega) (by omega)
  · obtain ⟨i, hi, j, hj, e1⟩ := by_2 _ ha q1
    have e2 := by_0 _ hb q2
    have z := pw_8 i
    have z2 := pw_8 j
    exact two (8 + i) (8 + j) (by omega) (by omega) (by omega) (by omega)
  · obtain ⟨i, hi, j, hj, e1⟩ := by_2 _ ha q1
    obtain ⟨k, hk, e2⟩ := by_1 _ hb q2
    have z := pw_8 i
    have z2 := pw_8 j
    exact three (8 + i) (8 + j) k (by omega) (by omega) (by omega) (by omega) (by omega)
  · obtain ⟨i, hi, j, hj, k, hk, e1⟩ := by_3 _ ha q1
    have e2 := by_0 _ hb q2
    have z := pw_8 i
    have z2 := pw_8 j
    have z3 := pw_8 k
    exact three (8 + i) (8 + j) (8 + k) (by omega) (by omega) (by omega) (by omega) (by omega)
/-- triples in the order of the loops -/
def lexlt (a b c h m l : Nat) : Prop := a < h ∨ (a = h ∧ (b < m ∨ (b = m ∧ c < l)))
/-- a smaller number with as many bits comes in an earlier triple -/
theorem lex_of {y h m l : Nat} (hh : h < 16) (hm : m ≤ h) (hl : l ≤ m) (hy : y ≠ 0) (hlt : y < tr3 h m l) (hpc : pc y = pc (tr3 h m l)) (h3 : pc y ≤ 3) : ∃ a b c, b ≤ a ∧ c ≤ b ∧ a < 16 ∧ y = tr3 a b c ∧ lexlt a b c h m l := by
  have hb := (tr_lt h hh m (by omega) l (by omega)).2
  obtain ⟨a, b, c, ha, hy2, hc⟩ := dec_ok (by omega) hy h3
  have p1 := fun k => pw_1 k
  -- the form of the greater one
  have hx : (m = h ∧ l = h ∧ tr3 h m l = 2 ^ h ∧ pc (tr3 h m l) = 1) ∨ (∃ k, k < h ∧ (m = k ∨ m = h) ∧ l = k ∧ tr3 h m l = 2 ^ h + 2 ^ k ∧ pc (tr3 h m l) = 2) ∨ (m < h ∧ l < m ∧ tr3 h m l = 2 ^ h + 2 ^ m + 2 ^ l ∧ pc (tr3 h m l) = 3) := by
    by_cases e1 : m = h
    · subst e1
      by_cases e2 : l = m
      · subst e2
        exact Or.inl ⟨rfl, rfl, (tr_1 l hh).1, (tr_1 l hh).2⟩
      · have q := tr_2 m hh l (by omega)
        exact Or.inr (Or.inl ⟨l, by omega, Or.inr rfl, rfl, q.2.1, by rw [q.2.1]; exact q.2.2⟩)
    · by_cases e2 : l = m
      · subst e2
        have q := tr_2 h hh l (by omega)
        exact Or.inr (Or.inl ⟨l, by omega, Or.inl rfl, rfl, q.1, by rw [q.1]; exact q.2.2⟩)
      · have q := tr_3 h hh m (by omega) l (by omega)
        exact Or.inr (Or.inr ⟨by omega, by omega, q.1, by rw [q.1]; exact q.2⟩)
  rcases hc with ⟨rfl, rfl, c1⟩ | ⟨c1, rfl, c2⟩ | ⟨c1, c2, c3⟩
  · -- one bit
    have e := (tr_1 c ha).1
    refine ⟨c, c, c, Nat.le_refl _, Nat.le_refl _, ha, hy2, Or.inl ?_⟩
    rcases hx with ⟨-, -, x1, -⟩ | ⟨k, -, -, -, -, x2⟩ | ⟨-, -, -, x2⟩
    · rw [hy2, e, x1] at hlt
      rcases Nat.lt_trichotomy c h with q | q | q
      · exact q
      · subst q; omega
      · have := pw_lt h hh c ha q
        have := p1 h
        omega
    · omega
    · omega
  · -- two bits
    have e := (tr_2 a ha c c1).1
    refine ⟨a, c, c, by omega, Nat.le_refl _, ha, hy2, ?_⟩
    rcases hx with ⟨-, -, -, x2⟩ | ⟨k, k1, k2, k3, x1, -⟩ | ⟨-, -, -, x2⟩
    · omega
    · rw [hy2, e, x1] at hlt
      rcases Nat.lt_trichotomy a h with q | q | q
      · exact Or.inl q
      · subst q
        refine Or.inr ⟨rfl, Or.inl ?_⟩
        rcases Nat.lt_trichotomy c k with z | z | z
        · omega
        · subst z; omega
        · have := pw_lt k (by omega) c (by omega) z
          have := p1 k
          omega
      · have z1 := pw_lt h hh a ha q
        have z2 := pw_lt k (by omega) h hh k1
        have := p1 k
        have := p1 c
        omega
    · omega
  · -- three bits
    have e := (tr_3 a ha b c1 c c2).1
    refine ⟨a, b, c, by omega, by omega, ha, hy2, ?_⟩
    rcases hx with ⟨-, -, -, x2⟩ | ⟨k, -, -, -, -, x2⟩ | ⟨m1, l1, x1, -⟩
    · omega
    · omega
    · rw [hy2, e, x1] at hlt
      have y1 := pw_lt b (by omega) a ha c1
      have y2 := pw_lt c (by omega) b (by omega) c2
      have y3 := pw_lt m (by omega) h hh m1
      have y4 := pw_lt l (by omega) m (by omega) l1
      have := p1 c
      have := p1 l
      rcases Nat.lt_trichotomy a h with q | q | q
      · exact Or.inl q
      · subst q
        refine Or.inr ⟨rfl, ?_⟩
        rcases Nat.lt_trichotomy b m with z | z | z
        · exact Or.inl z
        · subst z
          refine Or.inr ⟨rfl, ?_⟩
          rcases Nat.lt_trichotomy c l with u | u | u
          · exact u
          · subst u; omega
          · have := pw_lt l (by omega) c (by omega) u
            omega
        · have := pw_lt m (by omega) b (by omega) z
          omega
      · have := pw_lt h hh a ha q
        omega
section Three
variable {N : Nat} {M : Mm}
/-- the three loops find the first triple -/
theorem least_l {W : Int32} {n : Nat} (hN : 100000 ≤ N) {T : Nat → Nat → Nat → Bool} (hT : ∀ h m l, h < 16 → m ≤ h → l ≤ m → ∀ (G rec : _), B_X0_leastOf_20 N (nI n) W (nI h) (nI m) G rec (nI l) M = if T h m l then some (nI (tr3 h m l), M) else rec (nI (l + 1)) M) : (f_X0_leastOf N (nI n) W M = some (0, M) ∧ ∀ h m l, h < 16 → m ≤ h → l ≤ m → T h m l = false) ∨ ∃ h m l, h < 16 ∧ m ≤ h ∧ l ≤ m ∧ f_X0_leastOf N (nI n) W M = some (nI (tr3 h m l), M) ∧ T h m l = true ∧ ∀ a b c, a < 16 → b ≤ a → c ≤ b → lexlt a b c h m l → T a b c = false := by
  have i1 : ∀ h m, h < 16 → m ≤ h → ∀ G : Unit → Mm → Rs, itr (B_X0_leastOf_20 N (nI n) W (nI h) (nI m) G) N 0 M = match fgo (fun l => !T h m l) 0 (m + 1) with | none => G () M | some l => some (nI (tr3 h m l), M) := by
    intro h m hh hm G
    have key := itr_first (B := B_X0_leastOf_20 N (nI n) W (nI h) (nI m) G) (M := M) (g := fun l => !T h m l) (R0 := fun l => some (nI (tr3 h m l), M)) (R1 := G () M) (e := m + 1)
      (fun rec l hl => by
        rw [hT h m l hh hm (by omega)]
        cases T h m l <;> rfl)
      (fun rec => by
        unfold B_X0_leastOf_20
        rw [if_pos (by rw [nlt (by omega) (by omega)]; omega)]) (m + 1) 0 N (by omega) (by omega)
    rw [nI_0] at key
    exact key
  have i2 : ∀ h, h < 16 → ∀ G : Unit → Mm → Rs, itr (B_X0_leastOf_11 N (nI n) W (nI h) G) N 0 M = match fgo (fun m => (fgo (fun l => !T h m l) 0 (m + 1)).isNone) 0 (h + 1) with | none => G () M | some m => (match fgo (fun l => !T h m l) 0 (m + 1) with | none => none | some l => some (nI (tr3 h m l), M)) := by
    intro h hh G
    have key := itr_first (B := B_X0_leastOf_11 N (nI n) W (nI h) G) (M := M) (g := fun m => (fgo (fun l => !T h m l) 0 (m + 1)).isNone) (R0 := fun m => match fgo (fun l => !T h m l) 0 (m + 1) with | none => none | some l => some (nI (tr3 h m l), M)) (R1 := G () M) (e := h + 1)
      (fun rec m hm => by
        unfold B_X0_leastOf_11
        rw [if_neg (by rw [nlt (by omega) (by omega)]; omega), nI_1, i1 h m hh (by omega)]
        cases fgo (fun l => !T h m l) 0 (m + 1) <;> rfl)
      (fun rec => by
        unfold B_X0_leastOf_11
        rw [if_pos (by rw [nlt (by omega) (by omega)]; omega)]) (h + 1) 0 N (by omega) (by omega)
    rw [nI_0] at key
    exact key
  have i3 : f_X0_leastOf N (nI n) W M = match fgo (fun h => (fgo (fun m => (fgo (fun l => !T h m l) 0 (m + 1)).isNone) 0 (h + 1)).isNone) 0 16 with | none => some (0, M) | some h => (match fgo (fun m => (fgo (fun l => !T h m l) 0 (m + 1)).isNone) 0 (h + 1) with | none => none | some m => (match fgo (fun l => !T h m l) 0 (m + 1) with | none => none | some l => some (nI (tr3 h m l), M))) := by
    have key := itr_first (B := B_X0_leastOf_2 N (nI n) W fun _ M11 => some (0, M11)) (M := M) (g := fun h => (fgo (fun m => (fgo (fun l => !T h m l) 0 (m + 1)).isNone) 0 (h + 1)).isNone) (R0 := fun h => match fgo (fun m => (fgo (fun l => !T h m l) 0 (m + 1)).isNone) 0 (h + 1) with | none => none | some m => (match fgo (fun l => !T h m l) 0 (m + 1) with | none => none | some l => some (nI (tr3 h m l), M))) (R1 := some (0, M)) (e := 16)
      (fun rec h hh => by
        unfold B_X0_leastOf_2
        rw [if_pos (by rw [lt16 (by omega)]; exact hh), nI_1, i2 h hh]
        cases fgo (fun m => (fgo (fun l => !T h m l) 0 (m + 1)).isNone) 0 (h + 1) <;> rfl)
      (fun rec => by
        unfold B_X0_leastOf_2
        rw [if_neg (show ¬ nI 16 < 16 by decide)]) 16 0 N (by omega) (by omega)
    rw [nI_0] at key
    exact key
  -- what none found says
  have n1 : ∀ h m, fgo (fun l => !T h m l) 0 (m + 1) = none → ∀ l, l ≤ m → T h m l = false := fun h m q l hl => by
    have := fgo_none _ _ q l (by omega) (by omega)
    simpa using this
  have n2 : ∀ h, fgo (fun m => (fgo (fun l => !T h m l) 0 (m + 1)).isNone) 0 (h + 1) = none → ∀ m l, m ≤ h → l ≤ m → T h m l = false := fun h q m l hm hl => by
    have := fgo_none _ _ q m (by omega) (by omega)
    exact n1 h m (by simpa using this) l hl
  have before : ∀ (g : Nat → Bool) (d i k : Nat), fgo g i d = some k → ∀ j, i ≤ j → j < k → g j = true := by
    intro g d
    induction d with
    | zero => intro i k h; cases h
    | succ d ih =>
      intro i k h j h1 h2
      unfold fgo at h
      cases hg : g i
      · rw [hg] at h; cases h; omega
      · rw [hg] at h
        by_cases e : j = i
        · rw [e]; exact hg
        · exact ih (i + 1) k h j (by omega) h2
  cases eh : fgo (fun h => (fgo (fun m => (fgo (fun l => !T h m l) 0 (m + 1)).isNone) 0 (h + 1)).isNone) 0 16 with
  | none =>
    rw [eh] at i3
    refine Or.inl ⟨i3, fun h m l hh hm hl => ?_⟩
    have := fgo_none _ _ eh h (by omega) (by omega)
    exact n2 h (by simpa using this) m l hm hl
  | some h =>
    have sh := fgo_some _ _ _ eh
    rw [eh] at i3
    dsimp only at i3
    cases em : fgo (fun m => (fgo (fun l => !T h m l) 0 (m + 1)).isNone) 0 (h + 1) with
    | none => rw [em] at sh; simp at sh
    | some m =>
      have sm' := fgo_some _ _ _ em
      rw [em] at i3
      dsimp only at i3
      cases el : fgo (fun l => !T h m l) 0 (m + 1) with
      | none => rw [el] at sm'; simp at sm'
      | some l =>
        have sl' := fgo_some _ _ _ el
        rw [el] at i3
        refine Or.inr ⟨h, m, l, by omega, by omega, by omega, i3, by simpa using sl'.2.2, fun a b c ha hb hc hlex => ?_⟩
        rcases hlex with q | ⟨rfl, q | ⟨rfl, q⟩⟩
        · have := before _ _ _ _ eh a (by omega) q
          exact n2 a (by simpa using this) b c hb hc
        · have := before _ _ _ _ em b (by omega) q
          exact n1 a b (by simpa using this) c hc
        · have := before _ _ _ _ el c (by omega) q
          simpa using this
end Three
