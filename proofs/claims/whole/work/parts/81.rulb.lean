/-! where a rule's reading may end; parts in a row -/
section Rulb
variable {tx : Nat → Int32} {n : Nat} {sn : Int32 → Bool}
theorem num_b : ∀ (f i : Nat) (a : Int32), i ≤ n → i ≤ (numS tx n f i a).1 ∧ (numS tx n f i a).1 ≤ n := by
  intro f
  induction f with
  | zero => intro i a hi; exact ⟨Nat.le_refl _, hi⟩
  | succ f ih =>
    intro i a hi
    unfold numS
    by_cases hd : isDg (pk tx n i) = true
    · rw [if_pos hd]
      have := ih (i + 1) (a * 10 + (pk tx n i - 48)) (dg_le hd)
      omega
    · rw [if_neg hd]; exact ⟨Nat.le_refl _, hi⟩
theorem num_1 {f i : Nat} {a : Int32} (hd : isDg (pk tx n i) = true) : i + 1 ≤ (numS tx n (f + 1) i a).1 := by
  unfold numS
  rw [if_pos hd]
  exact (num_b f (i + 1) _ (dg_le hd)).1
theorem num_v : ∀ (f i k : Nat), ∃ z, (numS tx n f i (nI k)).2 = nI z ∧ z < (k + 1) * 10 ^ f := by
  intro f
  induction f with
  | zero => intro i k; exact ⟨k, rfl, by omega⟩
  | succ f ih =>
    intro i k
    unfold numS
    by_cases hd : isDg (pk tx n i) = true
    · rw [if_pos hd]
      obtain ⟨d, d1, -, d3⟩ := dg_of hd
      have e : nI k * 10 + (pk tx n i - 48) = nI (k * 10 + d) := by
        rw [d3]
        show nI k * nI 10 + nI d = _
        rw [pk_mul, nI_add]
      rw [e]
      obtain ⟨z, z1, z2⟩ := ih (i + 1) (k * 10 + d)
      refine ⟨z, z1, Nat.lt_of_lt_of_le z2 ?_⟩
      rw [Nat.pow_succ, Nat.mul_comm (10 ^ f) 10, ← Nat.mul_assoc]
      exact Nat.mul_le_mul_right _ (by omega)
    · rw [if_neg hd]
      exact ⟨k, rfl, Nat.lt_of_lt_of_le (Nat.lt_succ_self k) (Nat.le_mul_of_pos_right _ (by exact Nat.pow_pos (by omega)))⟩
theorem num_3 (i : Nat) : ∃ z, (numS tx n 3 i 0).2 = nI z ∧ z < 1000 := by
  obtain ⟨z, z1, z2⟩ := num_v (tx := tx) (n := n) 3 i 0
  exact ⟨z, z1, by omega⟩
theorem sn_le (hsn : SnOk sn) {i : Nat} (h : sn (pk tx n i - 48) = true) : i + 1 ≤ n ∧ isDg (pk tx n i) = true := by
  obtain ⟨k, k1, k2⟩ := hsn _ h
  have e : pk tx n i = nI (48 + k) := by
    have : pk tx n i = (pk tx n i - 48) + 48 := (Int32.sub_add_cancel _ _).symm
    rw [this, k2]
    show nI k + nI 48 = _
    rw [nI_add]
    congr 1
    omega
  refine ⟨(pkI e (nI_m1 (by omega))).1, ?_⟩
  rw [dg_ne, e]
  constructor
  · rw [ltc (c := 48) (n := 48) rfl (by omega) (by omega)]; omega
  · rw [gtc (c := 57) (n := 57) rfl (by omega) (by omega)]; omega
theorem rw_b (hsn : SnOk sn) : ∀ (f md dep i : Nat) (a : Vl), i ≤ n → (∀ q, rwS tx n sn f md dep i a = .inl q → q ≤ n) ∧ ∀ j v, rwS tx n sn f md dep i a = .inr (j, v) → i ≤ j ∧ j ≤ n ∧ (md ≤ 2 → i < j) ∧ (1 ≤ md → md ≤ 3 → pk tx n j ≠ 42) ∧ (md = 2 ∨ 4 ≤ md → pk tx n j ≠ 43 ∧ pk tx n j ≠ 45) ∧ (4 ≤ md → pk tx n i ≠ 42 → pk tx n j ≠ 42) := by
  intro f
  induction f with
  | zero =>
    intro md dep i a hi
    exact ⟨fun q h => (by cases h; exact hi), fun j v h => by cases h⟩
  | succ f ih =>
    intro md dep i a hi
    unfold rwS
    by_cases m0 : md = 0
    · rw [if_pos m0]
      have fin : ∀ j : Nat, i < j → j ≤ n → i ≤ j ∧ j ≤ n ∧ (md ≤ 2 → i < j) ∧ (1 ≤ md → md ≤ 3 → pk tx n j ≠ 42) ∧ (md = 2 ∨ 4 ≤ md → pk tx n j ≠ 43 ∧ pk tx n j ≠ 45) ∧ (4 ≤ md → pk tx n i ≠ 42 → pk tx n j ≠ 42) := fun j h1 h2 => ⟨by omega, h2, fun _ => h1, fun h => by omega, fun h => by omega, fun h => by omega⟩
      by_cases hd : isDg (pk tx n i) = true
      · rw [if_pos hd]
        have a1 := num_b (tx := tx) (n := n) 3 i 0 hi
        have a2 : i + 1 ≤ (numS tx n 3 i 0).1 := num_1 (f := 2) hd
        exact ⟨fun q h => (by cases h), fun j v h => (by cases h; exact fin _ (by omega) (by omega))⟩
      · rw [if_neg hd]
        by_cases c120 : pk tx n i = 120
        · rw [if_pos c120]
          have := pkin c120 (by decide)
          split
          · rename_i h2
            have := dg_le h2
            exact ⟨fun q h => (by cases h), fun j v h => (by cases h; exact fin _ (by omega) (by omega))⟩
          · exact ⟨fun q h => (by cases h; omega), fun j v h => by cases h⟩
        · rw [if_neg c120]
          by_cases c115 : pk tx n i = 115
          · rw [if_pos c115]
            have := pkin c115 (by decide)
            split
            · rename_i h2
              have := (sn_le hsn h2).1
              exact ⟨fun q h => (by cases h), fun j v h => (by cases h; exact fin _ (by omega) (by omega))⟩
            · exact ⟨fun q h => (by cases h; omega), fun j v h => by cases h⟩
          · rw [if_neg c115]
            by_cases c40 : pk tx n i = 40
            · rw [if_pos c40]
              have := pkin c40 (by decide)
              split
              · have b := ih 2 (dep + 1) (i + 1) a (by omega)
                split
                · rename_i q he
                  exact ⟨fun q' h => (by cases h; exact b.1 q he), fun j v h => by cases h⟩
                · rename_i j v he
                  have b := b.2 j v he
                  split
                  · rename_i h41
                    have := pkin h41 (by decide)
                    exact ⟨fun q h => (by cases h), fun j' v' h => (by cases h; exact fin _ (by omega) (by omega))⟩
                  · exact ⟨fun q h => (by cases h; omega), fun j v h => by cases h⟩
              · exact ⟨fun q h => (by cases h; omega), fun j v h => by cases h⟩
            · rw [if_neg c40]
              exact ⟨fun q h => (by cases h; omega), fun j v h => by cases h⟩
    · rw [if_neg m0]
      by_cases m1 : md = 1
      · rw [if_pos m1]
        have b := ih 0 dep i a hi
        split
        · rename_i q he
          exact ⟨fun q' h => (by cases h; exact b.1 q he), fun j v h => by cases h⟩
        · rename_i j v he
          have b := b.2 j v he
          have c := ih 3 dep j v b.2.1
          refine ⟨c.1, fun j' v' h => ?_⟩
          have c := c.2 j' v' h
          exact ⟨by omega, c.2.1, fun _ => (by have := b.2.2.1 (by omega); omega), fun _ _ => c.2.2.2.1 (by omega) (by omega), fun h => by omega, fun h => by omega⟩
      · rw [if_neg m1]
        by_cases m2 : md = 2
        · rw [if_pos m2]
          have b := ih 1 dep i a hi
          split
          · rename_i q he
            exact ⟨fun q' h => (by cases h; exact b.1 q he), fun j v h => by cases h⟩
          · rename_i j v he
            have b := b.2 j v he
            have c := ih 4 dep j v b.2.1
            refine ⟨c.1, fun j' v' h => ?_⟩
            have c := c.2 j' v' h
            exact ⟨by omega, c.2.1, fun _ => (by have := b.2.2.1 (by omega); omega), fun _ _ => c.2.2.2.2.2 (by omega) (b.2.2.2.1 (by omega) (by omega)), fun _ => c.2.2.2.2.1 (by omega), fun h => by omega⟩
        · rw [if_neg m2]
          by_cases m3 : md = 3
          · rw [if_pos m3]
            by_cases c42 : pk tx n i = 42
            · rw [if_pos c42]
              have hin := pkin c42 (by decide)
              have b := ih 0 dep (i + 1) a hin
              split
              · rename_i q he
                exact ⟨fun q' h => (by cases h; exact b.1 q he), fun j v h => by cases h⟩
              · rename_i j v he
                have b := b.2 j v he
                have c := ih 3 dep j (fun p w => a p w * v p w) b.2.1
                refine ⟨c.1, fun j' v' h => ?_⟩
                have c := c.2 j' v' h
                exact ⟨by omega, c.2.1, fun _ => by omega, fun _ _ => c.2.2.2.1 (by omega) (by omega), fun h => by omega, fun h => by omega⟩
            · rw [if_neg c42]
              exact ⟨fun q h => (by cases h), fun j v h => (by cases h; exact ⟨by omega, by omega, fun _ => by omega, fun _ _ => c42, fun h => by omega, fun h => by omega⟩)⟩
          · rw [if_neg m3]
            by_cases c43 : pk tx n i = 43
            · rw [if_pos c43]
              have hin := pkin c43 (by decide)
              have b := ih 1 dep (i + 1) a hin
              split
              · rename_i q he
                exact ⟨fun q' h => (by cases h; exact b.1 q he), fun j v h => by cases h⟩
              · rename_i j v he
                have b := b.2 j v he
                have c := ih 4 dep j (fun p w => a p w + v p w) b.2.1
                refine ⟨c.1, fun j' v' h => ?_⟩
                have c := c.2 j' v' h
                exact ⟨by omega, c.2.1, fun _ => by omega, fun _ _ => by omega, fun _ => c.2.2.2.2.1 (by omega), fun _ _ => c.2.2.2.2.2 (by omega) (b.2.2.2.1 (by omega) (by omega))⟩
            · rw [if_neg c43]
              by_cases c45 : pk tx n i = 45
              · rw [if_pos c45]
                have hin := pkin c45 (by decide)
                have b := ih 1 dep (i + 1) a hin
                split
                · rename_i q he
                  exact ⟨fun q' h => (by cases h; exact b.1 q he), fun j v h => by cases h⟩
                · rename_i j v he
                  have b := b.2 j v he
                  have c := ih 4 dep j (fun p w => a p w - v p w) b.2.1
                  refine ⟨c.1, fun j' v' h => ?_⟩
                  have c := c.2 j' v' h
                  exact ⟨by omega, c.2.1, fun _ => by omega, fun _ _ => by omega, fun _ => c.2.2.2.2.1 (by omega), fun _ _ => c.2.2.2.2.2 (by omega) (b.2.2.2.1 (by omega) (by omega))⟩
              · rw [if_neg c45]
                exact ⟨fun q h => (by cases h), fun j v h => (by cases h; exact ⟨by omega, by omega, fun _ => by omega, fun _ _ => by omega, fun _ => ⟨c43, c45⟩, fun _ h => h⟩)⟩
theorem rp_add {pt : Nat → Int32} {p w : Int32} {a : Nat} {st : List Int32} : ∀ (k1 k2 : Nat) {t : List Int32}, rpR pt p w a k1 st = some t → rpR pt p w a (k1 + k2) st = rpR pt p w (a + k1) k2 t := by
  intro k1 k2
  induction k2 with
  | zero => intro t h; exact h
  | succ k2 ih =>
    intro t h
    show (match rpR pt p w a (k1 + k2) st with
      | none => none
      | some t => stp p w (pt (a + (k1 + k2))) t) = match rpR pt p w (a + k1) k2 t with
      | none => none
      | some t => stp p w (pt (a + k1 + k2)) t
    rw [ih h, Nat.add_assoc]
theorem rp_congr {pt pt' : Nat → Int32} {p w : Int32} {a : Nat} {st : List Int32} : ∀ k : Nat, (∀ i, i < a + k → pt i = pt' i) → rpR pt p w a k st = rpR pt' p w a k st := by
  intro k
  induction k with
  | zero => intro _; rfl
  | succ k ih =>
    intro h
    show (match rpR pt p w a k st with
      | none => none
      | some t => stp p w (pt (a + k)) t) = match rpR pt' p w a k st with
      | none => none
      | some t => stp p w (pt' (a + k)) t
    rw [ih (fun i hi => h i (by omega)), h (a + k) (by omega)]
theorem rp_1 {pt : Nat → Int32} {p w : Int32} {a : Nat} {st : List Int32} : rpR pt p w a 1 st = stp p w (pt a) st := rfl
end Rulb
