/-! LATER by shortest ways: prices that bear a flow, and that each turn keeps some -/
section Ssp
variable {ng m : Nat} {la : Int} {F : Nat → Nat → Int} {d c : Nat → Int} {S : Nat → Int} {X : Nat → Nat → Int} {H Zl : Nat → Int} {p u P : Nat → Int}
/-- prices p of givers and u of takers bear the flow -/
def Fea (ng m : Nat) (la : Int) (F : Nat → Nat → Int) (d c : Nat → Int) (S : Nat → Int) (X : Nat → Nat → Int) (H Zl : Nat → Int) (p u : Nat → Int) : Prop :=
  (∀ g, g < ng → 0 ≤ p g ∧ (0 < S g → p g = 0)) ∧ (∀ k, k < m → u k ≤ la ∧ (0 < Zl k → la ≤ u k) ∧ (0 < H k → u k ≤ d k) ∧ (H k < c k → d k ≤ u k)) ∧ ∀ g k, g < ng → k < m → u k ≤ p g + F g k ∧ (0 < X g k → p g + F g k ≤ u k)
/-- P k is what k's own way costs now -/
def IsP (ng m : Nat) (la : Int) (F : Nat → Nat → Int) (d : Nat → Int) (S : Nat → Int) (H : Nat → Int) (P : Nat → Int) : Prop :=
  ∀ k, k < m → P k ≤ la ∧ (0 < H k → P k ≤ d k) ∧ (∀ g, g < ng → 0 < S g → P k ≤ F g k) ∧ (P k = la ∨ (0 < H k ∧ P k = d k) ∨ ∃ g, g < ng ∧ 0 < S g ∧ P k = F g k)
theorem u_le_P (hf : Fea ng m la F d c S X H Zl p u) (hP : IsP ng m la F d S H P) {k : Nat} (hk : k < m) : u k ≤ P k := by
  obtain ⟨f1, f2, f3⟩ := hf
  obtain ⟨a1, a2, a3, a4⟩ := hP k hk
  obtain ⟨b1, b2, b3, b4⟩ := f2 k hk
  rcases a4 with h | ⟨h1, h2⟩ | ⟨g, h1, h2, h3⟩
  · omega
  · have := b3 h1; omega
  · have := (f1 g h1).2 h2
    have := (f3 g k h1 hk).1
    omega
theorem ex_max (q : Nat → Prop) (a : Nat → Int) (b : Int) : ∀ n : Nat, ∃ v, b ≤ v ∧ (∀ g, g < n → q g → a g ≤ v) ∧ (v = b ∨ ∃ g, g < n ∧ q g ∧ v = a g) := by
  intro n
  induction n with
  | zero => exact ⟨b, Int.le_refl _, fun g h => absurd h (by omega), Or.inl rfl⟩
  | succ n ih =>
    obtain ⟨v, h1, h2, h3⟩ := ih
    by_cases hq : q n ∧ v < a n
    · refine ⟨a n, by omega, fun g hg hqg => ?_, Or.inr ⟨n, by omega, hq.1, rfl⟩⟩
      by_cases e : g = n
      · subst e; omega
      · have := h2 g (by omega) hqg; omega
    · refine ⟨v, h1, fun g hg hqg => ?_, ?_⟩
      · by_cases e : g = n
        · subst e
          have : ¬ v < a g := fun z => hq ⟨hqg, z⟩
          omega
        · exact h2 g (by omega) hqg
      · rcases h3 with h | ⟨g, a1, a2, a3⟩
        · exact Or.inl h
        · exact Or.inr ⟨g, by omega, a2, a3⟩
/-- prices that rise until the next way of taker t is just worth its cost -/
theorem raise {t : Nat} {ls : Int} (hf : Fea ng (t + 1) la F d c S X H Zl p u) (hP : IsP ng (t + 1) la F d S H P) (hsz : t ≤ 1 ∨ ng ≤ 1) (hX : ∀ g k, g < ng → k < t + 1 → 0 ≤ X g k) (hE : ∀ g, g < ng → ¬ 0 < S g → ∃ k, k < t + 1 ∧ 0 < X g k)
    (l1 : ls ≤ P t) (l2 : ∀ g k, g < ng → k < t → 0 < X g k → ls ≤ P k - F g k + F g t) (l3 : ls = P t ∨ ∃ g k, g < ng ∧ k < t ∧ 0 < X g k ∧ ls = P k - F g k + F g t) :
    ∃ p' u', Fea ng (t + 1) la F d c S X H Zl p' u' ∧ u' t = ls ∧ ∀ k, k < t + 1 → u k ≤ u' k := by
  have huP : ∀ k, k < t + 1 → u k ≤ P k := fun k hk => u_le_P hf hP hk
  obtain ⟨f1, f2, f3⟩ := hf
  have hut : u t ≤ ls := by
    rcases l3 with h | ⟨g, k, h1, h2, h3, h4⟩
    · have := huP t (by omega); omega
    · have a := (f3 g k h1 (by omega)).2 h3
      have b := (f3 g t h1 (by omega)).1
      have := huP k (by omega)
      omega
  have hPS : ∀ g k, g < ng → k < t + 1 → 0 < S g → P k ≤ F g k := fun g k hg hk hs => (hP k hk).2.2.1 g hg hs
  rcases hsz with ht | hng
  · by_cases ht0 : t = 0
    · subst ht0
      refine ⟨fun g => if 0 < S g then 0 else ls - F g 0, fun _ => ls, ⟨fun g hg => ?_, fun k hk => ?_, fun g k hg hk => ?_⟩, rfl, fun k hk => ?_⟩
      all_goals try dsimp only
      · skip
        split
        · exact ⟨Int.le_refl _, fun _ => rfl⟩
        · rename_i hs
          obtain ⟨k, hk, hx⟩ := hE g hg hs
          have hk0 : k = 0 := by omega
          subst hk0
          have a := (f3 g 0 hg (by omega)).2 hx
          have b := (f1 g hg).1
          exact ⟨by omega, fun z => absurd z hs⟩
      · have hk0 : k = 0 := by omega
        subst hk0
        obtain ⟨b1, b2, b3, b4⟩ := f2 0 (by omega)
        obtain ⟨a1, a2, a3, a4⟩ := hP 0 (by omega)
        exact ⟨by omega, fun z => by have := b2 z; omega, fun z => by have := a2 z; omega, fun z => by have := b4 z; omega⟩
      · have hk0 : k = 0 := by omega
        subst hk0
        skip
        split
        · rename_i hs
          have a := hPS g 0 hg (by omega) hs
          have e := (f1 g hg).2 hs
          exact ⟨by omega, fun z => by have := (f3 g 0 hg (by omega)).2 z; omega⟩
        · exact ⟨by omega, fun _ => by omega⟩
      · have hk0 : k = 0 := by omega
        subst hk0
        exact hut
    · have ht1 : t = 1 := by omega
      subst ht1
      obtain ⟨v, v1, v2, v3⟩ := ex_max (fun g => ¬ 0 < S g ∧ 0 < X g 0) (fun g => ls - F g 1 + F g 0) (u 0) ng
      -- exchange: g sends to 0, g' to 1
      have sw : ∀ g g', g < ng → g' < ng → 0 < X g 0 → 0 < X g' 1 → F g 0 + F g' 1 ≤ F g 1 + F g' 0 := by
        intro g g' hg hg' hx hx'
        have a := (f3 g 0 hg (by omega)).2 hx
        have b := (f3 g' 1 hg' (by omega)).2 hx'
        have e := (f3 g 1 hg (by omega)).1
        have f := (f3 g' 0 hg' (by omega)).1
        omega
      have vP : v ≤ P 0 := by
        rcases v3 with h | ⟨g, h1, h2, h3⟩
        · have := huP 0 (by omega); omega
        · have := l2 g 0 h1 (by omega) h2.2; omega
      refine ⟨fun g => if 0 < S g then 0 else if 0 < X g 0 then v - F g 0 else ls - F g 1, fun k => if k = 1 then ls else v, ⟨fun g hg => ?_, fun k hk => ?_, fun g k hg hk => ?_⟩, rfl, fun k hk => ?_⟩
      all_goals try dsimp only
      · skip
        have b := (f1 g hg).1
        split
        · exact ⟨Int.le_refl _, fun _ => rfl⟩
        · rename_i hs
          split
          · rename_i hx
            have a := (f3 g 0 hg (by omega)).2 hx
            exact ⟨by omega, fun z => absurd z hs⟩
          · rename_i hx
            obtain ⟨k, hk, hxk⟩ := hE g hg hs
            have hk1 : k = 1 := by
              by_cases e : k = 0
              · subst e; exact absurd hxk hx
              · omega
            subst hk1
            have a := (f3 g 1 hg (by omega)).2 hxk
            exact ⟨by omega, fun z => absurd z hs⟩
      · by_cases e : k = 1
        · subst e
          obtain ⟨b1, b2, b3, b4⟩ := f2 1 (by omega)
          obtain ⟨a1, a2, a3, a4⟩ := hP 1 (by omega)
          rw [if_pos rfl]
          exact ⟨by omega, fun z => by have := b2 z; omega, fun z => by have := a2 z; omega, fun z => by have := b4 z; omega⟩
        · have e0 : k = 0 := by omega
          subst e0
          obtain ⟨b1, b2, b3, b4⟩ := f2 0 (by omega)
          obtain ⟨a1, a2, a3, a4⟩ := hP 0 (by omega)
          rw [if_neg e]
          exact ⟨by omega, fun z => by have := b2 z; omega, fun z => by have := a2 z; omega, fun z => by have := b4 z; omega⟩
      · skip
        have hp0 := (f1 g hg).1
        by_cases e : k = 1
        · subst e
          rw [if_pos rfl]
          split
          · rename_i hs
            have a := hPS g 1 hg (by omega) hs
            have e := (f1 g hg).2 hs
            exact ⟨by omega, fun z => by have := (f3 g 1 hg (by omega)).2 z; omega⟩
          · rename_i hs
            split
            · rename_i hx
              have a := v2 g hg ⟨hs, hx⟩
              refine ⟨by omega, fun z => ?_⟩
              rcases v3 with h | ⟨g2, h1, h2, h3⟩
              · have a1 := (f3 g 0 hg (by omega)).2 hx
                have a2 := (f3 g 0 hg (by omega)).1
                have a3 := (f3 g 1 hg (by omega)).2 z
                omega
              · have := sw g2 g h1 hg h2.2 z
                omega
            · exact ⟨by omega, fun _ => by omega⟩
        · have e0 : k = 0 := by omega
          subst e0
          rw [if_neg e]
          split
          · rename_i hs
            have a := hPS g 0 hg (by omega) hs
            have e := (f1 g hg).2 hs
            exact ⟨by omega, fun z => by have := (f3 g 0 hg (by omega)).2 z; omega⟩
          · rename_i hs
            split
            · exact ⟨by omega, fun _ => by omega⟩
            · rename_i hx
              refine ⟨?_, fun z => absurd z hx⟩
              obtain ⟨k, hk, hxk⟩ := hE g hg hs
              have hk1 : k = 1 := by
                by_cases e2 : k = 0
                · subst e2; exact absurd hxk hx
                · omega
              subst hk1
              rcases v3 with h | ⟨g2, h1, h2, h3⟩
              · have a1 := (f3 g 1 hg (by omega)).2 hxk
                have a2 := (f3 g 0 hg (by omega)).1
                omega
              · have := sw g2 g h1 hg h2.2 hxk
                omega
      · by_cases e : k = 1
        · subst e; rw [if_pos rfl]; exact hut
        · have e0 : k = 0 := by omega
          subst e0; rw [if_neg e]; exact v1
  · by_cases hg1 : ng = 0
    · subst hg1
      refine ⟨p, fun k => if k = t then ls else u k, ⟨fun g hg => absurd hg (by omega), fun k hk => ?_, fun g k hg => absurd hg (by omega)⟩, by simp, fun k hk => ?_⟩
      all_goals try dsimp only
      by_cases e : k = t
      · subst e
        obtain ⟨b1, b2, b3, b4⟩ := f2 k (by omega)
        obtain ⟨a1, a2, a3, a4⟩ := hP k (by omega)
        rw [if_pos rfl]
        exact ⟨by omega, fun z => by have := b2 z; omega, fun z => by have := a2 z; omega, fun z => by have := b4 z; omega⟩
      · rw [if_neg e]
        exact f2 k hk
      · by_cases e : k = t
        · subst e; rw [if_pos rfl]; exact hut
        · rw [if_neg e]; exact Int.le_refl _
    · have hg1 : ng = 1 := by omega
      subst hg1
      have g0 : ∀ g : Nat, g < 1 → g = 0 := fun g h => by omega
      by_cases hs : 0 < S 0
      · have hp0 := (f1 0 (by omega)).2 hs
        refine ⟨p, fun k => if k = t then ls else u k, ⟨f1, fun k hk => ?_, fun g k hg hk => ?_⟩, by simp, fun k hk => ?_⟩
        all_goals try dsimp only
        · by_cases e : k = t
          · subst e
            obtain ⟨b1, b2, b3, b4⟩ := f2 k (by omega)
            obtain ⟨a1, a2, a3, a4⟩ := hP k (by omega)
            rw [if_pos rfl]
            exact ⟨by omega, fun z => by have := b2 z; omega, fun z => by have := a2 z; omega, fun z => by have := b4 z; omega⟩
          · rw [if_neg e]
            exact f2 k hk
        · have := g0 g hg
          subst this
          by_cases e : k = t
          · subst e
            rw [if_pos rfl]
            have a := hPS 0 k (by omega) (by omega) hs
            exact ⟨by omega, fun z => by have := (f3 0 k (by omega) (by omega)).2 z; omega⟩
          · rw [if_neg e]
            exact f3 0 k hg hk
        · by_cases e : k = t
          · subst e; rw [if_pos rfl]; exact hut
          · rw [if_neg e]; exact Int.le_refl _
      · obtain ⟨π, q1, q2, q3⟩ : ∃ π, p 0 ≤ π ∧ ls - F 0 t ≤ π ∧ (π = p 0 ∨ π = ls - F 0 t) := by
          by_cases h : p 0 < ls - F 0 t
          · exact ⟨ls - F 0 t, by omega, by omega, Or.inr rfl⟩
          · exact ⟨p 0, by omega, by omega, Or.inl rfl⟩
        have hp0 := (f1 0 (by omega)).1
        refine ⟨fun _ => π, fun k => if k = t then ls else if 0 < X 0 k then π + F 0 k else u k, ⟨fun g hg => ?_, fun k hk => ?_, fun g k hg hk => ?_⟩, by simp, fun k hk => ?_⟩
        all_goals try dsimp only
        · have := g0 g hg
          subst this
          exact ⟨by omega, fun z => absurd z hs⟩
        · obtain ⟨b1, b2, b3, b4⟩ := f2 k hk
          obtain ⟨a1, a2, a3, a4⟩ := hP k hk
          by_cases e : k = t
          · subst e
            rw [if_pos rfl]
            exact ⟨by omega, fun z => by have := b2 z; omega, fun z => by have := a2 z; omega, fun z => by have := b4 z; omega⟩
          · rw [if_neg e]
            split
            · rename_i hx
              have a := (f3 0 k (by omega) hk).2 hx
              have b := (f3 0 k (by omega) hk).1
              have e2 := l2 0 k (by omega) (by omega) hx
              have e3 := huP k hk
              have hle : π + F 0 k ≤ P k := by rcases q3 with h | h <;> omega
              exact ⟨by omega, fun z => by have := b2 z; omega, fun z => by have := a2 z; omega, fun z => by have := b4 z; omega⟩
            · exact ⟨b1, b2, b3, b4⟩
        · have := g0 g hg
          subst this
          by_cases e : k = t
          · subst e
            rw [if_pos rfl]
            refine ⟨by omega, fun z => ?_⟩
            have a := (f3 0 k (by omega) hk).2 z
            rcases q3 with h | h <;> omega
          · rw [if_neg e]
            split
            · exact ⟨by omega, fun _ => by omega⟩
            · rename_i hx
              have := (f3 0 k (by omega) hk).1
              exact ⟨by omega, fun z => absurd z hx⟩
        · by_cases e : k = t
          · subst e; rw [if_pos rfl]; exact hut
          · rw [if_neg e]
            split
            · have := (f3 0 k (by omega) hk).1; omega
            · exact Int.le_refl _
end Ssp
