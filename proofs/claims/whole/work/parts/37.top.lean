/-! the prices that bear a whole flow, as high as they go: they are such as the reference tries -/
section Top
variable {ng nt : Nat} {la : Int} {F : Nat → Nat → Int} {d c : Nat → Int} {S : Nat → Int} {X : Nat → Nat → Int} {H Zl : Nat → Int} {p u P : Nat → Int}
theorem ex_min (q : Nat → Prop) (a : Nat → Int) : ∀ n : Nat, (∃ g, g < n ∧ q g) → ∃ k, k < n ∧ q k ∧ ∀ g, g < n → q g → a k ≤ a g := by
  intro n
  induction n with
  | zero => intro ⟨g, h, _⟩; omega
  | succ n ih =>
    intro ⟨g, hg, hq⟩
    by_cases h : ∃ g, g < n ∧ q g
    · obtain ⟨k, k1, k2, k3⟩ := ih h
      by_cases hn : q n ∧ a n < a k
      · refine ⟨n, by omega, hn.1, fun j hj hqj => ?_⟩
        by_cases e : j = n
        · subst e; omega
        · have := k3 j (by omega) hqj; omega
      · refine ⟨k, by omega, k2, fun j hj hqj => ?_⟩
        by_cases e : j = n
        · subst e
          have : ¬ a j < a k := fun z => hn ⟨hqj, z⟩
          omega
        · exact k3 j (by omega) hqj
    · have e : g = n := by
        by_cases e : g = n
        · exact e
        · exact absurd ⟨g, by omega, hq⟩ h
      subst e
      refine ⟨g, by omega, hq, fun j hj hqj => ?_⟩
      by_cases e : j = g
      · subst e; exact Int.le_refl _
      · exact absurd ⟨j, by omega, hqj⟩ h
/-- one taker -/
theorem top_1 (hf : Fea ng 1 la F d c S X H Zl p u) (hP : IsP ng 1 la F d S H P) (hX : ∀ g k, g < ng → k < 1 → 0 ≤ X g k) (hE : ∀ g, g < ng → ¬ 0 < S g → ∃ k, k < 1 ∧ 0 < X g k) : ∃ p' u', Fea ng 1 la F d c S X H Zl p' u' ∧ ∀ g, g < ng → p' g = cut0 (P 0 - F g 0) := by
  obtain ⟨p', u', h1, h2, -⟩ := raise (t := 0) hf hP (Or.inl (by omega)) hX hE (Int.le_refl _) (fun g k _ hk => absurd hk (by omega)) (Or.inl rfl)
  refine ⟨p', u', h1, fun g hg => ?_⟩
  obtain ⟨f1, f2, f3⟩ := h1
  have a := (f1 g hg).1
  unfold cut0
  by_cases hs : 0 < S g
  · have := (f1 g hg).2 hs
    have := (hP 0 (by omega)).2.2.1 g hg hs
    split <;> omega
  · obtain ⟨k, hk, hx⟩ := hE g hg hs
    have : k = 0 := by omega
    subst this
    have b := (f3 g 0 hg (by omega)).1
    have e := (f3 g 0 hg (by omega)).2 hx
    split <;> omega
/-- one giver that has nothing left, others that have -/
theorem top_g (hf : Fea ng nt la F d c S X H Zl p u) (hP : IsP ng nt la F d S H P) {a : Nat} (ha : a < ng) (hsa : ¬ 0 < S a) (hoth : ∀ g, g < ng → g ≠ a → 0 < S g) (hE : ∃ k, k < nt ∧ 0 < X a k) : ∃ p' u' k, Fea ng nt la F d c S X H Zl p' u' ∧ (∀ g, g < ng → g ≠ a → p' g = 0) ∧ k < nt ∧ p' a = P k - F a k ∧ 0 ≤ p' a := by
  have huP : ∀ k, k < nt → u k ≤ P k := fun k hk => u_le_P hf hP hk
  obtain ⟨k, k1, k2, k3⟩ := ex_min (fun k => 0 < X a k) (fun k => P k - F a k) nt hE
  obtain ⟨f1, f2, f3⟩ := hf
  have hpa : p a ≤ P k - F a k := by
    have := (f3 a k ha k1).2 k2
    have := huP k k1
    omega
  have hp0 := (f1 a ha).1
  refine ⟨fun g => if g = a then P k - F a k else 0, fun j => if 0 < X a j then P k - F a k + F a j else u j, k, ⟨fun g hg => ?_, fun j hj => ?_, fun g j hg hj => ?_⟩, fun g _ hne => by simp [hne], k1, by simp, by simp; omega⟩
  · dsimp only
    by_cases e : g = a
    · subst e
      rw [if_pos rfl]
      exact ⟨by omega, fun z => absurd z hsa⟩
    · rw [if_neg e]
      exact ⟨Int.le_refl _, fun _ => rfl⟩
  · dsimp only
    obtain ⟨b1, b2, b3, b4⟩ := f2 j hj
    obtain ⟨a1, a2, a3, a4⟩ := hP j hj
    split
    · rename_i hx
      have h1 := k3 j hj hx
      have h2 := (f3 a j ha hj).1
      exact ⟨by omega, fun z => by have := b2 z; omega, fun z => by have := a2 z; omega, fun z => by have := b4 z; omega⟩
    · exact ⟨b1, b2, b3, b4⟩
  · dsimp only
    obtain ⟨a1, a2, a3, a4⟩ := hP j hj
    by_cases e : g = a
    · subst e
      rw [if_pos rfl]
      split
      · exact ⟨by omega, fun _ => by omega⟩
      · rename_i hx
        have := (f3 g j hg hj).1
        exact ⟨by omega, fun z => absurd z hx⟩
    · rw [if_neg e]
      have hs := hoth g hg e
      have hpg := (f1 g hg).2 hs
      have h3 := a3 g hg hs
      have h4 := f3 g j hg hj
      split
      · rename_i hx
        have h1 := k3 j hj hx
        have h2 := (f3 a j ha hj).1
        exact ⟨by omega, fun z => by have := h4.2 z; omega⟩
      · exact ⟨by omega, fun z => by have := h4.2 z; omega⟩
def sw1 (k : Nat) : Nat := 1 - k
theorem fea_sw (hf : Fea ng 2 la F d c S X H Zl p u) : Fea ng 2 la (fun g k => F g (sw1 k)) (fun k => d (sw1 k)) (fun k => c (sw1 k)) S (fun g k => X g (sw1 k)) (fun k => H (sw1 k)) (fun k => Zl (sw1 k)) p (fun k => u (sw1 k)) := by
  obtain ⟨f1, f2, f3⟩ := hf
  exact ⟨f1, fun k _ => f2 (sw1 k) (by unfold sw1; omega), fun g k hg _ => f3 g (sw1 k) hg (by unfold sw1; omega)⟩
theorem isP_sw (hP : IsP ng 2 la F d S H P) : IsP ng 2 la (fun g k => F g (sw1 k)) (fun k => d (sw1 k)) S (fun k => H (sw1 k)) (fun k => P (sw1 k)) := fun k _ => hP (sw1 k) (by unfold sw1; omega)
theorem ex_least (a : Nat → Int) (q : Nat → Prop) (b : Int) (n : Nat) : ∃ ls, ls ≤ b ∧ (∀ g, g < n → q g → ls ≤ a g) ∧ (ls = b ∨ ∃ g, g < n ∧ q g ∧ ls = a g) := by
  obtain ⟨v, h1, h2, h3⟩ := ex_max q (fun g => - a g) (-b) n
  refine ⟨-v, by omega, fun g hg hq => by have := h2 g hg hq; omega, ?_⟩
  rcases h3 with h | ⟨g, a1, a2, a3⟩
  · exact Or.inl (by omega)
  · exact Or.inr ⟨g, a1, a2, by omega⟩
/-- two takers: both as high as they go -/
theorem top_2 (hf : Fea ng 2 la F d c S X H Zl p u) (hP : IsP ng 2 la F d S H P) (hX : ∀ g k, g < ng → k < 2 → 0 ≤ X g k) (hE : ∀ g, g < ng → ¬ 0 < S g → ∃ k, k < 2 ∧ 0 < X g k) : ∃ p' u', Fea ng 2 la F d c S X H Zl p' u' ∧ (u' 0 = P 0 ∨ ∃ g, g < ng ∧ 0 < X g 1 ∧ u' 0 = P 1 - F g 1 + F g 0) ∧ (u' 1 = P 1 ∨ ∃ g, g < ng ∧ 0 < X g 0 ∧ u' 1 = P 0 - F g 0 + F g 1) := by
  obtain ⟨l1, a1, a2, a3⟩ := ex_least (fun g => P 0 - F g 0 + F g 1) (fun g => 0 < X g 0) (P 1) ng
  obtain ⟨l0, b1, b2, b3⟩ := ex_least (fun g => P 1 - F g 1 + F g 0) (fun g => 0 < X g 1) (P 0) ng
  obtain ⟨p1, u1, h1, e1, -⟩ := raise (t := 1) hf hP (Or.inl (by omega)) hX hE a1 (fun g k hg hk hx => by
    have : k = 0 := by omega
    subst this
    exact a2 g hg hx) (by
    rcases a3 with h | ⟨g, g1, g2, g3⟩
    · exact Or.inl h
    · exact Or.inr ⟨g, 0, g1, by omega, g2, g3⟩)
  obtain ⟨p2, u2, h2, e2, g2⟩ := raise (t := 1) (fea_sw h1) (isP_sw hP) (Or.inl (by omega)) (fun g k hg _ => hX g (sw1 k) hg (by unfold sw1; omega)) (fun g hg hs => by
    obtain ⟨k, hk, hx⟩ := hE g hg hs
    refine ⟨sw1 k, by unfold sw1; omega, ?_⟩
    have : sw1 (sw1 k) = k := by unfold sw1; omega
    rw [this]; exact hx) (ls := l0) b1 (fun g k hg hk hx => by
    have : k = 0 := by omega
    subst this
    exact b2 g hg hx) (by
    rcases b3 with h | ⟨g, g1, g2, g3⟩
    · exact Or.inl h
    · exact Or.inr ⟨g, 0, g1, by omega, g2, g3⟩)
  have h3 := fea_sw h2
  have ss : ∀ k, k < 2 → sw1 (sw1 k) = k := fun k hk => by unfold sw1; omega
  -- back to the takers' own order
  have hf2 : Fea ng 2 la F d c S X H Zl p2 (fun k => u2 (sw1 k)) := by
    obtain ⟨f1, f2, f3⟩ := h2
    refine ⟨f1, fun k hk => ?_, fun g k hg hk => ?_⟩
    · have := f2 (sw1 k) (by unfold sw1; omega)
      dsimp only at this ⊢
      rw [ss k hk] at this
      exact this
    · have := f3 g (sw1 k) hg (by unfold sw1; omega)
      dsimp only at this ⊢
      rw [ss k hk] at this
      exact this
  refine ⟨p2, fun k => u2 (sw1 k), hf2, ?_, ?_⟩
  · have e : u2 (sw1 0) = l0 := e2
    dsimp only
    rw [e]
    exact b3
  · -- still as high as after the first rise: no higher is borne, and no price has fallen
    have hup : u2 (sw1 1) ≤ l1 := by
      rcases a3 with h | ⟨g, g1, g2, g3⟩
      · have := u_le_P hf2 hP (k := 1) (by omega)
        omega
      · have q1 := (hf2.2.2 g 0 g1 (by omega)).2 g2
        have q2 := (hf2.2.2 g 1 g1 (by omega)).1
        have q3 := u_le_P hf2 hP (k := 0) (by omega)
        dsimp only at q1 q2 q3
        omega
    have hlo : u1 1 ≤ u2 (sw1 1) := g2 0 (by omega)
    have : u2 (sw1 1) = l1 := by omega
    dsimp only
    rw [this]
    exact a3
end Top
