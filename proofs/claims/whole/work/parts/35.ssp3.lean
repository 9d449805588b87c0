/-! the whole of serving, in whole numbers -/
section Inv
variable {ng nt t : Nat} {la : Int} {F : Nat → Nat → Int} {d c s l : Nat → Int} {S : Nat → Int} {X : Nat → Nat → Int} {H Zl : Nat → Int} {P : Nat → Int} {lk C : Int}
/-- taker t is being served and lacks lk still, those before have all -/
def Inv (ng nt t : Nat) (la : Int) (F : Nat → Nat → Int) (d c s l : Nat → Int) (S : Nat → Int) (X : Nat → Nat → Int) (H Zl : Nat → Int) (lk C : Int) : Prop :=
  (∃ p u, Fea ng (t + 1) la F d c S X H Zl p u) ∧ (∀ g, g < ng → 0 ≤ S g ∧ S g + sm nt (X g) = s g) ∧ (∀ g k, g < ng → k < nt → 0 ≤ X g k) ∧ (∀ k, k < nt → 0 ≤ H k ∧ H k ≤ c k ∧ 0 ≤ Zl k) ∧ (∀ k, k < t → got ng c X H Zl k = l k) ∧ got ng c X H Zl t = l t - lk ∧ 0 ≤ lk ∧ (∀ k, t < k → k < nt → H k = c k ∧ Zl k = 0 ∧ ∀ g, g < ng → X g k = 0) ∧ C = cF ng nt la F d c X H Zl
theorem own_keep {k : Nat} {n : Int} {S' : Nat → Int} {X' : Nat → Nat → Int} {H' Zl' : Nat → Int} (hk : k < nt) (ho : Own ng la F d P k n S X H Zl S' X' H' Zl') (h1 : ∀ g, g < ng → 0 ≤ S g ∧ S g + sm nt (X g) = s g) (h2 : ∀ g j, g < ng → j < nt → 0 ≤ X g j) (h3 : ∀ j, j < nt → 0 ≤ H j ∧ H j ≤ c j ∧ 0 ≤ Zl j) :
    (∀ g, g < ng → 0 ≤ S' g ∧ S' g + sm nt (X' g) = s g) ∧ (∀ g j, g < ng → j < nt → 0 ≤ X' g j) ∧ (∀ j, j < nt → 0 ≤ H' j ∧ H' j ≤ c j ∧ 0 ≤ Zl' j) ∧ ∀ j, j ≠ k → H' j = H j ∧ Zl' j = Zl j ∧ ∀ g, X' g j = X g j := by
  obtain ⟨hn, ⟨a, b, rfl, rfl, rfl, rfl⟩ | ⟨b, rfl, rfl, rfl, rfl⟩ | ⟨g, hg, a, b, rfl, rfl, rfl, rfl⟩⟩ := ho
  · refine ⟨h1, h2, fun j hj => ?_, fun j hj => ⟨ud_n hj, rfl, fun _ => rfl⟩⟩
    have := h3 j hj
    by_cases e : j = k
    · subst e; rw [ud_e]; omega
    · rw [ud_n e]; exact this
  · refine ⟨h1, h2, fun j hj => ?_, fun j hj => ⟨rfl, ud_n hj, fun _ => rfl⟩⟩
    have := h3 j hj
    by_cases e : j = k
    · subst e; rw [ud_e]; omega
    · rw [ud_n e]; exact this
  · refine ⟨fun g' hg' => ?_, fun g' j hg' hj => ?_, h3, fun j hj => ⟨rfl, rfl, fun g' => ud2_n (fun z => hj z.2)⟩⟩
    · by_cases e : g' = g
      · subst e
        have := h1 g' hg'
        rw [ud_e, sm_upd (f := X g') (g := ud2 X g' k (X g' k + n) g') (a := n) hk (fun i hi hne => ud2_n (fun z => hne z.2)) ud2_e]
        omega
      · rw [ud_n e, sm_congr (f := ud2 X g k (X g k + n) g') (g := X g') (fun i hi => ud2_n (fun z => e z.1))]
        exact h1 g' hg'
    · have := h2 g' j hg' hj
      by_cases e : g' = g ∧ j = k
      · obtain ⟨rfl, rfl⟩ := e; rw [ud2_e]; omega
      · rw [ud2_n e]; exact this
theorem inv_own {n ls : Int} {S' : Nat → Int} {X' : Nat → Nat → Int} {H' Zl' : Nat → Int} (hI : Inv ng nt t la F d c s l S X H Zl lk C) (ht : t < nt) (hsz : t ≤ 1 ∨ ng ≤ 1) (hs : ∀ g, g < ng → 0 < s g) (hP : IsP ng (t + 1) la F d S H P)
    (l2 : ∀ g k, g < ng → k < t → 0 < X g k → P t ≤ P k - F g k + F g t) (ho : Own ng la F d P t n S X H Zl S' X' H' Zl') (hn : n ≤ lk) : Inv ng nt t la F d c s l S' X' H' Zl' (lk - n) (C + n * P t) := by
  obtain ⟨⟨p, u, hf⟩, i2, i3, i4, i5, i6, i7, i8, i9⟩ := hI
  have hE : ∀ g, g < ng → ¬ 0 < S g → ∃ k, k < t + 1 ∧ 0 < X g k := by
    intro g hg h
    have h1 := i2 g hg
    have h2 := hs g hg
    obtain ⟨k, hk, hx⟩ := sm_pos (f := X g) (n := nt) (fun j hj => i3 g j hg hj) (by omega)
    refine ⟨k, ?_, hx⟩
    by_cases e : t < k
    · have := (i8 k e hk).2.2 g hg; omega
    · omega
  obtain ⟨p', u', hf', hu', -⟩ := raise hf hP hsz (fun g k hg hk => i3 g k hg (by omega)) hE (Int.le_refl _) l2 (Or.inl rfl)
  obtain ⟨j2, j3, j4, j5⟩ := own_keep ht ho i2 i3 i4
  refine ⟨⟨p', u', own_fea (by omega) hf' ho (by omega)⟩, j2, j3, j4, fun k hk => ?_, ?_, by omega, fun k h1 h2 => ?_, ?_⟩
  · rw [own_got ho, if_neg (by omega), i5 k hk]; omega
  · rw [own_got ho, if_pos rfl, i6]; omega
  · obtain ⟨a1, a2, a3⟩ := j5 k (by omega)
    obtain ⟨b1, b2, b3⟩ := i8 k h1 h2
    exact ⟨by omega, by omega, fun g hg => by rw [a3]; exact b3 g hg⟩
  · rw [own_cost ht ho, i9]
theorem inv_move {n : Int} {g k : Nat} {S' : Nat → Int} {X' : Nat → Nat → Int} {H' Zl' : Nat → Int} (hI : Inv ng nt t la F d c s l S X H Zl lk C) (ht : t < nt) (hsz : t ≤ 1 ∨ ng ≤ 1) (hs : ∀ g, g < ng → 0 < s g) (hP : IsP ng (t + 1) la F d S H P) (hg : g < ng) (hk : k < t) (hx : 0 < X g k)
    (l1 : P k - F g k + F g t ≤ P t) (l2 : ∀ g' k', g' < ng → k' < t → 0 < X g' k' → P k - F g k + F g t ≤ P k' - F g' k' + F g' t) (hnx : n ≤ X g k) (hn : n ≤ lk) (ho : Own ng la F d P k n S (ud2 (ud2 X g k (X g k - n)) g t (X g t + n)) H Zl S' X' H' Zl') : Inv ng nt t la F d c s l S' X' H' Zl' (lk - n) (C + n * (P k - F g k + F g t)) := by
  obtain ⟨⟨p, u, hf⟩, i2, i3, i4, i5, i6, i7, i8, i9⟩ := hI
  have hn0 : 0 < n := ho.1
  have hE : ∀ g, g < ng → ¬ 0 < S g → ∃ k, k < t + 1 ∧ 0 < X g k := by
    intro g hg h
    have h1 := i2 g hg
    have h2 := hs g hg
    obtain ⟨k, hk, hx⟩ := sm_pos (f := X g) (n := nt) (fun j hj => i3 g j hg hj) (by omega)
    refine ⟨k, ?_, hx⟩
    by_cases e : t < k
    · have := (i8 k e hk).2.2 g hg; omega
    · omega
  obtain ⟨p', u', hf', hu', -⟩ := raise hf hP hsz (fun g k hg hk => i3 g k hg (by omega)) hE l1 l2 (Or.inr ⟨g, k, hg, hk, hx, rfl⟩)
  have huP := u_le_P hf' hP (k := k) (by omega)
  have t1 := (hf'.2.2 g k hg (by omega)).2 hx
  have t2 := (hf'.2.2 g t hg (by omega)).1
  have hkt : k ≠ t := by omega
  have hf2 := move_fea hg hn0 hnx hkt hf' (by omega)
  -- the moved flow keeps all sums
  have m2 : ∀ g', g' < ng → 0 ≤ S g' ∧ S g' + sm nt (ud2 (ud2 X g k (X g k - n)) g t (X g t + n) g') = s g' := by
    intro g' hg'
    have h0 := i2 g' hg'
    by_cases e : g' = g
    · subst e
      have e1 : sm nt (ud2 X g' k (X g' k - n) g') = sm nt (X g') + -n := sm_upd (k := k) (by omega) (fun i hi hne => ud2_n (fun z => hne z.2)) (by rw [ud2_e]; omega)
      have e2 : sm nt (ud2 (ud2 X g' k (X g' k - n)) g' t (X g' t + n) g') = sm nt (ud2 X g' k (X g' k - n) g') + n := sm_upd (k := t) (by omega) (fun i hi hne => ud2_n (fun z => hne z.2)) (by rw [ud2_e, ud2_n (fun z => hkt z.2.symm)])
      omega
    · rw [sm_congr (f := ud2 (ud2 X g k (X g k - n)) g t (X g t + n) g') (g := X g') (fun i hi => by rw [ud2_n (fun z => e z.1), ud2_n (fun z => e z.1)])]
      exact h0
  have m3 : ∀ g' j, g' < ng → j < nt → 0 ≤ ud2 (ud2 X g k (X g k - n)) g t (X g t + n) g' j := by
    intro g' j hg' hj
    have h0 := i3 g' j hg' hj
    by_cases e : g' = g ∧ j = t
    · obtain ⟨rfl, rfl⟩ := e; rw [ud2_e]; omega
    · rw [ud2_n e]
      by_cases e2 : g' = g ∧ j = k
      · obtain ⟨rfl, rfl⟩ := e2; rw [ud2_e]; omega
      · rw [ud2_n e2]; exact h0
  obtain ⟨j2, j3, j4, j5⟩ := own_keep (k := k) (by omega) ho m2 m3 i4
  refine ⟨⟨p', u', own_fea (by omega) hf2 ho (by omega)⟩, j2, j3, j4, fun q hq => ?_, ?_, by omega, fun q h1 h2 => ?_, ?_⟩
  · rw [own_got ho, move_got hg hkt, i5 q hq]
    by_cases e : q = k
    · rw [if_pos e, if_pos e]; omega
    · rw [if_neg e, if_neg e, if_neg (by omega)]; omega
  · rw [own_got ho, move_got hg hkt, if_neg (fun z => hkt z.symm), if_pos rfl, if_neg (fun z => hkt z.symm), i6]; omega
  · obtain ⟨a1, a2, a3⟩ := j5 q (by omega)
    obtain ⟨b1, b2, b3⟩ := i8 q h1 h2
    refine ⟨by omega, by omega, fun g' hg' => ?_⟩
    rw [a3, ud2_n (fun z => by omega), ud2_n (fun z => by omega)]
    exact b3 g' hg'
  · rw [own_cost (k := k) (by omega) ho, move_cost hg (by omega) ht hkt, i9, Int.mul_add, Int.mul_sub, Int.mul_sub]
    omega
theorem low (a : Nat → Int) (b b2 : Int) (n : Nat) : ∃ v, v ≤ b ∧ v ≤ b2 ∧ ∀ g, g < n → v ≤ a g := by
  obtain ⟨v, h1, h2, -⟩ := ex_max (fun _ => True) (fun g => - a g) (if -b ≤ -b2 then -b2 else -b) n
  refine ⟨-v, ?_, ?_, fun g hg => ?_⟩
  · split at h1 <;> omega
  · split at h1 <;> omega
  · have := h2 g hg trivial; omega
/-- the next taker -/
theorem inv_next (hI : Inv ng nt t la F d c s l S X H Zl 0 C) (ht : t + 1 < nt) : Inv ng nt (t + 1) la F d c s l S X H Zl (l (t + 1)) C ∨ l (t + 1) < 0 := by
  by_cases hl : l (t + 1) < 0
  · exact Or.inr hl
  refine Or.inl ?_
  obtain ⟨⟨p, u, f1, f2, f3⟩, i2, i3, i4, i5, i6, i7, i8, i9⟩ := hI
  obtain ⟨h1, h2, h3⟩ := i8 (t + 1) (by omega) ht
  obtain ⟨v, v1, v2, v3⟩ := low (fun g => p g + F g (t + 1)) la (d (t + 1)) ng
  refine ⟨⟨p, fun k => if k = t + 1 then v else u k, f1, fun k hk => ?_, fun g k hg hk => ?_⟩, i2, i3, i4, fun k hk => ?_, ?_, by omega, fun k a b => i8 k (by omega) b, i9⟩
  · dsimp only
    by_cases e : k = t + 1
    · subst e
      rw [if_pos rfl]
      exact ⟨v1, fun z => by omega, fun _ => v2, fun z => by omega⟩
    · rw [if_neg e]
      exact f2 k (by omega)
  · dsimp only
    by_cases e : k = t + 1
    · subst e
      rw [if_pos rfl]
      exact ⟨v3 g hg, fun z => by have := h3 g hg; omega⟩
    · rw [if_neg e]
      exact f3 g k hg (by omega)
  · by_cases e : k = t
    · subst e; omega
    · exact i5 k (by omega)
  · unfold got
    rw [sm_zero (fun g hg => h3 g hg)]
    omega
theorem inv_first (hs : ∀ g, g < ng → 0 ≤ s g) (hc : ∀ k, k < nt → 0 ≤ c k) (hl : 0 ≤ l 0) : Inv ng nt 0 la F d c s l s (fun _ _ => 0) c (fun _ => 0) (l 0) 0 := by
  obtain ⟨v, v1, v2, v3⟩ := low (fun g => F g 0) la (d 0) ng
  refine ⟨⟨fun _ => 0, fun _ => v, fun g hg => ⟨Int.le_refl _, fun _ => rfl⟩, fun k hk => ?_, fun g k hg hk => ?_⟩, fun g hg => ⟨hs g hg, ?_⟩, fun _ _ _ _ => Int.le_refl _, fun k hk => ⟨hc k hk, Int.le_refl _, Int.le_refl _⟩, fun k hk => absurd hk (by omega), ?_, hl, fun k _ _ => ⟨rfl, rfl, fun _ _ => rfl⟩, ?_⟩
  · have : k = 0 := by omega
    subst this
    dsimp only
    exact ⟨v1, fun z => absurd z (by omega), fun _ => v2, fun z => absurd z (by omega)⟩
  · have : k = 0 := by omega
    subst this
    dsimp only
    exact ⟨by have := v3 g hg; omega, fun z => absurd z (by omega)⟩
  · rw [sm_zero (fun _ _ => rfl)]; omega
  · unfold got
    rw [sm_zero (fun _ _ => rfl)]; dsimp only; omega
  · unfold cF
    rw [sm_zero]
    intro k hk
    rw [sm_zero (fun g hg => by simp)]
    simp
end Inv
