/-! one turn of serving, in whole numbers -/
def sm (n : Nat) (f : Nat → Int) : Int := match n with
  | 0 => 0
  | n + 1 => sm n f + f n
theorem sm_congr {f g : Nat → Int} : ∀ {n : Nat}, (∀ j, j < n → f j = g j) → sm n f = sm n g := by
  intro n
  induction n with
  | zero => intro _; rfl
  | succ n ih => intro h; unfold sm; rw [ih (fun j hj => h j (by omega)), h n (by omega)]
theorem sm_upd {f g : Nat → Int} {k : Nat} {a : Int} : ∀ {n : Nat}, k < n → (∀ j, j < n → j ≠ k → g j = f j) → g k = f k + a → sm n g = sm n f + a := by
  intro n
  induction n with
  | zero => intro h; omega
  | succ n ih =>
    intro h h1 h2
    unfold sm
    by_cases e : k = n
    · subst e
      rw [sm_congr (fun j hj => h1 j (by omega) (by omega)), h2]
      omega
    · rw [ih (by omega) (fun j hj hne => h1 j (by omega) hne) h2, h1 n (by omega) (fun z => e z.symm)]
      omega
theorem sm_nonneg {f : Nat → Int} : ∀ {n : Nat}, (∀ j, j < n → 0 ≤ f j) → 0 ≤ sm n f := by
  intro n
  induction n with
  | zero => intro _; exact Int.le_refl _
  | succ n ih => intro h; unfold sm; have := ih (fun j hj => h j (by omega)); have := h n (by omega); omega
theorem sm_pos {f : Nat → Int} : ∀ {n : Nat}, (∀ j, j < n → 0 ≤ f j) → 0 < sm n f → ∃ k, k < n ∧ 0 < f k := by
  intro n
  induction n with
  | zero => intro _ h; exact absurd h (by unfold sm; omega)
  | succ n ih =>
    intro h hp
    unfold sm at hp
    by_cases e : 0 < f n
    · exact ⟨n, by omega, e⟩
    · obtain ⟨k, a, b⟩ := ih (fun j hj => h j (by omega)) (by omega)
      exact ⟨k, by omega, b⟩
theorem sm_zero {f : Nat → Int} : ∀ {n : Nat}, (∀ j, j < n → f j = 0) → sm n f = 0 := by
  intro n
  induction n with
  | zero => intro _; rfl
  | succ n ih => intro h; unfold sm; rw [ih (fun j hj => h j (by omega)), h n (by omega)]; rfl
theorem sm_ge {f : Nat → Int} {k : Nat} : ∀ {n : Nat}, (∀ j, j < n → 0 ≤ f j) → k < n → f k ≤ sm n f := by
  intro n
  induction n with
  | zero => intro _ h; omega
  | succ n ih =>
    intro h hk
    unfold sm
    by_cases e : k = n
    · subst e; have := sm_nonneg (n := k) (fun j hj => h j (by omega)); omega
    · have := ih (fun j hj => h j (by omega)) (by omega); have := h n (by omega); omega
def ud (f : Nat → Int) (k : Nat) (v : Int) : Nat → Int := fun j => if j = k then v else f j
def ud2 (f : Nat → Nat → Int) (g k : Nat) (v : Int) : Nat → Nat → Int := fun i j => if i = g ∧ j = k then v else f i j
theorem ud_e {f : Nat → Int} {k : Nat} {v : Int} : ud f k v k = v := if_pos rfl
theorem ud_n {f : Nat → Int} {k j : Nat} {v : Int} (h : j ≠ k) : ud f k v j = f j := if_neg h
theorem ud2_e {f : Nat → Nat → Int} {g k : Nat} {v : Int} : ud2 f g k v g k = v := if_pos ⟨rfl, rfl⟩
theorem ud2_n {f : Nat → Nat → Int} {g k i j : Nat} {v : Int} (h : ¬ (i = g ∧ j = k)) : ud2 f g k v i j = f i j := if_neg h
section Srv
variable {ng m : Nat} {la : Int} {F : Nat → Nat → Int} {d c : Nat → Int} {S : Nat → Int} {X : Nat → Nat → Int} {H Zl : Nat → Int} {p u P : Nat → Int}
/-- what a flow costs -/
def cF (ng m : Nat) (la : Int) (F : Nat → Nat → Int) (d c : Nat → Int) (X : Nat → Nat → Int) (H Zl : Nat → Int) : Int := sm m (fun k => sm ng (fun g => F g k * X g k) + d k * (c k - H k) + la * Zl k)
/-- what a taker has got -/
def got (ng : Nat) (c : Nat → Int) (X : Nat → Nat → Int) (H Zl : Nat → Int) (k : Nat) : Int := sm ng (fun g => X g k) + (c k - H k) + Zl k
/-- n units more for taker k in a way: -1 hired, -2 left, g from a giver -/
def Own (ng : Nat) (la : Int) (F : Nat → Nat → Int) (d : Nat → Int) (P : Nat → Int) (k : Nat) (n : Int) (S : Nat → Int) (X : Nat → Nat → Int) (H Zl S' : Nat → Int) (X' : Nat → Nat → Int) (H' Zl' : Nat → Int) : Prop :=
  0 < n ∧ ((n ≤ H k ∧ P k = d k ∧ S' = S ∧ X' = X ∧ H' = ud H k (H k - n) ∧ Zl' = Zl) ∨ (P k = la ∧ S' = S ∧ X' = X ∧ H' = H ∧ Zl' = ud Zl k (Zl k + n)) ∨ ∃ g, g < ng ∧ n ≤ S g ∧ P k = F g k ∧ S' = ud S g (S g - n) ∧ X' = ud2 X g k (X g k + n) ∧ H' = H ∧ Zl' = Zl)
theorem own_fea {k : Nat} {n : Int} {S' : Nat → Int} {X' : Nat → Nat → Int} {H' Zl' : Nat → Int} (hk : k < m) (hf : Fea ng m la F d c S X H Zl p u) (ho : Own ng la F d P k n S X H Zl S' X' H' Zl') (ht : P k ≤ u k) : Fea ng m la F d c S' X' H' Zl' p u := by
  obtain ⟨f1, f2, f3⟩ := hf
  obtain ⟨hn, ⟨a, b, rfl, rfl, rfl, rfl⟩ | ⟨b, rfl, rfl, rfl, rfl⟩ | ⟨g, hg, a, b, rfl, rfl, rfl, rfl⟩⟩ := ho
  · refine ⟨f1, fun j hj => ?_, f3⟩
    obtain ⟨b1, b2, b3, b4⟩ := f2 j hj
    by_cases e : j = k
    · subst e
      rw [ud_e]
      exact ⟨b1, b2, fun z => b3 (by omega), fun z => by omega⟩
    · rw [ud_n e]
      exact ⟨b1, b2, b3, b4⟩
  · refine ⟨f1, fun j hj => ?_, f3⟩
    obtain ⟨b1, b2, b3, b4⟩ := f2 j hj
    by_cases e : j = k
    · subst e
      exact ⟨b1, fun _ => by omega, b3, b4⟩
    · rw [ud_n e]
      exact ⟨b1, b2, b3, b4⟩
  · have hp0 := (f1 g hg).2 (by omega)
    refine ⟨fun g' hg' => ?_, f2, fun g' j hg' hj => ?_⟩
    · by_cases e : g' = g
      · subst e
        exact ⟨(f1 g' hg').1, fun _ => hp0⟩
      · rw [ud_n e]
        exact f1 g' hg'
    · obtain ⟨h1, h2⟩ := f3 g' j hg' hj
      refine ⟨h1, fun z => ?_⟩
      by_cases e : g' = g ∧ j = k
      · obtain ⟨rfl, rfl⟩ := e
        omega
      · rw [ud2_n e] at z
        exact h2 z
theorem own_cost {k : Nat} {n : Int} {S' : Nat → Int} {X' : Nat → Nat → Int} {H' Zl' : Nat → Int} (hk : k < m) (ho : Own ng la F d P k n S X H Zl S' X' H' Zl') : cF ng m la F d c X' H' Zl' = cF ng m la F d c X H Zl + n * P k := by
  obtain ⟨hn, ⟨a, b, rfl, rfl, rfl, rfl⟩ | ⟨b, rfl, rfl, rfl, rfl⟩ | ⟨g, hg, a, b, rfl, rfl, rfl, rfl⟩⟩ := ho
  · refine sm_upd hk (fun j hj hne => by (try dsimp only); rw [ud_n hne]) ?_
    (try dsimp only)
    rw [ud_e, b, show c k - (H k - n) = (c k - H k) + n by omega, Int.mul_add, Int.mul_comm n]
    omega
  · refine sm_upd hk (fun j hj hne => by (try dsimp only); rw [ud_n hne]) ?_
    (try dsimp only)
    rw [ud_e, b, Int.mul_add, Int.mul_comm n]
    omega
  · refine sm_upd hk (fun j hj hne => ?_) ?_
    · (try dsimp only)
      rw [sm_congr (f := fun g' => F g' j * ud2 X g k (X g k + n) g' j) (g := fun g' => F g' j * X g' j) (fun i hi => by (try dsimp only); rw [ud2_n (fun z => hne z.2)])]
    · (try dsimp only)
      rw [sm_upd (f := fun g' => F g' k * X g' k) (g := fun g' => F g' k * ud2 X g k (X g k + n) g' k) (a := n * P k) hg (fun i hi hne => by (try dsimp only); rw [ud2_n (fun z => hne z.1)]) (by (try dsimp only); rw [ud2_e, b, Int.mul_add, Int.mul_comm n])]
      omega
theorem own_got {k : Nat} {n : Int} {S' : Nat → Int} {X' : Nat → Nat → Int} {H' Zl' : Nat → Int} (ho : Own ng la F d P k n S X H Zl S' X' H' Zl') (j : Nat) : got ng c X' H' Zl' j = got ng c X H Zl j + (if j = k then n else 0) := by
  unfold got
  obtain ⟨hn, ⟨a, b, rfl, rfl, rfl, rfl⟩ | ⟨b, rfl, rfl, rfl, rfl⟩ | ⟨g, hg, a, b, rfl, rfl, rfl, rfl⟩⟩ := ho
  · by_cases e : j = k
    · subst e; rw [ud_e, if_pos rfl]; omega
    · rw [ud_n e, if_neg e]; omega
  · by_cases e : j = k
    · subst e; rw [ud_e, if_pos rfl]; omega
    · rw [ud_n e, if_neg e]; omega
  · by_cases e : j = k
    · subst e
      rw [if_pos rfl, sm_upd (f := fun g' => X g' j) (g := fun g' => ud2 X g j (X g j + n) g' j) (a := n) hg (fun i hi hne => by (try dsimp only); rw [ud2_n (fun z => hne z.1)]) (by (try dsimp only); rw [ud2_e])]
      omega
    · rw [if_neg e, sm_congr (f := fun g' => ud2 X g k (X g k + n) g' j) (g := fun g' => X g' j) (fun i hi => by (try dsimp only); rw [ud2_n (fun z => e z.2)])]
      omega
/-- n units of giver g go to t, no longer to k -/
theorem move_fea {g k t : Nat} {n : Int} (hg : g < ng) (hn : 0 < n) (hX : n ≤ X g k) (hkt : k ≠ t) (hf : Fea ng m la F d c S X H Zl p u) (ht : p g + F g t ≤ u t) : Fea ng m la F d c S (ud2 (ud2 X g k (X g k - n)) g t (X g t + n)) H Zl p u := by
  obtain ⟨f1, f2, f3⟩ := hf
  refine ⟨f1, f2, fun g' j hg' hj => ⟨(f3 g' j hg' hj).1, fun z => ?_⟩⟩
  by_cases e : g' = g ∧ j = t
  · obtain ⟨rfl, rfl⟩ := e; exact ht
  · rw [ud2_n e] at z
    by_cases e2 : g' = g ∧ j = k
    · obtain ⟨rfl, rfl⟩ := e2
      exact (f3 g' j hg' hj).2 (by omega)
    · rw [ud2_n e2] at z
      exact (f3 g' j hg' hj).2 z
theorem move_cost {g k t : Nat} {n : Int} (hg : g < ng) (hk : k < m) (ht : t < m) (hkt : k ≠ t) : cF ng m la F d c (ud2 (ud2 X g k (X g k - n)) g t (X g t + n)) H Zl = cF ng m la F d c X H Zl + n * (F g t - F g k) := by
  have h1 : cF ng m la F d c (ud2 X g k (X g k - n)) H Zl = cF ng m la F d c X H Zl + (-(n * F g k)) := by
    refine sm_upd hk (fun j hj hne => ?_) ?_
    · (try dsimp only)
      rw [sm_congr (f := fun g' => F g' j * ud2 X g k (X g k - n) g' j) (g := fun g' => F g' j * X g' j) (fun i hi => by (try dsimp only); rw [ud2_n (fun z => hne z.2)])]
    · (try dsimp only)
      rw [sm_upd (f := fun g' => F g' k * X g' k) (g := fun g' => F g' k * ud2 X g k (X g k - n) g' k) (a := -(n * F g k)) hg (fun i hi hne => by (try dsimp only); rw [ud2_n (fun z => hne z.1)]) (by (try dsimp only); rw [ud2_e, Int.mul_sub, Int.mul_comm n]; omega)]
      omega
  have e : X g t = ud2 X g k (X g k - n) g t := (ud2_n (fun z => hkt z.2.symm)).symm
  have h2 : cF ng m la F d c (ud2 (ud2 X g k (X g k - n)) g t (X g t + n)) H Zl = cF ng m la F d c (ud2 X g k (X g k - n)) H Zl + n * F g t := by
    refine sm_upd ht (fun j hj hne => ?_) ?_
    · (try dsimp only)
      rw [sm_congr (f := fun g' => F g' j * ud2 (ud2 X g k (X g k - n)) g t (X g t + n) g' j) (g := fun g' => F g' j * ud2 X g k (X g k - n) g' j) (fun i hi => by (try dsimp only); rw [ud2_n (fun z => hne z.2)])]
    · (try dsimp only)
      rw [sm_upd (f := fun g' => F g' t * ud2 X g k (X g k - n) g' t) (g := fun g' => F g' t * ud2 (ud2 X g k (X g k - n)) g t (X g t + n) g' t) (a := n * F g t) hg (fun i hi hne => by (try dsimp only); rw [ud2_n (fun z => hne z.1)]) (by (try dsimp only); rw [ud2_e, ← e, Int.mul_add, Int.mul_comm n])]
      omega
  rw [h2, h1, Int.mul_sub]
  omega
theorem move_got {g k t : Nat} {n : Int} (hg : g < ng) (hkt : k ≠ t) (j : Nat) : got ng c (ud2 (ud2 X g k (X g k - n)) g t (X g t + n)) H Zl j = got ng c X H Zl j + (if j = k then -n else if j = t then n else 0) := by
  unfold got
  by_cases ek : j = k
  · subst ek
    rw [if_pos rfl, sm_congr (f := fun g' => ud2 (ud2 X g j (X g j - n)) g t (X g t + n) g' j) (g := fun g' => ud2 X g j (X g j - n) g' j) (fun i hi => by (try dsimp only); rw [ud2_n (fun z => hkt z.2)]),
      sm_upd (f := fun g' => X g' j) (g := fun g' => ud2 X g j (X g j - n) g' j) (a := -n) hg (fun i hi hne => by (try dsimp only); rw [ud2_n (fun z => hne z.1)]) (by (try dsimp only); rw [ud2_e]; omega)]
    omega
  · rw [if_neg ek]
    by_cases et : j = t
    · subst et
      rw [if_pos rfl, sm_upd (f := fun g' => X g' j) (g := fun g' => ud2 (ud2 X g k (X g k - n)) g j (X g j + n) g' j) (a := n) hg (fun i hi hne => by (try dsimp only); rw [ud2_n (fun z => hne z.1), ud2_n (fun z => hne z.1)]) (by (try dsimp only); rw [ud2_e])]
      omega
    · rw [if_neg et, sm_congr (f := fun g' => ud2 (ud2 X g k (X g k - n)) g t (X g t + n) g' j) (g := fun g' => X g' j) (fun i hi => by (try dsimp only); rw [ud2_n (fun z => et z.2), ud2_n (fun z => ek z.2)])]
      omega
end Srv
