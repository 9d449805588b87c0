/-! from givers and takers in a row to harbours -/
/-- how many of a kind stand before a place -/
def rk (q : Nat → Bool) : Nat → Nat
  | 0 => 0
  | n + 1 => rk q n + (if q n then 1 else 0)
theorem rk_s (q : Nat → Bool) (n : Nat) : rk q (n + 1) = rk q n + (if q n then 1 else 0) := rfl
theorem sm_s (n : Nat) (f : Nat → Int) : sm (n + 1) f = sm n f + f n := rfl
theorem rk_mono {q : Nat → Bool} {a b : Nat} (h : a ≤ b) : rk q a ≤ rk q b := by
  induction b with
  | zero => have : a = 0 := by omega
            subst this; exact Nat.le_refl _
  | succ b ih =>
    by_cases e : a = b + 1
    · subst e; exact Nat.le_refl _
    · have := ih (by omega)
      rw [rk_s]
      omega
theorem rk_lt {q : Nat → Bool} {a b : Nat} (hq : q a = true) (h : a < b) : rk q a < rk q b := by
  have h1 : rk q (a + 1) ≤ rk q b := rk_mono h
  have h2 : rk q (a + 1) = rk q a + 1 := by
    show rk q a + (if q a then 1 else 0) = _
    rw [hq]; rfl
  omega
theorem sm_rk (q : Nat → Bool) (f : Nat → Int) : ∀ n : Nat, sm n (fun j => if q j then f (rk q j) else 0) = sm (rk q n) f := by
  intro n
  induction n with
  | zero => rfl
  | succ n ih =>
    rw [sm_s, ih, rk_s]
    cases q n
    · simp
    · rfl
theorem rk_inv {q : Nat → Bool} : ∀ {n k : Nat}, k < rk q n → ∃ j, j < n ∧ q j = true ∧ rk q j = k := by
  intro n
  induction n with
  | zero => intro k h; exact absurd h (by unfold rk; omega)
  | succ n ih =>
    intro k h
    by_cases e : k < rk q n
    · obtain ⟨j, a, b, c⟩ := ih e
      exact ⟨j, by omega, b, c⟩
    · have h' : k < rk q n + (if q n then 1 else 0) := h
      cases hq : q n with
      | false => rw [hq] at h'; simp at h'; omega
      | true => rw [hq] at h'; simp at h'; exact ⟨n, by omega, hq, by omega⟩
theorem s4_sm (f : Nat → Int) : s4 f = sm 4 f := by
  unfold s4 sm sm sm sm sm
  omega
theorem row_ge {u U d c L y z Xs la : Int} (hL : L = Xs + y + z) (hu : u ≤ U) (y0 : 0 ≤ y) (yc : y ≤ c) (x0 : 0 ≤ Xs) (z0 : 0 ≤ z) (hz : 0 < z → la ≤ u) (hul : u ≤ la) (h1 : y < c → u ≤ d) (h2 : 0 < y → d ≤ u) :
    u * Xs + d * y + la * z ≤ (if U < d then U else d) * L + (if d < U ∧ 0 < L - c then (U - d) * (L - c) else 0) := by
  have ez : la * z = u * z := by
    by_cases h : 0 < z
    · have := hz h
      have : la = u := by omega
      rw [this]
    · have : z = 0 := by omega
      rw [this]; simp
  rw [ez]
  by_cases hy : y < c
  · have hud := h1 hy
    have ey : d * y = u * y := by
      by_cases h : 0 < y
      · have := h2 h
        have : d = u := by omega
        rw [this]
      · have : y = 0 := by omega
        rw [this]; simp
    have e : u * Xs + d * y + u * z = u * L := by rw [hL, ey]; simp only [Int.mul_add]
    rw [e]
    have a : u * L ≤ (if U < d then U else d) * L := mul_mono (by split <;> omega) (by omega)
    have b : 0 ≤ (if d < U ∧ 0 < L - c then (U - d) * (L - c) else 0) := by
      split
      · exact Int.mul_nonneg (by omega) (by omega)
      · omega
    omega
  · have hyc : y = c := by omega
    have e : u * Xs + d * y + u * z = u * (L - c) + d * c := by
      rw [show L - c = Xs + z by omega, hyc]; simp only [Int.mul_add]; omega
    rw [e]
    by_cases hdu : d < U
    · rw [if_neg (by omega : ¬ U < d)]
      by_cases hp : 0 < L - c
      · rw [if_pos ⟨hdu, hp⟩]
        have a : u * (L - c) ≤ U * (L - c) := mul_mono hu (by omega)
        have b : d * L = d * (L - c) + d * c := by rw [← Int.mul_add]; congr 1; omega
        rw [Int.sub_mul, b]
        omega
      · have e0 : L - c = 0 := by omega
        rw [if_neg (fun z => hp z.2), e0]
        have : L = c := by omega
        rw [this]; simp
    · rw [if_neg (fun z : d < U ∧ 0 < L - c => hdu z.1)]
      have e2 : (if U < d then U else d) = U := by split <;> omega
      rw [e2]
      by_cases hy0 : 0 < y
      · have := h2 hy0
        have hd : d = U := by omega
        have hu2 : u = U := by omega
        rw [hd, hu2, ← Int.mul_add]
        have : L - c + c = L := by omega
        rw [this]; omega
      · have hc0 : c = 0 := by omega
        rw [hc0]
        have : u * L ≤ U * L := mul_mono hu (by omega)
        simp
        exact this
section Br
variable {nu : Nat → Int32} {sp lk : Nat → Int} {S : Nat → Int} {X : Nat → Nat → Int} {H Zl : Nat → Int} {p u : Nat → Int}
def isG (sp : Nat → Int) (h : Nat) : Bool := decide (0 < sp h)
/-- the taker's and giver's numbers, by their places in the row -/
def Rows (nu : Nat → Int32) (sp lk : Nat → Int) (F : Nat → Nat → Int) (d c s l : Nat → Int) : Prop :=
  (∀ i j, i < 4 → j < 4 → 0 < sp i → 0 < lk j → F (rk (isG sp) i) (rk (isG lk) j) = zz nu (24 + 4 * i + j)) ∧ (∀ j, j < 4 → 0 < lk j → d (rk (isG lk) j) = zz nu (6 * j + 3) ∧ c (rk (isG lk) j) = zz nu (6 * j + 4) ∧ l (rk (isG lk) j) = lk j) ∧ ∀ i, i < 4 → 0 < sp i → s (rk (isG sp) i) = sp i
variable {F : Nat → Nat → Int} {d c s l : Nat → Int}
def hX (sp lk : Nat → Int) (X : Nat → Nat → Int) (i j : Nat) : Int := if isG sp i then (if isG lk j then X (rk (isG sp) i) (rk (isG lk) j) else 0) else 0
def hY (lk : Nat → Int) (f : Nat → Int) (j : Nat) : Int := if isG lk j then f (rk (isG lk) j) else 0
theorem br_end (hn : NumB nu) (h0 : ∀ i, i < 4 → 0 ≤ sp i ∧ 0 ≤ lk i) (hR : Rows nu sp lk F d c s l) (hf : Fea (rk (isG sp) 4) (rk (isG lk) 4) (zz nu 41) F d c S X H Zl p u)
    (i2 : ∀ g, g < rk (isG sp) 4 → 0 ≤ S g ∧ S g + sm (rk (isG lk) 4) (X g) = s g) (i3 : ∀ g k, g < rk (isG sp) 4 → k < rk (isG lk) 4 → 0 ≤ X g k) (i4 : ∀ k, k < rk (isG lk) 4 → 0 ≤ H k ∧ H k ≤ c k ∧ 0 ≤ Zl k) (i5 : ∀ k, k < rk (isG lk) 4 → got (rk (isG sp) 4) c X H Zl k = l k) :
    Flow nu sp lk (hX sp lk X) (hY lk (fun k => c k - H k)) (hY lk Zl) ∧ cstF nu (hX sp lk X) (hY lk (fun k => c k - H k)) (hY lk Zl) = cF (rk (isG sp) 4) (rk (isG lk) 4) (zz nu 41) F d c X H Zl ∧ cF (rk (isG sp) 4) (rk (isG lk) 4) (zz nu 41) F d c X H Zl ≤ wZ nu sp lk (hY sp p) ∧ ∀ i, i < 4 → 0 ≤ hY sp p i := by
  obtain ⟨r1, r2, r3⟩ := hR
  have hz : ∀ i, i < 43 → 0 ≤ zz nu i := fun i h => (hn.1 i h).1
  have gt : ∀ i, i < 4 → 0 < sp i → rk (isG sp) i < rk (isG sp) 4 := fun i hi h => rk_lt (by unfold isG; simpa using h) hi
  have tt : ∀ j, j < 4 → 0 < lk j → rk (isG lk) j < rk (isG lk) 4 := fun i hi h => rk_lt (by unfold isG; simpa using h) hi
  have nG : ∀ (f : Nat → Int) (i : Nat), ¬ 0 < f i → isG f i = false := fun f i h => by unfold isG; simpa using h
  have yG : ∀ (f : Nat → Int) (i : Nat), 0 < f i → isG f i = true := fun f i h => by unfold isG; simpa using h
  -- rows and columns of the flow
  have colS : ∀ j, j < 4 → sm 4 (fun i => hX sp lk X i j) = if isG lk j then sm (rk (isG sp) 4) (fun g => X g (rk (isG lk) j)) else 0 := by
    intro j hj
    cases hq : isG lk j with
    | false => simp only [hX, hq]; rw [sm_zero (fun i _ => by simp)]; simp
    | true => simp only [hX, hq, if_true]; exact sm_rk (isG sp) (fun g => X g (rk (isG lk) j)) 4
  have rowS : ∀ i, i < 4 → sm 4 (hX sp lk X i) = if isG sp i then sm (rk (isG lk) 4) (X (rk (isG sp) i)) else 0 := by
    intro i hi
    cases hq : isG sp i with
    | false => rw [sm_zero (fun j _ => by simp [hX, hq])]; simp
    | true =>
      rw [sm_congr (g := fun j => if isG lk j then X (rk (isG sp) i) (rk (isG lk) j) else 0) (fun j _ => by simp [hX, hq])]
      rw [sm_rk (isG lk) (X (rk (isG sp) i)) 4]; rfl
  have flow : Flow nu sp lk (hX sp lk X) (hY lk (fun k => c k - H k)) (hY lk Zl) := by
    refine ⟨fun i j hi hj => ?_, fun i hi => ?_, fun j hj => ?_, fun j hj => ?_⟩
    · unfold hX
      by_cases a : 0 < sp i
      · by_cases b : 0 < lk j
        · rw [yG sp i a, yG lk j b]; exact i3 _ _ (gt i hi a) (tt j hj b)
        · rw [nG lk j b]; simp
      · rw [nG sp i a]; simp
    · rw [s4_sm, rowS i hi]
      by_cases a : 0 < sp i
      · rw [yG sp i a, if_pos rfl]
        have := i2 _ (gt i hi a)
        have := r3 i hi a
        omega
      · rw [nG sp i a]
        have := (h0 i hi).1
        simp
        exact this
    · unfold hY
      by_cases b : 0 < lk j
      · have := i4 _ (tt j hj b)
        have := (r2 j hj b).2.1
        rw [yG lk j b, if_pos rfl, if_pos rfl]
        dsimp only
        omega
      · have := hz (6 * j + 4) (by omega)
        rw [nG lk j b]
        simp
        exact this
    · rw [s4_sm, colS j hj]
      unfold hY
      by_cases b : 0 < lk j
      · rw [yG lk j b, if_pos rfl, if_pos rfl, if_pos rfl]
        have := i5 _ (tt j hj b)
        unfold got at this
        have := (r2 j hj b).2.2
        dsimp only
        omega
      · rw [nG lk j b]
        have := (h0 j hj).2
        simp
        omega
  have cost : cstF nu (hX sp lk X) (hY lk (fun k => c k - H k)) (hY lk Zl) = cF (rk (isG sp) 4) (rk (isG lk) 4) (zz nu 41) F d c X H Zl := by
    unfold cstF cF
    rw [s4_sm, ← sm_rk (isG lk) (fun k => sm (rk (isG sp) 4) (fun g => F g k * X g k) + d k * (c k - H k) + zz nu 41 * Zl k) 4]
    apply sm_congr
    intro j hj
    try dsimp only
    by_cases b : 0 < lk j
    · have hd := (r2 j hj b).1
      rw [yG lk j b, if_pos rfl, s4_sm]
      unfold hY
      rw [yG lk j b, if_pos rfl, if_pos rfl, hd]
      rw [← sm_rk (isG sp) (fun g => F g (rk (isG lk) j) * X g (rk (isG lk) j)) 4]
      congr 2
      apply sm_congr
      intro i hi
      try dsimp only
      unfold hX
      by_cases a : 0 < sp i
      · rw [yG sp i a, yG lk j b, if_pos rfl, if_pos rfl, if_pos rfl, r1 i j hi hj a b]
      · rw [nG sp i a]; simp
    · rw [nG lk j b, s4_sm, sm_zero (fun i _ => by simp [hX, nG lk j b])]
      unfold hY
      rw [nG lk j b]
      simp
  have pp : ∀ i, i < 4 → 0 ≤ hY sp p i := by
    intro i hi
    unfold hY
    by_cases a : 0 < sp i
    · rw [yG sp i a, if_pos rfl]; exact (hf.1 _ (gt i hi a)).1
    · rw [nG sp i a]; simp
  refine ⟨flow, cost, ?_, pp⟩
  obtain ⟨f1, f2, f3⟩ := hf
  -- what each taker's row is worth
  have tk : ∀ j, j < 4 → (if isG lk j then sm (rk (isG sp) 4) (fun g => (p g + F g (rk (isG lk) j)) * X g (rk (isG lk) j)) + d (rk (isG lk) j) * (c (rk (isG lk) j) - H (rk (isG lk) j)) + zz nu 41 * Zl (rk (isG lk) j) else 0) ≤ tZ nu sp lk (hY sp p) j := by
    intro j hj
    by_cases b : 0 < lk j
    · rw [yG lk j b, if_pos rfl]
      obtain ⟨e1, e2, e3⟩ := r2 j hj b
      have hk := tt j hj b
      obtain ⟨b1, b2, b3, b4⟩ := f2 _ hk
      obtain ⟨c1, c2, c3⟩ := i4 _ hk
      have hg := i5 _ hk
      unfold got at hg
      have hU : u (rk (isG lk) j) ≤ uZ nu sp (hY sp p) j := by
        refine uZ_ge nu sp (hY sp p) j b1 (fun i hi hs => ?_)
        have := (f3 _ _ (gt i hi hs) hk).1
        rw [r1 i j hi hj hs b] at this
        unfold hY
        rw [yG sp i hs, if_pos rfl]
        exact this
      have eq1 : sm (rk (isG sp) 4) (fun g => (p g + F g (rk (isG lk) j)) * X g (rk (isG lk) j)) = u (rk (isG lk) j) * sm (rk (isG sp) 4) (fun g => X g (rk (isG lk) j)) := by
        have key : ∀ n, n ≤ rk (isG sp) 4 → sm n (fun g => (p g + F g (rk (isG lk) j)) * X g (rk (isG lk) j)) = u (rk (isG lk) j) * sm n (fun g => X g (rk (isG lk) j)) := by
          intro n
          induction n with
          | zero => intro _; simp [sm]
          | succ n ih =>
            intro hle
            unfold sm
            rw [ih (by omega), Int.mul_add]
            congr 1
            by_cases hx : 0 < X n (rk (isG lk) j)
            · have a1 := (f3 n _ (by omega) hk).1
              have a2 := (f3 n _ (by omega) hk).2 hx
              congr 1
              omega
            · have := i3 n _ (by omega : n < rk (isG sp) 4) hk
              have : X n (rk (isG lk) j) = 0 := by omega
              rw [this]; simp
        exact key _ (Nat.le_refl _)
      rw [eq1]
      unfold tZ
      rw [if_neg (by omega), ← e1, ← e2]
      exact row_ge (by omega) hU (by omega) (by omega) (sm_nonneg (fun g hg' => i3 g _ hg' hk)) c3 b2 b1 (fun z => b3 (by omega)) (fun z => b4 (by omega))
    · rw [nG lk j b]
      have : lk j = 0 := by have := (h0 j hj).2; omega
      unfold tZ
      rw [if_pos this]
      simp
  -- the givers' side
  have gk : ∀ i, i < 4 → hY sp p i * sp i = if isG sp i then p (rk (isG sp) i) * sm (rk (isG lk) 4) (X (rk (isG sp) i)) else 0 := by
    intro i hi
    unfold hY
    by_cases a : 0 < sp i
    · rw [yG sp i a, if_pos rfl, if_pos rfl]
      have h1 := i2 _ (gt i hi a)
      have h2 := r3 i hi a
      by_cases hs : 0 < S (rk (isG sp) i)
      · rw [(f1 _ (gt i hi a)).2 hs]; simp
      · congr 1; omega
    · rw [nG sp i a]; simp
  have dbl : sm (rk (isG lk) 4) (fun k => sm (rk (isG sp) 4) (fun g => p g * X g k)) = sm (rk (isG sp) 4) (fun g => p g * sm (rk (isG lk) 4) (X g)) := by
    have key : ∀ n m, sm m (fun k => sm n (fun g => p g * X g k)) = sm n (fun g => p g * sm m (X g)) := by
      intro n m
      induction m with
      | zero => rw [sm_zero (f := fun g => p g * sm 0 (X g)) (fun g _ => by simp [sm])]; rfl
      | succ m ih =>
        rw [sm_s, ih]
        have key2 : ∀ n, sm n (fun g => p g * sm m (X g)) + sm n (fun g => p g * X g m) = sm n (fun g => p g * (sm m (X g) + X g m)) := by
          intro n
          induction n with
          | zero => rfl
          | succ n ih2 =>
            unfold sm
            rw [← ih2, Int.mul_add]
            omega
        exact key2 n
    exact key _ _
  have tot : cF (rk (isG sp) 4) (rk (isG lk) 4) (zz nu 41) F d c X H Zl + sm (rk (isG sp) 4) (fun g => p g * sm (rk (isG lk) 4) (X g)) = sm 4 (fun j => if isG lk j then sm (rk (isG sp) 4) (fun g => (p g + F g (rk (isG lk) j)) * X g (rk (isG lk) j)) + d (rk (isG lk) j) * (c (rk (isG lk) j) - H (rk (isG lk) j)) + zz nu 41 * Zl (rk (isG lk) j) else 0) := by
    rw [sm_rk (isG lk) (fun k => sm (rk (isG sp) 4) (fun g => (p g + F g k) * X g k) + d k * (c k - H k) + zz nu 41 * Zl k) 4, ← dbl]
    unfold cF
    have add : ∀ (n : Nat) (f g : Nat → Int), sm n f + sm n g = sm n (fun k => f k + g k) := by
      intro n f g
      induction n with
      | zero => rfl
      | succ n ih => unfold sm; rw [← ih]; omega
    rw [add]
    apply sm_congr
    intro k hk
    try dsimp only
    have : sm (rk (isG sp) 4) (fun g => (p g + F g k) * X g k) = sm (rk (isG sp) 4) (fun g => F g k * X g k) + sm (rk (isG sp) 4) (fun g => p g * X g k) := by
      rw [add]
      apply sm_congr
      intro g hg
      try dsimp only
      rw [Int.add_mul]; omega
    rw [this]
    omega
  have gs : sm 4 (fun i => hY sp p i * sp i) = sm (rk (isG sp) 4) (fun g => p g * sm (rk (isG lk) 4) (X g)) := by
    rw [← sm_rk (isG sp) (fun g => p g * sm (rk (isG lk) 4) (X g)) 4]
    exact sm_congr (fun i hi => gk i hi)
  have t0 := tk 0 (by omega); have t1 := tk 1 (by omega); have t2 := tk 2 (by omega); have t3 := tk 3 (by omega)
  rw [← s4_sm] at tot gs
  unfold s4 at tot gs
  dsimp only at tot gs
  unfold wZ
  omega
end Br
