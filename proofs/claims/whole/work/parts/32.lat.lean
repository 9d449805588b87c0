/-! LATER: what flows cost, what prices are worth, and that the first is never less -/
def s4 (f : Nat → Int) : Int := f 0 + f 1 + f 2 + f 3
/-- x i j units go from i to j, y j are hired, z j left -/
def Flow (nu : Nat → Int32) (sp lk : Nat → Int) (x : Nat → Nat → Int) (y z : Nat → Int) : Prop :=
  (∀ i j, i < 4 → j < 4 → 0 ≤ x i j) ∧ (∀ i, i < 4 → s4 (x i) ≤ sp i) ∧ (∀ j, j < 4 → 0 ≤ y j ∧ y j ≤ zz nu (6 * j + 4) ∧ 0 ≤ z j) ∧ ∀ j, j < 4 → s4 (fun i => x i j) + y j + z j = lk j
def cstF (nu : Nat → Int32) (x : Nat → Nat → Int) (y z : Nat → Int) : Int := s4 (fun j => s4 (fun i => zz nu (24 + 4 * i + j) * x i j) + zz nu (6 * j + 3) * y j + zz nu 41 * z j)
theorem mul_mono {a b c : Int} (h : a ≤ b) (hc : 0 ≤ c) : a * c ≤ b * c := Int.mul_le_mul_of_nonneg_right h hc
theorem mul_mono_or {a b c : Int} (h : 0 < c → a ≤ b) (hc : 0 ≤ c) : a * c ≤ b * c := by
  by_cases h0 : 0 < c
  · exact mul_mono (h h0) hc
  · have : c = 0 := by omega
    subst this; simp
theorem uZ1_le (nu : Nat → Int32) (sp pr : Nat → Int) (j : Nat) (u : Int) (i : Nat) : uZ1 nu sp pr j u i ≤ u := by
  unfold uZ1
  split
  · split <;> omega
  · omega
theorem uZ1_i (nu : Nat → Int32) (sp pr : Nat → Int) (j : Nat) (u : Int) (i : Nat) (h : 0 < sp i) : uZ1 nu sp pr j u i ≤ pr i + zz nu (24 + 4 * i + j) := by
  unfold uZ1
  rw [if_pos h]
  split <;> omega
theorem uZ_l (nu : Nat → Int32) (sp pr : Nat → Int) (j : Nat) : uZ nu sp pr j ≤ zz nu 41 := by
  unfold uZ
  have h0 := uZ1_le nu sp pr j (zz nu 41) 0
  have h1 := uZ1_le nu sp pr j (uZ1 nu sp pr j (zz nu 41) 0) 1
  have h2 := uZ1_le nu sp pr j (uZ1 nu sp pr j (uZ1 nu sp pr j (zz nu 41) 0) 1) 2
  have h3 := uZ1_le nu sp pr j (uZ1 nu sp pr j (uZ1 nu sp pr j (uZ1 nu sp pr j (zz nu 41) 0) 1) 2) 3
  omega
theorem uZ_i (nu : Nat → Int32) (sp pr : Nat → Int) (j : Nat) {i : Nat} (hi : i < 4) (h : 0 < sp i) : uZ nu sp pr j ≤ pr i + zz nu (24 + 4 * i + j) := by
  unfold uZ
  have h1 := uZ1_le nu sp pr j (uZ1 nu sp pr j (zz nu 41) 0) 1
  have h2 := uZ1_le nu sp pr j (uZ1 nu sp pr j (uZ1 nu sp pr j (zz nu 41) 0) 1) 2
  have h3 := uZ1_le nu sp pr j (uZ1 nu sp pr j (uZ1 nu sp pr j (uZ1 nu sp pr j (zz nu 41) 0) 1) 2) 3
  match i, hi with
  | 0, _ => have := uZ1_i nu sp pr j (zz nu 41) 0 h; omega
  | 1, _ => have := uZ1_i nu sp pr j (uZ1 nu sp pr j (zz nu 41) 0) 1 h; omega
  | 2, _ => have := uZ1_i nu sp pr j (uZ1 nu sp pr j (uZ1 nu sp pr j (zz nu 41) 0) 1) 2 h; omega
  | 3, _ => exact uZ1_i nu sp pr j (uZ1 nu sp pr j (uZ1 nu sp pr j (uZ1 nu sp pr j (zz nu 41) 0) 1) 2) 3 h
theorem uZ1_ge (nu : Nat → Int32) (sp pr : Nat → Int) (j : Nat) {u b : Int} (i : Nat) (hu : b ≤ u) (h : 0 < sp i → b ≤ pr i + zz nu (24 + 4 * i + j)) : b ≤ uZ1 nu sp pr j u i := by
  unfold uZ1
  split
  · rename_i hs
    have := h hs
    split <;> omega
  · exact hu
theorem uZ_ge (nu : Nat → Int32) (sp pr : Nat → Int) (j : Nat) {b : Int} (h0 : b ≤ zz nu 41) (h : ∀ i, i < 4 → 0 < sp i → b ≤ pr i + zz nu (24 + 4 * i + j)) : b ≤ uZ nu sp pr j :=
  uZ1_ge nu sp pr j 3 (uZ1_ge nu sp pr j 2 (uZ1_ge nu sp pr j 1 (uZ1_ge nu sp pr j 0 h0 (h 0 (by omega))) (h 1 (by omega))) (h 2 (by omega))) (h 3 (by omega))
/-- one harbour that lacks: its part of the worth is no more than what it pays -/
theorem tZ_le {nu : Nat → Int32} {sp lk pr : Nat → Int} {x : Nat → Nat → Int} {y z : Nat → Int} (F : Flow nu sp lk x y z) (hp : ∀ i, i < 4 → 0 ≤ pr i) {j : Nat} (hj : j < 4) (hm : ∀ i, i < 4 → 0 ≤ zz nu (24 + 4 * i + j)) (hd : 0 ≤ zz nu (6 * j + 3)) (hl : 0 ≤ zz nu 41) :
    tZ nu sp lk pr j ≤ s4 (fun i => (pr i + zz nu (24 + 4 * i + j)) * x i j) + zz nu (6 * j + 3) * y j + zz nu 41 * z j := by
  obtain ⟨f1, f2, f3, f4⟩ := F
  obtain ⟨y0, y1, z0⟩ := f3 j hj
  have e := f4 j hj
  have xs : ∀ i, i < 4 → 0 < x i j → 0 < sp i := by
    intro i hi h
    have h1 := f2 i hi
    have a0 := f1 i 0 hi (by omega)
    have a1 := f1 i 1 hi (by omega)
    have a2 := f1 i 2 hi (by omega)
    have a3 := f1 i 3 hi (by omega)
    unfold s4 at h1
    match j, hj with
    | 0, _ => omega
    | 1, _ => omega
    | 2, _ => omega
    | 3, _ => omega
  have t : ∀ i, i < 4 → uZ nu sp pr j * x i j ≤ (pr i + zz nu (24 + 4 * i + j)) * x i j := fun i hi => mul_mono_or (fun h => uZ_i nu sp pr j hi (xs i hi h)) (f1 i j hi hj)
  have n : ∀ i, i < 4 → 0 ≤ (pr i + zz nu (24 + 4 * i + j)) * x i j := fun i hi => Int.mul_nonneg (by have := hp i hi; have := hm i hi; omega) (f1 i j hi hj)
  have tz : uZ nu sp pr j * z j ≤ zz nu 41 * z j := mul_mono (uZ_l nu sp pr j) z0
  have ny : 0 ≤ zz nu (6 * j + 3) * y j := Int.mul_nonneg hd y0
  have nz : 0 ≤ zz nu 41 * z j := Int.mul_nonneg hl z0
  have t0 := t 0 (by omega); have t1 := t 1 (by omega); have t2 := t 2 (by omega); have t3 := t 3 (by omega)
  have n0 := n 0 (by omega); have n1 := n 1 (by omega); have n2 := n 2 (by omega); have n3 := n 3 (by omega)
  have x0 := f1 0 j (by omega) hj; have x1 := f1 1 j (by omega) hj; have x2 := f1 2 j (by omega) hj; have x3 := f1 3 j (by omega) hj
  unfold tZ
  unfold s4 at e ⊢
  dsimp only at e ⊢
  generalize uZ nu sp pr j = u at *
  generalize zz nu (6 * j + 3) = d at *
  generalize zz nu (6 * j + 4) = c at *
  split
  · omega
  · by_cases hud : u ≤ d
    · have ty : u * y j ≤ d * y j := mul_mono hud y0
      have e1 : (if u < d then u else d) = u := by split <;> omega
      rw [e1, if_neg (by omega), ← e]
      simp only [Int.mul_add]
      omega
    · have e1 : (if u < d then u else d) = d := by split <;> omega
      rw [e1]
      have k : d * lk j + (if d < u ∧ 0 < lk j - c then (u - d) * (lk j - c) else 0) ≤ d * lk j + (u - d) * (lk j - y j) := by
        have a : 0 ≤ (u - d) * (lk j - y j) := Int.mul_nonneg (by omega) (by omega)
        split
        · have b : (lk j - c) * (u - d) ≤ (lk j - y j) * (u - d) := mul_mono (by omega) (by omega)
          rw [Int.mul_comm (u - d), Int.mul_comm (u - d)]
          omega
        · omega
      have k2 : d * lk j + (u - d) * (lk j - y j) = u * x 0 j + u * x 1 j + u * x 2 j + u * x 3 j + d * y j + u * z j := by
        rw [← e]
        have : x 0 j + x 1 j + x 2 j + x 3 j + y j + z j - y j = x 0 j + x 1 j + x 2 j + x 3 j + z j := by omega
        rw [this]
        simp only [Int.mul_add, Int.sub_mul]
        omega
      omega
/-- numbers in their bounds -/
def NumB (nu : Nat → Int32) : Prop := (∀ i, i < 43 → 0 ≤ zz nu i ∧ zz nu i ≤ 999) ∧ ∀ i, i < 40 → ¬ (i < 24 ∧ i % 6 = 2) → zz nu i ≤ 99
theorem weak {nu : Nat → Int32} {sp lk pr : Nat → Int} {x : Nat → Nat → Int} {y z : Nat → Int} (hn : NumB nu) (F : Flow nu sp lk x y z) (hp : ∀ i, i < 4 → 0 ≤ pr i) : wZ nu sp lk pr ≤ cstF nu x y z := by
  have hz : ∀ i, i < 43 → 0 ≤ zz nu i := fun i h => (hn.1 i h).1
  have q : ∀ j, j < 4 → _ := fun j hj => tZ_le F hp hj (fun i hi => hz _ (by omega)) (hz _ (by omega)) (hz 41 (by omega))
  have q0 := q 0 (by omega); have q1 := q 1 (by omega); have q2 := q 2 (by omega); have q3 := q 3 (by omega)
  have g : ∀ i, i < 4 → pr i * s4 (x i) ≤ pr i * sp i := fun i hi => by
    rw [Int.mul_comm, Int.mul_comm (pr i)]
    exact mul_mono (F.2.1 i hi) (hp i hi)
  have g0 := g 0 (by omega); have g1 := g 1 (by omega); have g2 := g 2 (by omega); have g3 := g 3 (by omega)
  unfold wZ cstF
  unfold s4 at *
  simp only [Int.mul_add, Int.add_mul] at *
  omega
/-- v is what is least LATER -/
def IsLat (nu : Nat → Int32) (sp lk : Nat → Int) (v : Int) : Prop := ∃ x y z, Flow nu sp lk x y z ∧ cstF nu x y z = v ∧ ∃ pr : Nat → Int, (∀ i, i < 4 → 0 ≤ pr i) ∧ v ≤ wZ nu sp lk pr
theorem IsLat.uniq {nu : Nat → Int32} {sp lk : Nat → Int} {v v' : Int} (hn : NumB nu) (h : IsLat nu sp lk v) (h' : IsLat nu sp lk v') : v = v' := by
  obtain ⟨x, y, z, F, rfl, pr, hp, hv⟩ := h
  obtain ⟨x', y', z', F', rfl, pr', hp', hv'⟩ := h'
  have a := weak hn F hp'
  have b := weak hn F' hp
  omega
theorem IsLat.nonneg {nu : Nat → Int32} {sp lk : Nat → Int} {v : Int} (hn : NumB nu) (h : IsLat nu sp lk v) : 0 ≤ v := by
  obtain ⟨x, y, z, F, rfl, -⟩ := h
  have hz : ∀ i, i < 43 → 0 ≤ zz nu i := fun i h => (hn.1 i h).1
  have a : ∀ i j, i < 4 → j < 4 → 0 ≤ zz nu (24 + 4 * i + j) * x i j := fun i j hi hj => Int.mul_nonneg (hz _ (by omega)) (F.1 i j hi hj)
  have b : ∀ j, j < 4 → 0 ≤ zz nu (6 * j + 3) * y j := fun j hj => Int.mul_nonneg (hz _ (by omega)) (F.2.2.1 j hj).1
  have c : ∀ j, j < 4 → 0 ≤ zz nu 41 * z j := fun j hj => Int.mul_nonneg (hz _ (by omega)) (F.2.2.1 j hj).2.2
  unfold cstF s4
  dsimp only
  have t : ∀ j, j < 4 → 0 ≤ zz nu (24 + 4 * 0 + j) * x 0 j + zz nu (24 + 4 * 1 + j) * x 1 j + zz nu (24 + 4 * 2 + j) * x 2 j + zz nu (24 + 4 * 3 + j) * x 3 j + zz nu (6 * j + 3) * y j + zz nu 41 * z j := by
    intro j hj
    have a0 := a 0 j (by omega) hj; have a1 := a 1 j (by omega) hj; have a2 := a 2 j (by omega) hj; have a3 := a 3 j (by omega) hj
    have b0 := b j hj; have c0 := c j hj
    omega
  have t0 := t 0 (by omega); have t1 := t 1 (by omega); have t2 := t 2 (by omega); have t3 := t 3 (by omega)
  omega
noncomputable def latZ (nu : Nat → Int32) (p w : Nat) : Int := @dite _ (∃ v, IsLat nu (spZ nu p w) (lkZ nu p w) v) (Classical.propDecidable _) (fun h => Classical.choose h) (fun _ => 0)
theorem latZ_eq {nu : Nat → Int32} {p w : Nat} {v : Int} (hn : NumB nu) (h : IsLat nu (spZ nu p w) (lkZ nu p w) v) : latZ nu p w = v := by
  unfold latZ
  have hx : ∃ v, IsLat nu (spZ nu p w) (lkZ nu p w) v := ⟨v, h⟩
  rw [dif_pos hx]
  exact IsLat.uniq hn (Classical.choose_spec hx) h
