/-! the class: one turn -/
theorem neg1_ne {g : Nat} (hg : g < 4) : ¬ nI g = -1 := by
  intro e
  have := congrArg Int32.toInt e
  rw [nI_toInt (by omega)] at this
  have e2 : (-1 : Int32).toInt = -1 := rfl
  omega
theorem room_e {N : Nat} {M : Mm} {ng k : Nat} {la d : Int} (hng : ng ≤ 4) (hk : k < 4) (e1 : M.1 40 1 = nI ng) (hW : WayP ng la (vF M) d (vS M) (vH M) k (M.1 48 k) (M.1 49 k)) :
    ∃ rm, f_X4_roomOf N (nI k) M = some (rm, M) ∧ 0 < rm.toInt ∧ ((M.1 49 k = -1 ∧ rm = M.1 45 k ∧ vP M k = d) ∨ (M.1 49 k = -2 ∧ rm = 198 ∧ vP M k = la) ∨ ∃ g, g < ng ∧ M.1 49 k = nI g ∧ rm = M.1 42 g ∧ vP M k = vF M g k) := by
  obtain ⟨-, -, -, h⟩ := hW
  unfold f_X4_roomOf
  simp (disch := omega) only [inb_n, ix_n, if_true]
  rcases h with ⟨h1, h2⟩ | ⟨h1, h2, h3⟩ | ⟨g, h1, h2, h3, h4⟩
  · rw [h1]
    exact ⟨198, rfl, by decide, Or.inr (Or.inl ⟨rfl, rfl, h2⟩)⟩
  · rw [h1]
    exact ⟨M.1 45 k, rfl, h2, Or.inl ⟨rfl, rfl, h3⟩⟩
  · rw [h2, if_neg (neg1_ne (by omega)), if_neg (nI_pos (by omega)), e1]
    simp (disch := omega) only [nlt, h1, if_true, inb_n, ix_n]
    exact ⟨M.1 42 g, rfl, h3, Or.inr (Or.inr ⟨g, h1, rfl, rfl, h4⟩)⟩
theorem ud_upd {f : Nat → Int32} {k : Nat} {x : Int32} {v : Int} (h : x.toInt = v) : (fun j => (upd f k x j).toInt) = ud (fun j => (f j).toInt) k v := by
  funext j
  unfold ud
  rw [upd_g]
  split
  · exact h
  · rfl
theorem ud2_upd {f : Nat → Int32} {g k : Nat} {x : Int32} {v : Int} (hk : k < 4) (h : x.toInt = v) : (fun i j => if j < 4 then (upd f (4 * g + k) x (4 * i + j)).toInt else 0) = ud2 (fun i j => if j < 4 then (f (4 * i + j)).toInt else 0) g k v := by
  funext i j
  unfold ud2
  dsimp only
  rw [upd_g]
  by_cases hj : j < 4
  · rw [if_pos hj, if_pos hj]
    by_cases e : i = g ∧ j = k
    · obtain ⟨rfl, rfl⟩ := e
      rw [if_pos rfl, if_pos ⟨rfl, rfl⟩]
      exact h
    · rw [if_neg e, if_neg (fun z => e (by omega))]
  · rw [if_neg hj, if_neg hj, if_neg (fun z => hj (by omega))]
/-- the numbers of a flow in their bounds -/
def SB (M : Mm) (ng nt : Nat) : Prop := (∀ g, g < ng → 0 ≤ vS M g ∧ vS M g ≤ 3000) ∧ (∀ g k, g < ng → k < nt → 0 ≤ vX M g k ∧ vX M g k ≤ 3000) ∧ ∀ k, k < nt → 0 ≤ vH M k ∧ vH M k ≤ 999
theorem go_e {N : Nat} {M : Mm} {ng nt k : Nat} {la : Int} {d P Zl : Nat → Int} {rm n : Int32} (hng : ng ≤ 4) (hnt : nt ≤ 4) (hk : k < nt) (e1 : M.1 40 1 = nI ng) (hB : SB M ng nt) (hn : 0 < n.toInt) (hn2 : n.toInt ≤ 198) (hr : n.toInt ≤ rm.toInt)
    (hR : (M.1 49 k = -1 ∧ rm = M.1 45 k ∧ P k = d k) ∨ (M.1 49 k = -2 ∧ rm = 198 ∧ P k = la) ∨ ∃ g, g < ng ∧ M.1 49 k = nI g ∧ rm = M.1 42 g ∧ P k = vF M g k) :
    ∃ M' Zl', f_X4_goOwnWay N (nI k) n M = some (0, M') ∧ Own ng la (vF M) d P k n.toInt (vS M) (vX M) (vH M) Zl (vS M') (vX M') (vH M') Zl' ∧ Fr [42, 45, 47] M M' := by
  obtain ⟨b1, b2, b3⟩ := hB
  unfold f_X4_goOwnWay
  simp (disch := omega) only [inb_n, ix_n, if_true, lt_eq]
  rcases hR with ⟨h1, h2, h3⟩ | ⟨h1, h2, h3⟩ | ⟨g, h0, h1, h2, h3⟩
  · rw [h1, if_pos rfl]
    have q : vH M k = (M.1 45 k).toInt := rfl
    have q2 := b3 k hk
    have e : (M.1 45 k - n).toInt = vH M k - n.toInt := by rw [i_sub (by omega) (by omega), q]
    refine ⟨wI M 45 k (M.1 45 k - n), Zl, rfl, ⟨hn, Or.inl ⟨by rw [q, ← h2]; exact hr, h3, ?_, ?_, ?_, rfl⟩⟩, (Fr.rf _ M).wI (by simp)⟩
    · unfold vS; simp [wI_g]
    · unfold vX; simp [wI_g]
    · have : vH (wI M 45 k (M.1 45 k - n)) = fun j => (upd (M.1 45) k (M.1 45 k - n) j).toInt := by unfold vH; simp [wI_g]
      rw [this, ud_upd e]; rfl
  · rw [h1]
    refine ⟨M, ud Zl k (Zl k + n.toInt), rfl, ⟨hn, Or.inr (Or.inl ⟨h3, rfl, rfl, rfl, rfl⟩)⟩, Fr.rf _ M⟩
  · rw [h1, if_neg (neg1_ne (by omega)), if_neg (nI_pos (by omega)), e1]
    simp (disch := omega) only [nlt, h0, if_true, inb_n, ix_n, mul4, nI_add]
    have qs : vS M g = (M.1 42 g).toInt := rfl
    have qs2 := b1 g h0
    have e : (M.1 42 g - n).toInt = vS M g - n.toInt := by rw [i_sub (by omega) (by omega), qs]
    have qx : vX M g k = (M.1 47 (4 * g + k)).toInt := by unfold vX; rw [if_pos (by omega)]
    have qx2 := b2 g k h0 hk
    have ex : (M.1 47 (4 * g + k) + n).toInt = vX M g k + n.toInt := by rw [i_add (by omega) (by omega), qx]
    have w47 : (wI M 42 g (M.1 42 g - n)).1 47 = M.1 47 := by simp [wI_g]
    rw [w47]
    refine ⟨wI (wI M 42 g (M.1 42 g - n)) 47 (4 * g + k) (M.1 47 (4 * g + k) + n), Zl, rfl, ⟨hn, Or.inr (Or.inr ⟨g, h0, by rw [qs, ← h2]; exact hr, h3, ?_, ?_, ?_, rfl⟩)⟩, ((Fr.rf _ M).wI (by simp)).wI (by simp)⟩
    · have : vS (wI (wI M 42 g (M.1 42 g - n)) 47 (4 * g + k) (M.1 47 (4 * g + k) + n)) = fun j => (upd (M.1 42) g (M.1 42 g - n) j).toInt := by unfold vS; simp [wI_g]
      rw [this, ud_upd e]; rfl
    · have : vX (wI (wI M 42 g (M.1 42 g - n)) 47 (4 * g + k) (M.1 47 (4 * g + k) + n)) = fun i j => if j < 4 then (upd (M.1 47) (4 * g + k) (M.1 47 (4 * g + k) + n) (4 * i + j)).toInt else 0 := by unfold vX; simp [wI_g]
      rw [this, ud2_upd (by omega) ex]; rfl
    · unfold vH; simp [wI_g]
