/-! the class: the cheapest way that is open to a taker -/
/-- what was chosen so far, of givers below a, and of giver a from takers below b -/
def Ch (a b t : Nat) (F X : Nat → Nat → Int) (P : Nat → Int) (ls ot fr : Int32) : Prop :=
  ls.toInt ≤ P t ∧ (∀ g k, (g < a ∨ (g = a ∧ k < b)) → k < t → 0 < X g k → ls.toInt ≤ P k - F g k + F g t) ∧ ((ot = nI t ∧ ls.toInt = P t) ∨ ∃ g k, (g < a ∨ (g = a ∧ k < b)) ∧ k < t ∧ ot = nI k ∧ fr = nI g ∧ 0 < X g k ∧ ls.toInt = P k - F g k + F g t)
def vP (M : Mm) : Nat → Int := fun k => (M.1 48 k).toInt
/-- fares and prices in their bounds -/
def FB (M : Mm) (ng nt m : Nat) : Prop := (∀ g k, g < ng → k < nt → 0 ≤ vF M g k ∧ vF M g k ≤ 99) ∧ ∀ k, k < m → -999 ≤ vP M k ∧ vP M k ≤ 999
theorem choose1 {N : Nat} (hN : 100000 ≤ N) {M : Mm} {ng nt t g : Nat} {ls ot fr : Int32} (hng : ng ≤ 4) (hnt : nt ≤ 4) (ht : t < nt) (hg : g < ng) (hB : FB M ng nt (t + 1)) (hc : Ch g 0 t (vF M) (vX M) (vP M) ls ot fr) (G : (Int32 × Int32 × Int32) → Mm → Rs) :
    ∃ ls' ot' fr', itr (B_X4_serve_27 N (nI t) (nI g) G) N (ls, ot, fr, 0) M = G (ls', ot', fr') M ∧ Ch (g + 1) 0 t (vF M) (vX M) (vP M) ls' ot' fr' := by
  obtain ⟨s', M', rec, ⟨ls', ot', fr', hs, hM, hc'⟩, he⟩ := itr_go (B := B_X4_serve_27 N (nI t) (nI g) G) (fun j s M' => ∃ ls' ot' fr', s = (ls', ot', fr', nI j) ∧ M' = M ∧ Ch g j t (vF M) (vX M) (vP M) ls' ot' fr') t
    (fun rec j s M1 hj ⟨ls', ot', fr', hs, hM, h1, h2, h3⟩ => by
      subst hs; subst hM
      have hx : vX M1 g j = (M1.1 47 (4 * g + j)).toInt := by unfold vX; rw [if_pos (by omega)]
      have b1 := hB.1 g j hg (by omega)
      have b2 := hB.1 g t hg ht
      have b3 := hB.2 j (by omega)
      have e1 : vF M1 g j = (M1.1 46 (4 * g + j)).toInt := rfl
      have e2 : vF M1 g t = (M1.1 46 (4 * g + t)).toInt := rfl
      have e3 : vP M1 j = (M1.1 48 j).toInt := rfl
      have q1 : (M1.1 48 j - M1.1 46 (4 * g + j)).toInt = (M1.1 48 j).toInt - (M1.1 46 (4 * g + j)).toInt := i_sub (by omega) (by omega)
      have q2 : (M1.1 48 j - M1.1 46 (4 * g + j) + M1.1 46 (4 * g + t)).toInt = vP M1 j - vF M1 g j + vF M1 g t := by rw [i_add (by rw [q1]; omega) (by rw [q1]; omega), q1, e1, e2, e3]
      have keep : ¬ (0 < vX M1 g j ∧ vP M1 j - vF M1 g j + vF M1 g t < ls'.toInt) → Ch g (j + 1) t (vF M1) (vX M1) (vP M1) ls' ot' fr' := by
        intro hno
        refine ⟨h1, fun g' k' hgk hk' hx' => ?_, ?_⟩
        · by_cases e : g' = g ∧ k' = j
          · obtain ⟨rfl, rfl⟩ := e
            have : ¬ vP M1 k' - vF M1 g' k' + vF M1 g' t < ls'.toInt := fun z => hno ⟨hx', z⟩
            omega
          · exact h2 g' k' (by omega) hk' hx'
        · rcases h3 with h | ⟨g', k', a1, a2⟩
          · exact Or.inl h
          · exact Or.inr ⟨g', k', by omega, a2⟩
      by_cases hpos : 0 < (M1.1 47 (4 * g + j)).toInt
      · by_cases hlt : (M1.1 48 j - M1.1 46 (4 * g + j) + M1.1 46 (4 * g + t)).toInt < ls'.toInt
        · refine ⟨(M1.1 48 j - M1.1 46 (4 * g + j) + M1.1 46 (4 * g + t), nI j, nI g, nI (j + 1)), M1, ⟨_, _, _, rfl, rfl, ?_, fun g' k' hgk hk' hx' => ?_, Or.inr ⟨g, j, by omega, hj, rfl, rfl, by rw [hx]; exact hpos, q2⟩⟩, ?_⟩
          · omega
          · by_cases e : g' = g ∧ k' = j
            · obtain ⟨rfl, rfl⟩ := e
              omega
            · have := h2 g' k' (by omega) hk' hx'
              omega
          · unfold B_X4_serve_27
            simp (disch := omega) only [nlt, hj, if_true, inb_n, ix_n, mul4, nI_add, lt_eq, zI, hpos]
            rw [if_pos (by rw [toI_lt]; exact hlt), nI_1]
        · refine ⟨(ls', ot', fr', nI (j + 1)), M1, ⟨_, _, _, rfl, rfl, keep (fun z => hlt (by rw [q2]; exact z.2))⟩, ?_⟩
          unfold B_X4_serve_27
          simp (disch := omega) only [nlt, hj, if_true, inb_n, ix_n, mul4, nI_add, lt_eq, zI, hpos]
          rw [if_neg (by rw [toI_lt]; exact hlt), nI_1]
      · refine ⟨(ls', ot', fr', nI (j + 1)), M1, ⟨_, _, _, rfl, rfl, keep (fun z => hpos (by rw [← hx]; exact z.1))⟩, ?_⟩
        unfold B_X4_serve_27
        simp (disch := omega) only [nlt, hj, if_true, inb_n, ix_n, mul4, nI_add, lt_eq, zI, hpos, if_false, nI_1]) N 0 (ls, ot, fr, 0) M (by omega) (by omega) ⟨ls, ot, fr, by rw [nI_0], rfl, hc⟩
  subst hs; subst hM
  obtain ⟨c1, c2, c3⟩ := hc'
  refine ⟨ls', ot', fr', ?_, c1, fun g' k' hgk hk' hx' => c2 g' k' (by omega) hk' hx', ?_⟩
  · rw [he]
    unfold B_X4_serve_27
    simp (disch := omega) only [nlt, Nat.lt_irrefl, if_false]
  · rcases c3 with h | ⟨g', k', a1, a2⟩
    · exact Or.inl h
    · exact Or.inr ⟨g', k', by omega, a2⟩
theorem choose2 {N : Nat} (hN : 100000 ≤ N) {M : Mm} {ng nt t : Nat} (hng : ng ≤ 4) (hnt : nt ≤ 4) (ht : t < nt) (e1 : M.1 40 1 = nI ng) (hB : FB M ng nt (t + 1)) (G : (Int32 × Int32 × Int32) → Mm → Rs) :
    ∃ ls' ot' fr', itr (B_X4_serve_15 N (nI t) G) N (M.1 48 t, nI t, 0, 0) M = G (ls', ot', fr') M ∧ Ch ng 0 t (vF M) (vX M) (vP M) ls' ot' fr' := by
  obtain ⟨s', M', rec, ⟨ls', ot', fr', hs, hM, hc'⟩, he⟩ := itr_go (B := B_X4_serve_15 N (nI t) G) (fun j s M' => ∃ ls' ot' fr', s = (ls', ot', fr', nI j) ∧ M' = M ∧ Ch j 0 t (vF M) (vX M) (vP M) ls' ot' fr') ng
    (fun rec j s M1 hj ⟨ls', ot', fr', hs, hM, hc⟩ => by
      subst hs; subst hM
      obtain ⟨l2, o2, f2, q1, q2⟩ := choose1 hN hng hnt ht hj hB hc (fun z2 M3 => rec (z2.1, z2.2.1, z2.2.2, nI j + 1) M3)
      refine ⟨(l2, o2, f2, nI (j + 1)), M1, ⟨_, _, _, rfl, rfl, q2⟩, ?_⟩
      unfold B_X4_serve_15
      rw [e1]
      simp (disch := omega) only [nlt, hj, if_true]
      rw [q1, nI_1]) N 0 (M.1 48 t, nI t, 0, 0) M (by omega) (by omega) ⟨M.1 48 t, nI t, 0, by rw [nI_0], rfl, Int.le_refl _, fun g k h => absurd h (by omega), Or.inl ⟨rfl, rfl⟩⟩
  subst hs; subst hM
  refine ⟨ls', ot', fr', ?_, hc'⟩
  rw [he]
  unfold B_X4_serve_15
  rw [e1]
  simp (disch := omega) only [nlt, Nat.lt_irrefl, if_false]
