/-! the reference's reckoner of texts: signs that wait, values -/
def Stk (f : Nat → Int32) : List Int32 → Prop
  | [] => True
  | x :: r => f r.length = x ∧ Stk f r
theorem Stk.keep {f : Nat → Int32} {k : Nat} {x : Int32} : ∀ {r : List Int32}, r.length ≤ k → Stk f r → Stk (upd f k x) r := by
  intro r
  induction r with
  | nil => intro _ _; exact True.intro
  | cons y r ih =>
    intro h hs
    have h' : r.length + 1 ≤ k := h
    refine ⟨?_, ih (by omega) hs.2⟩
    rw [upd_ne (by omega)]
    exact hs.1
theorem Stk.push {f : Nat → Int32} {x : Int32} {r : List Int32} (h : Stk f r) : Stk (upd f r.length x) (x :: r) := ⟨upd_at _ _ _, h.keep (Nat.le_refl _)⟩
def AS (M0 : Mm) (i : Nat) (ws vs : List Int32) (M : Mm) : Prop := Fr [0, 13, 14] M0 M ∧ (∀ k, k ≠ 20 → k ≠ 21 → k ≠ 22 → M.1 0 k = M0.1 0 k) ∧ M.1 0 22 = nI i ∧ M.1 0 20 = nI ws.length ∧ M.1 0 21 = nI vs.length ∧ Stk (M.1 13) ws ∧ Stk (M.1 14) vs ∧ i ≤ 40 ∧ ws.length ≤ i ∧ vs.length ≤ i
def rkN (b : Int32) : Nat := if b = 40 then 0 else if b = 124 then 1 else if b = 38 then 2 else if b = 33 then 3 else if b = 42 then 5 else 4
def opI (b x y : Int32) : Int32 := if b = 124 then x ||| y else if b = 38 then x &&& y else if b = 42 then x * y else if b = 43 then x + y else x - y
def apO (b : Int32) (vs : List Int32) : Option (List Int32) := if b = 33 then (match vs with
    | x :: r => some ((1 - x) :: r)
    | _ => none) else (match vs with
    | y :: x :: r => some (opI b x y :: r)
    | _ => none)
def wk (le : Nat) : List Int32 → List Int32 → Option (List Int32 × List Int32)
  | [], vs => some ([], vs)
  | b :: ws, vs => if rkN b < le then some (b :: ws, vs) else (match apO b vs with
    | none => none
    | some vs' => wk le ws vs')
theorem rank_e {N : Nat} {M : Mm} (b : Int32) : f_X12_rank N b M = some (nI (rkN b), M) := by
  unfold f_X12_rank rkN
  split
  · rfl
  · split
    · rfl
    · split
      · rfl
      · split
        · rfl
        · split <;> rfl
theorem rkN_5 (b : Int32) : rkN b ≤ 5 := by
  unfold rkN
  split
  · omega
  · split
    · omega
    · split
      · omega
      · split
        · omega
        · split <;> omega
theorem dec1 (k : Nat) : nI (k + 1) - 1 = nI k := by
  show nI (k + 1) - nI 1 = _
  rw [nI_subl (by omega)]
  rfl
section Wk
variable {N : Nat} {M0 M : Mm} {i : Nat} {ws vs : List Int32}
theorem AS.push (h : AS M0 i ws vs M) (hl : vs.length < i) (x : Int32) : ∃ M', f_X12_push N x M = some (0, M') ∧ AS M0 i ws (x :: vs) M' := by
  obtain ⟨a1, a2, a3, a4, a5, a6, a7, a8, a9, a10⟩ := h
  refine ⟨wI (wI M 14 vs.length x) 0 21 (nI (vs.length + 1)), ?_, (a1.wI (by simp)).wI (by simp), fun k k1 k2 k3 => ?_, ?_, ?_, ?_, ?_, ?_, a8, a9, ?_⟩
  · unfold f_X12_push
    rw [a5, inb_n (by omega) (by omega), ix_n (by omega)]
    simp only [if_true, lt_eq]
    have e : (wI M 14 vs.length x).1 0 21 = nI vs.length := by rw [wI_g, if_neg (by omega)]; exact a5
    rw [e, nI_1]
  · rw [← a2 k k1 k2 k3]; simp [wI_g, upd_g, k2]
  · rw [← a3]; simp [wI_g, upd_g]
  · rw [← a4]; simp [wI_g, upd_g]
  · simp [wI_g, upd_g]
  · have e : (wI (wI M 14 vs.length x) 0 21 (nI (vs.length + 1))).1 13 = M.1 13 := by simp [wI_g]
    rw [e]; exact a6
  · have e : (wI (wI M 14 vs.length x) 0 21 (nI (vs.length + 1))).1 14 = upd (M.1 14) vs.length x := by simp [wI_g]
    rw [e]; exact a7.push
  · show vs.length + 1 ≤ i; omega
theorem AS.wait (h : AS M0 i ws vs M) (hl : ws.length < i) (x : Int32) : ∃ M', f_X12_waitsFor N x M = some (0, M') ∧ AS M0 i (x :: ws) vs M' := by
  obtain ⟨a1, a2, a3, a4, a5, a6, a7, a8, a9, a10⟩ := h
  refine ⟨wI (wI M 13 ws.length x) 0 20 (nI (ws.length + 1)), ?_, (a1.wI (by simp)).wI (by simp), fun k k1 k2 k3 => ?_, ?_, ?_, ?_, ?_, ?_, a8, ?_, a10⟩
  · unfold f_X12_waitsFor
    rw [a4, inb_n (by omega) (by omega), ix_n (by omega)]
    simp only [if_true, lt_eq]
    have e : (wI M 13 ws.length x).1 0 20 = nI ws.length := by rw [wI_g, if_neg (by omega)]; exact a4
    rw [e, nI_1]
  · rw [← a2 k k1 k2 k3]; simp [wI_g, upd_g, k1]
  · rw [← a3]; simp [wI_g, upd_g]
  · simp [wI_g, upd_g]
  · rw [← a5]; simp [wI_g, upd_g]
  · have e : (wI (wI M 13 ws.length x) 0 20 (nI (ws.length + 1))).1 13 = upd (M.1 13) ws.length x := by simp [wI_g]
    rw [e]; exact a6.push
  · have e : (wI (wI M 13 ws.length x) 0 20 (nI (ws.length + 1))).1 14 = M.1 14 := by simp [wI_g]
    rw [e]; exact a7
  · show ws.length + 1 ≤ i; omega
/-- a waiting sign goes -/
theorem AS.drop {b : Int32} (h : AS M0 i (b :: ws) vs M) : AS M0 i ws vs (wI M 0 20 (nI ws.length)) := by
  obtain ⟨a1, a2, a3, a4, a5, a6, a7, a8, a9, a10⟩ := h
  refine ⟨a1.wI (by simp), fun k k1 k2 k3 => ?_, ?_, ?_, ?_, ?_, ?_, a8, ?_, a10⟩
  · rw [← a2 k k1 k2 k3]; simp [wI_g, upd_g, k1]
  · rw [← a3]; simp [wI_g, upd_g]
  · simp [wI_g, upd_g]
  · rw [← a5]; simp [wI_g, upd_g]
  · have e : (wI M 0 20 (nI ws.length)).1 13 = M.1 13 := by simp [wI_g]
    rw [e]; exact a6.2
  · have e : (wI M 0 20 (nI ws.length)).1 14 = M.1 14 := by simp [wI_g]
    rw [e]; exact a7
  · have : ws.length + 1 ≤ i := a9
    omega
/-- the place goes on -/
theorem AS.step (h : AS M0 i ws vs M) {j : Nat} (hij : i ≤ j) (hj : j ≤ 40) : AS M0 j ws vs (wI M 0 22 (nI j)) := by
  obtain ⟨a1, a2, a3, a4, a5, a6, a7, a8, a9, a10⟩ := h
  refine ⟨a1.wI (by simp), fun k k1 k2 k3 => ?_, ?_, ?_, ?_, ?_, ?_, hj, by omega, by omega⟩
  · rw [← a2 k k1 k2 k3]; simp [wI_g, upd_g, k3]
  · simp [wI_g, upd_g]
  · rw [← a4]; simp [wI_g, upd_g]
  · rw [← a5]; simp [wI_g, upd_g]
  · have e : (wI M 0 22 (nI j)).1 13 = M.1 13 := by simp [wI_g]
    rw [e]; exact a6
  · have e : (wI M 0 22 (nI j)).1 14 = M.1 14 := by simp [wI_g]
    rw [e]; exact a7
/-- the topmost value becomes another -/
theorem AS.un {x y : Int32} (h : AS M0 i ws (x :: vs) M) : AS M0 i ws (y :: vs) (wI M 14 vs.length y) := by
  obtain ⟨a1, a2, a3, a4, a5, a6, a7, a8, a9, a10⟩ := h
  refine ⟨a1.wI (by simp), fun k k1 k2 k3 => ?_, ?_, ?_, ?_, ?_, ?_, a8, a9, a10⟩
  · rw [← a2 k k1 k2 k3]; simp [wI_g]
  · rw [← a3]; simp [wI_g]
  · rw [← a4]; simp [wI_g]
  · rw [wI_g, if_neg (by omega)]; exact a5
  · have e : (wI M 14 vs.length y).1 13 = M.1 13 := by simp [wI_g]
    rw [e]; exact a6
  · have e : (wI M 14 vs.length y).1 14 = upd (M.1 14) vs.length y := by simp [wI_g]
    rw [e]; exact a7.2.push
theorem AS.bi {x y z : Int32} (h : AS M0 i ws (y :: x :: vs) M) : AS M0 i ws (z :: vs) (wI (wI M 0 21 (nI (vs.length + 1))) 14 vs.length z) := by
  obtain ⟨a1, a2, a3, a4, a5, a6, a7, a8, a9, a10⟩ := h
  refine ⟨(a1.wI (by simp)).wI (by simp), fun k k1 k2 k3 => ?_, ?_, ?_, ?_, ?_, ?_, a8, a9, ?_⟩
  · rw [← a2 k k1 k2 k3]; simp [wI_g, upd_g, k2]
  · rw [← a3]; simp [wI_g, upd_g]
  · rw [← a4]; simp [wI_g, upd_g]
  · simp [wI_g, upd_g]
  · have e : (wI (wI M 0 21 (nI (vs.length + 1))) 14 vs.length z).1 13 = M.1 13 := by simp [wI_g]
    rw [e]; exact a6
  · have e : (wI (wI M 0 21 (nI (vs.length + 1))) 14 vs.length z).1 14 = upd (M.1 14) vs.length z := by simp [wI_g]
    rw [e]; exact a7.2.2.push
  · have : vs.length + 1 + 1 ≤ i := a10
    show vs.length + 1 ≤ i
    omega
theorem works_l (le : Nat) (hle : le ≤ 5) : ∀ (ws vs : List Int32) (M : Mm) (m : Nat), ws.length < m → AS M0 i ws vs M → ∀ ws' vs', wk le ws vs = some (ws', vs') → ∃ M', itr (B_X12_works_0 N (nI le) fun z12 M13 => some (0, M13)) m () M = some (0, M') ∧ AS M0 i ws' vs' M' := by
  intro ws
  induction ws with
  | nil =>
    intro vs M m hm h ws' vs' hw
    obtain ⟨m', rfl⟩ : ∃ m', m = m' + 1 := ⟨m - 1, by have : (0 : Nat) < m := hm; omega⟩
    cases hw
    refine ⟨M, ?_, h⟩
    rw [itr_s]
    unfold B_X12_works_0
    rw [h.2.2.2.1, if_neg (by decide)]
  | cons b ws ih =>
    intro vs M m hm h ws' vs' hw
    have hm' : ws.length + 1 < m := hm
    obtain ⟨m', rfl⟩ : ∃ m', m = m' + 1 := ⟨m - 1, by omega⟩
    have hlen : ws.length + 1 ≤ i := h.2.2.2.2.2.2.2.2.1
    have hi40 := h.2.2.2.2.2.2.2.1
    have e20 : M.1 0 20 = nI (ws.length + 1) := h.2.2.2.1
    have e13 : M.1 13 ws.length = b := h.2.2.2.2.2.1.1
    unfold wk at hw
    rw [itr_s]
    unfold B_X12_works_0
    rw [e20, if_pos (by rw [gt0 (by omega)]; omega), dec1, inb_n (by omega) (by omega), ix_n (by omega), e13, if_pos rfl, bd_of (rank_e b)]
    have r5 := rkN_5 b
    by_cases hr : rkN b < le
    · rw [if_pos hr] at hw
      cases hw
      rw [if_pos (by rw [nlt (by omega) (by omega)]; exact hr)]
      exact ⟨M, rfl, h⟩
    · rw [if_neg hr] at hw
      rw [if_neg (by rw [nlt (by omega) (by omega)]; exact hr)]
      simp only [lt_eq]
      rw [e20, dec1]
      have hD := h.drop
      generalize hM3 : wI M 0 20 (nI ws.length) = M3 at hD
      have f20 : M3.1 0 20 = nI ws.length := hD.2.2.2.1
      have f13 : M3.1 13 ws.length = b := by rw [← hM3, wI_g, if_neg (by omega)]; exact e13
      rw [f20, inb_n (by omega) (by omega), ix_n (by omega), f13, if_pos rfl]
      unfold apO at hw
      by_cases h33 : b = 33
      · rw [if_pos h33] at hw
        rw [if_pos h33]
        cases vs with
        | nil => cases hw
        | cons x r =>
          have hl : r.length + 1 ≤ i := h.2.2.2.2.2.2.2.2.2
          have f21 : M3.1 0 21 = nI (r.length + 1) := hD.2.2.2.2.1
          have f14 : M3.1 14 r.length = x := hD.2.2.2.2.2.2.1.1
          rw [f21, dec1, inb_n (by omega) (by omega), ix_n (by omega), f14]
          simp only [if_true]
          exact ih _ _ m' (by omega) hD.un ws' vs' hw
      · rw [if_neg h33] at hw
        rw [if_neg h33]
        cases vs with
        | nil => cases hw
        | cons y vs =>
          cases vs with
          | nil => cases hw
          | cons x r =>
            have hl : r.length + 1 + 1 ≤ i := h.2.2.2.2.2.2.2.2.2
            have f21 : M3.1 0 21 = nI (r.length + 1 + 1) := hD.2.2.2.2.1
            have f14 : M3.1 14 (r.length + 1) = y := hD.2.2.2.2.2.2.1.1
            have g14 : M3.1 14 r.length = x := hD.2.2.2.2.2.2.1.2.1
            rw [f21, dec1]
            have w21 : (wI M3 0 21 (nI (r.length + 1))).1 0 21 = nI (r.length + 1) := by simp [wI_g, upd_g]
            have w14 : (wI M3 0 21 (nI (r.length + 1))).1 14 = M3.1 14 := by simp [wI_g]
            rw [w21, dec1, w14, inb_n (by omega) (by omega), inb_n (by omega) (by omega), ix_n (by omega), ix_n (by omega), f14, g14]
            simp only [if_true]
            have go : ∀ z, opI b x y = z → ∃ M', itr (B_X12_works_0 N (nI le) fun z12 M13 => some (0, M13)) m' () (wI (wI M3 0 21 (nI (r.length + 1))) 14 r.length z) = some (0, M') ∧ AS M0 i ws' vs' M' := by
              intro z hz
              subst hz
              exact ih _ _ m' (by omega) hD.bi ws' vs' hw
            unfold opI at go
            by_cases c1 : b = 124
            · rw [if_pos c1]; rw [if_pos c1] at go; exact go _ rfl
            · rw [if_neg c1]; rw [if_neg c1] at go
              by_cases c2 : b = 38
              · rw [if_pos c2]; rw [if_pos c2] at go; exact go _ rfl
              · rw [if_neg c2]; rw [if_neg c2] at go
                by_cases c3 : b = 42
                · rw [if_pos c3]; rw [if_pos c3] at go; exact go _ rfl
                · rw [if_neg c3]; rw [if_neg c3] at go
                  by_cases c4 : b = 43
                  · rw [if_pos c4]; rw [if_pos c4] at go; exact go _ rfl
                  · rw [if_neg c4]; rw [if_neg c4] at go; exact go _ rfl
theorem works_e (hN : 100000 ≤ N) {le : Nat} (hle : le ≤ 5) (h : AS M0 i ws vs M) {ws' vs' : List Int32} (hw : wk le ws vs = some (ws', vs')) : ∃ M', f_X12_works N (nI le) M = some (0, M') ∧ AS M0 i ws' vs' M' :=
  works_l le hle ws vs M N (by have := h.2.2.2.2.2.2.2.2.1; have := h.2.2.2.2.2.2.2.1; omega) h ws' vs' hw
end Wk
