/-! the reference: what is spare and lacks, what prices are worth -/
theorem there_e {N : Nat} {M : Mm} {h : Nat} (hh : h < 4) : f_X12_isThere N (nI h) M = some (if M.1 2 (43 + h) = 1 then 1 else 0, M) := by
  unfold f_X12_isThere
  rw [if_neg (nI_pos (by omega)), if_pos (by rw [lt4 (by omega)]; exact hh), ladd43, inb_n (by omega) (by omega), ix_n (by omega), if_pos rfl]
  split <;> rfl
theorem flacks {N : Nat} (hN : 100000 ≤ N) {M : Mm} {p w : Nat} (hn : NumB (M.1 2)) (hp : p < 256) (hw : w < 16) (hT : ∀ h, h < 4 → ¬ M.1 2 (43 + h) = 1 → balZ (M.1 2) p w h = 0) :
    ∃ M', f_X12_findLacks N (nI p) (nI w) M = some (0, M') ∧ Fr [15, 16] M M' ∧ ∀ h, h < 4 → (M'.1 15 h).toInt = spZ (M.1 2) p w h ∧ (M'.1 16 h).toInt = lkZ (M.1 2) p w h := by
  obtain ⟨s', M', rec, ⟨hs, hF, hv⟩, he⟩ := itr_go (B := B_X12_findLacks_2 N (nI p) (nI w) fun _ M15 => some (0, M15)) (fun j s M' => s = nI j ∧ Fr [15, 16] M M' ∧ ∀ h, h < j → (M'.1 15 h).toInt = spZ (M.1 2) p w h ∧ (M'.1 16 h).toInt = lkZ (M.1 2) p w h) 4
    (fun rec j s M1 hj ⟨hs, hF, hv⟩ => by
      subst hs
      have e2 : M1.1 2 = M.1 2 := hF.1 2 (by simp)
      -- what is told of a harbour with this balance
      have key : ∀ x : Int32, x.toInt = balZ (M.1 2) p w j → ∃ s' M', (s' = nI (j + 1) ∧ Fr [15, 16] M M' ∧ ∀ h, h < j + 1 → (M'.1 15 h).toInt = spZ (M.1 2) p w h ∧ (M'.1 16 h).toInt = lkZ (M.1 2) p w h) ∧ (if 0 < x then (if x < 0 then rec (nI j + 1) (wI (wI M1 15 j x) 16 j (-x)) else rec (nI j + 1) (wI (wI M1 15 j x) 16 j 0)) else (if x < 0 then rec (nI j + 1) (wI (wI M1 15 j 0) 16 j (-x)) else rec (nI j + 1) (wI (wI M1 15 j 0) 16 j 0))) = rec s' M' := by
        intro x hx
        have hb := balZ_b hn p w hj
        have gen : ∀ a b : Int32, a.toInt = spZ (M.1 2) p w j → b.toInt = lkZ (M.1 2) p w j → ∃ s' M', (s' = nI (j + 1) ∧ Fr [15, 16] M M' ∧ ∀ h, h < j + 1 → (M'.1 15 h).toInt = spZ (M.1 2) p w h ∧ (M'.1 16 h).toInt = lkZ (M.1 2) p w h) ∧ rec (nI j + 1) (wI (wI M1 15 j a) 16 j b) = rec s' M' := by
          intro a b ha hb'
          refine ⟨nI (j + 1), wI (wI M1 15 j a) 16 j b, ⟨rfl, (hF.wI (by simp)).wI (by simp), fun h hh => ?_⟩, by rw [nI_1]⟩
          by_cases e : h = j
          · subst e
            simp [wI_g, upd_g, ha, hb']
          · have := hv h (by omega)
            simp [wI_g, upd_g, e, this]
        simp only [zI, zL, hx]
        unfold spZ lkZ at gen
        by_cases h1 : 0 < balZ (M.1 2) p w j
        · rw [if_pos h1, if_neg (by omega)]
          rw [if_pos h1, if_neg (by omega)] at gen
          exact gen x 0 hx rfl
        · rw [if_neg h1]
          rw [if_neg h1] at gen
          by_cases h2 : balZ (M.1 2) p w j < 0
          · rw [if_pos h2]
            rw [if_pos h2] at gen
            exact gen 0 (-x) rfl (by rw [i_neg (by omega), hx])
          · rw [if_neg h2]
            rw [if_neg h2] at gen
            exact gen 0 0 rfl rfl
      unfold B_X12_findLacks_2
      simp (disch := omega) only [lt4, hj, if_true, inb_n, ix_n, lt_eq]
      rw [bd_of (there_e hj), e2]
      by_cases ht : M.1 2 (43 + j) = 1
      · rw [if_pos ht, if_neg (by decide)]
        rw [bd_of (show f_X12_ferries N (nI p) (nI j) M1 = some (nI (p / 4 ^ j % 4), M1) by unfold f_X12_ferries; rw [fer_e p hp j hj])]
        simp (disch := omega) only [lmul6, nI_1, inb_n, ix_n, if_true, wbt_e w hw j hj]
        rw [e2]
        have i40 : ix (40 : Int32) = 40 := rfl
        rw [i40]
        have z40 := hn.1 40 (by omega)
        have a := mul_b (fer_b (p := p) (h := j)).1 (fer_b (p := p) (h := j)).2 z40.1 z40.2
        have b := mul_b (wbt_b (w := w) (h := j)).1 (wbt_b (w := w) (h := j)).2 (hn.1 (6 * j + 1) (by omega)).1 (hn.2 (6 * j + 1) (by omega) (by omega))
        have e := hn.2 (6 * j) (by omega) (by omega)
        have f := (hn.1 (6 * j) (by omega)).1
        unfold zz at a b e f
        have m1 : (nI (p / 4 ^ j % 4) * M.1 2 40).toInt = fer p j * (M.1 2 40).toInt := by rw [i_mul (by rw [fer_t]; omega) (by rw [fer_t]; omega), fer_t]
        have m2 : (nI (w / 2 ^ j % 2) * M.1 2 (6 * j + 1)).toInt = wbt w j * (M.1 2 (6 * j + 1)).toInt := by rw [i_mul (by rw [wbt_t]; omega) (by rw [wbt_t]; omega), wbt_t]
        have m3 : (nI (p / 4 ^ j % 4) * M.1 2 40 - M.1 2 (6 * j)).toInt = fer p j * (M.1 2 40).toInt - (M.1 2 (6 * j)).toInt := by rw [i_sub (by rw [m1]; omega) (by rw [m1]; omega), m1]
        have k := key (nI (p / 4 ^ j % 4) * M.1 2 40 - M.1 2 (6 * j) - nI (w / 2 ^ j % 2) * M.1 2 (6 * j + 1)) (by rw [i_sub (by rw [m3, m2]; omega) (by rw [m3, m2]; omega), m3, m2]; rfl)
        rw [nI_1] at k
        exact k
      · rw [if_neg ht, if_pos rfl]
        exact key 0 (by rw [hT j hj ht]; rfl)) N 0 0 M (by omega) (by omega) ⟨nI_0.symm, Fr.rf _ _, fun i h => absurd h (by omega)⟩
  subst hs
  refine ⟨M', ?_, hF, hv⟩
  unfold f_X12_findLacks
  rw [he]
  simp (disch := omega) only [B_X12_findLacks_2, lt4, Nat.lt_irrefl, if_false]
def v15 (M : Mm) : Nat → Int := fun h => (M.1 15 h).toInt
def v16 (M : Mm) : Nat → Int := fun h => (M.1 16 h).toInt
def v17 (M : Mm) : Nat → Int := fun h => (M.1 17 h).toInt
/-- the numbers that are weighed, in their bounds -/
def WB (M : Mm) : Prop := NumB (M.1 2) ∧ (∀ h, h < 4 → 0 ≤ v15 M h ∧ v15 M h ≤ 3000) ∧ (∀ h, h < 4 → 0 ≤ v16 M h ∧ v16 M h ≤ 198) ∧ ∀ h, h < 4 → 0 ≤ v17 M h ∧ v17 M h ≤ 1200
def uZn (nu : Nat → Int32) (sp pr : Nat → Int) (j : Nat) : Nat → Int
  | 0 => zz nu 41
  | n + 1 => uZ1 nu sp pr j (uZn nu sp pr j n) n
theorem uZn_4 (nu : Nat → Int32) (sp pr : Nat → Int) (j : Nat) : uZn nu sp pr j 4 = uZ nu sp pr j := rfl
theorem uZn_b {M : Mm} (h : WB M) {j : Nat} (hj : j < 4) : ∀ n, n ≤ 4 → 0 ≤ uZn (M.1 2) (v15 M) (v17 M) j n ∧ uZn (M.1 2) (v15 M) (v17 M) j n ≤ 999 := by
  intro n
  induction n with
  | zero => intro _; exact h.1.1 41 (by omega)
  | succ n ih =>
    intro hn
    have a := ih (by omega)
    have b := h.1.1 (24 + 4 * n + j) (by omega)
    have c := h.2.2.2 n (by omega)
    show 0 ≤ uZ1 (M.1 2) (v15 M) (v17 M) j (uZn (M.1 2) (v15 M) (v17 M) j n) n ∧ _ ≤ _
    have d := uZ1_le (M.1 2) (v15 M) (v17 M) j (uZn (M.1 2) (v15 M) (v17 M) j n) n
    have e := uZ1_ge (M.1 2) (v15 M) (v17 M) j (b := 0) n a.1 (fun _ => by omega)
    exact ⟨e, by show uZ1 (M.1 2) (v15 M) (v17 M) j (uZn (M.1 2) (v15 M) (v17 M) j n) n ≤ 999; omega⟩
theorem least_m {N : Nat} {M : Mm} (a b : Int32) : f_X12_least N a b M = some (if a < b then a else b, M) := by
  unfold f_X12_least
  split <;> rfl
theorem worth_u {N : Nat} (hN : 100000 ≤ N) {M : Mm} (h : WB M) {j : Nat} (hj : j < 4) (x1 : Int32) (G : Int32 → Mm → Rs) : ∃ u : Int32, itr (B_X12_worth_32 N x1 (nI j) G) N (M.1 2 41, 0) M = G u M ∧ u.toInt = uZ (M.1 2) (v15 M) (v17 M) j := by
  obtain ⟨s', M', rec, ⟨u, hs, hM, hu⟩, he⟩ := itr_go (B := B_X12_worth_32 N x1 (nI j) G) (fun n s M' => ∃ u : Int32, s = (u, nI n) ∧ M' = M ∧ u.toInt = uZn (M.1 2) (v15 M) (v17 M) j n) 4
    (fun rec n s M1 hn ⟨u, hs, hM, hu⟩ => by
      subst hs; subst hM
      have b := h.1.1 (24 + 4 * n + j) (by omega)
      have c := h.2.2.2 n hn
      unfold zz at b
      have c' : 0 ≤ (M1.1 17 n).toInt ∧ (M1.1 17 n).toInt ≤ 1200 := c
      have e1 : (M1.1 17 n + M1.1 2 (24 + 4 * n + j)).toInt = v17 M1 n + zz (M1.1 2) (24 + 4 * n + j) := i_add (by omega) (by omega)
      by_cases hs : 0 < (M1.1 15 n).toInt
      · refine ⟨(if u < M1.1 17 n + M1.1 2 (24 + 4 * n + j) then u else M1.1 17 n + M1.1 2 (24 + 4 * n + j), nI (n + 1)), M1, ⟨_, rfl, rfl, ?_⟩, ?_⟩
        · show _ = uZ1 (M1.1 2) (v15 M1) (v17 M1) j (uZn (M1.1 2) (v15 M1) (v17 M1) j n) n
          unfold uZ1
          have hs' : 0 < v15 M1 n := hs
          rw [if_pos hs', ← hu, ← e1]
          by_cases hlt : u < M1.1 17 n + M1.1 2 (24 + 4 * n + j)
          · rw [if_pos hlt]
            rw [toI_lt] at hlt
            rw [if_pos hlt]
          · rw [if_neg hlt]
            rw [toI_lt] at hlt
            rw [if_neg hlt]
        · unfold B_X12_worth_32
          simp (disch := omega) only [lt4, hn, if_true, inb_n, ix_n, zI, hs, lmul4, ladd24, nI_add]
          rw [bd_of (least_m _ _), nI_1]
      · refine ⟨(u, nI (n + 1)), M1, ⟨_, rfl, rfl, ?_⟩, ?_⟩
        · show _ = uZ1 (M1.1 2) (v15 M1) (v17 M1) j (uZn (M1.1 2) (v15 M1) (v17 M1) j n) n
          unfold uZ1
          have hs' : ¬ 0 < v15 M1 n := hs
          rw [if_neg hs']
          exact hu
        · unfold B_X12_worth_32
          simp (disch := omega) only [lt4, hn, if_true, inb_n, ix_n, zI, hs, if_false, nI_1]) N 0 (M.1 2 41, 0) M (by omega) (by omega) ⟨M.1 2 41, by rw [nI_0], rfl, rfl⟩
  subst hs; subst hM
  refine ⟨u, ?_, hu⟩
  rw [he]
  unfold B_X12_worth_32
  simp (disch := omega) only [lt4, Nat.lt_irrefl, if_false]
