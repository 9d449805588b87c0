/-! the class: what is weighed -/
theorem fillb {N : Nat} (hN : 100000 ≤ N) (M : Mm) (v : Int32) : ∃ M', f_J7_fill_53178b N v M = some (0, M') ∧ Fr [47] M M' ∧ ∀ i, i < 16 → M'.1 47 i = v := by
  obtain ⟨s', M', rec, ⟨hs, hF, hv⟩, he⟩ := itr_go (B := B_J7_fill_53178b_5 N v 16 fun _ M3 => some (0, M3)) (fun j s M' => s = nI j ∧ Fr [47] M M' ∧ ∀ i, i < j → M'.1 47 i = v) 16
    (fun rec j s M1 hj ⟨hs, hF, hv⟩ => by
      subst hs
      refine ⟨nI (j + 1), wI M1 47 j v, ⟨rfl, hF.wI (by simp), fun i hi => ?_⟩, ?_⟩
      · simp only [wI_g, if_true, upd_g]
        split
        · rfl
        · exact hv i (by omega)
      · simp (disch := omega) only [B_J7_fill_53178b_5, lt16, hj, if_true, inb_n, ix_n, lt_eq, nI_1]) N 0 0 M (by omega) (by omega) ⟨nI_0.symm, Fr.rf _ _, fun i h => absurd h (by omega)⟩
  subst hs
  refine ⟨M', ?_, hF, hv⟩
  unfold f_J7_fill_53178b
  rw [he]
  simp (disch := omega) only [B_J7_fill_53178b_5, lt16, Nat.lt_irrefl, if_false]
/-- what stands when all is weighed -/
def Wd (nu : Nat → Int32) (sp lk : Nat → Int) (n : Nat) (M : Mm) : Prop :=
  M.1 40 1 = nI (rk (isG sp) n) ∧ M.1 40 4 = nI (rk (isG lk) n) ∧ (∀ i, i < n → 0 < sp i → M.1 41 (rk (isG sp) i) = nI i ∧ (M.1 42 (rk (isG sp) i)).toInt = sp i) ∧ ∀ i, i < n → 0 < lk i → M.1 43 (rk (isG lk) i) = nI i ∧ (M.1 44 (rk (isG lk) i)).toInt = lk i ∧ M.1 45 (rk (isG lk) i) = nu (6 * i + 4)
theorem rk_le {q : Nat → Bool} : ∀ n : Nat, rk q n ≤ n := by
  intro n
  induction n with
  | zero => exact Nat.le_refl _
  | succ n ih => rw [rk_s]; split <;> omega
theorem isG_t {f : Nat → Int} {i : Nat} (h : 0 < f i) : isG f i = true := by unfold isG; simpa using h
theorem isG_f {f : Nat → Int} {i : Nat} (h : ¬ 0 < f i) : isG f i = false := by unfold isG; simpa using h
theorem weigh1 {N : Nat} (hN : 100000 ≤ N) {M : Mm} {p w : Nat} (hn : NumB (M.1 2)) (hp : p < 256) (hw : w < 16) (h1 : M.1 40 1 = 0) (h4 : M.1 40 4 = 0) (G : Unit → Mm → Rs) : ∃ M', itr (B_X4_weigh_20 N (nI p) (nI w) G) N 0 M = G () M' ∧ Fr [40, 41, 42, 43, 44, 45] M M' ∧ Wd (M.1 2) (spZ (M.1 2) p w) (lkZ (M.1 2) p w) 4 M' := by
  obtain ⟨s', M', rec, ⟨hs, hF, hW⟩, he⟩ := itr_go (B := B_X4_weigh_20 N (nI p) (nI w) G) (fun j s M' => s = nI j ∧ Fr [40, 41, 42, 43, 44, 45] M M' ∧ Wd (M.1 2) (spZ (M.1 2) p w) (lkZ (M.1 2) p w) j M') 4
    (fun rec j s M1 hj ⟨hs, hF, w1, w2, w3, w4⟩ => by
      subst hs
      have e2 : M1.1 2 = M.1 2 := hF.1 2 (by simp)
      obtain ⟨x, hx, hxi⟩ := bal_e (N := N) (M := M1) (h := j) (by rw [e2]; exact hn) hp hw hj
      rw [e2] at hxi
      have hb := balZ_b hn p w hj
      have kg : rk (isG (spZ (M.1 2) p w)) j ≤ j := rk_le j
      have kt : rk (isG (lkZ (M.1 2) p w)) j ≤ j := rk_le j
      by_cases hpos : 0 < balZ (M.1 2) p w j
      · have es : spZ (M.1 2) p w j = balZ (M.1 2) p w j := by unfold spZ; rw [if_pos hpos]
        have el : lkZ (M.1 2) p w j = 0 := by unfold lkZ; rw [if_neg (by omega)]
        have rs : rk (isG (spZ (M.1 2) p w)) (j + 1) = rk (isG (spZ (M.1 2) p w)) j + 1 := by rw [rk_s, isG_t (by rw [es]; exact hpos)]; rfl
        have rl : rk (isG (lkZ (M.1 2) p w)) (j + 1) = rk (isG (lkZ (M.1 2) p w)) j := by rw [rk_s, isG_f (by rw [el]; omega)]; rfl
        refine ⟨nI (j + 1), wI (wI (wI M1 41 (rk (isG (spZ (M.1 2) p w)) j) (nI j)) 42 (rk (isG (spZ (M.1 2) p w)) j) x) 40 1 (nI (rk (isG (spZ (M.1 2) p w)) j + 1)), ⟨rfl, ((hF.wI (by simp)).wI (by simp)).wI (by simp), ?_, ?_, fun i hi hsi => ?_, fun i hi hli => ?_⟩, ?_⟩
        · simp [wI_g, upd_g, rs]
        · simp [wI_g, upd_g, rl, w2]
        · by_cases e : i = j
          · subst e
            simp [wI_g, upd_g, hxi, es]
          · have hlt : rk (isG (spZ (M.1 2) p w)) i < rk (isG (spZ (M.1 2) p w)) j := rk_lt (isG_t hsi) (by omega)
            have := w3 i (by omega) hsi
            simp [wI_g, upd_g, Nat.ne_of_lt hlt, this]
        · have hij : i ≠ j := fun e => by subst e; omega
          have := w4 i (by omega) hli
          simp [wI_g, this]
        · unfold B_X4_weigh_20
          simp (disch := omega) only [lt4, hj, if_true]
          rw [bd_of hx]
          simp only [zI, hxi, hpos, if_true, w1]
          simp (disch := omega) only [inb_n, ix_n, if_true, lt_eq, wI_g, w1]
          simp (disch := omega) [inb_n, ix_n, nI_1, wI_g, w1]
      · by_cases hneg : balZ (M.1 2) p w j < 0
        · have es : spZ (M.1 2) p w j = 0 := by unfold spZ; rw [if_neg hpos]
          have el : lkZ (M.1 2) p w j = -balZ (M.1 2) p w j := by unfold lkZ; rw [if_pos hneg]
          have rs : rk (isG (spZ (M.1 2) p w)) (j + 1) = rk (isG (spZ (M.1 2) p w)) j := by rw [rk_s, isG_f (by rw [es]; omega)]; rfl
          have rl : rk (isG (lkZ (M.1 2) p w)) (j + 1) = rk (isG (lkZ (M.1 2) p w)) j + 1 := by rw [rk_s, isG_t (by rw [el]; omega)]; rfl
          have hnx : (-x).toInt = -balZ (M.1 2) p w j := by rw [i_neg (by omega), hxi]
          refine ⟨nI (j + 1), wI (wI (wI (wI M1 43 (rk (isG (lkZ (M.1 2) p w)) j) (nI j)) 44 (rk (isG (lkZ (M.1 2) p w)) j) (-x)) 45 (rk (isG (lkZ (M.1 2) p w)) j) (M.1 2 (6 * j + 4))) 40 4 (nI (rk (isG (lkZ (M.1 2) p w)) j + 1)), ⟨rfl, (((hF.wI (by simp)).wI (by simp)).wI (by simp)).wI (by simp), ?_, ?_, fun i hi hsi => ?_, fun i hi hli => ?_⟩, ?_⟩
          · simp [wI_g, upd_g, rs, w1]
          · simp [wI_g, upd_g, rl]
          · have hij : i ≠ j := fun e => by subst e; omega
            have := w3 i (by omega) hsi
            simp [wI_g, this]
          · by_cases e : i = j
            · subst e
              simp [wI_g, upd_g, hnx, el]
            · have hlt : rk (isG (lkZ (M.1 2) p w)) i < rk (isG (lkZ (M.1 2) p w)) j := rk_lt (isG_t hli) (by omega)
              have := w4 i (by omega) hli
              simp [wI_g, upd_g, Nat.ne_of_lt hlt, this]
          · unfold B_X4_weigh_20
            simp (disch := omega) only [lt4, hj, if_true]
            rw [bd_of hx]
            simp only [zI, zL, hxi, hpos, hneg, if_true, if_false, w2]
            simp (disch := omega) [inb_n, ix_n, nI_1, wI_g, w2, lt_eq, mul6, add4, e2]
        · have es : spZ (M.1 2) p w j = 0 := by unfold spZ; rw [if_neg hpos]
          have el : lkZ (M.1 2) p w j = 0 := by unfold lkZ; rw [if_neg hneg]
          have rs : rk (isG (spZ (M.1 2) p w)) (j + 1) = rk (isG (spZ (M.1 2) p w)) j := by rw [rk_s, isG_f (by rw [es]; omega)]; rfl
          have rl : rk (isG (lkZ (M.1 2) p w)) (j + 1) = rk (isG (lkZ (M.1 2) p w)) j := by rw [rk_s, isG_f (by rw [el]; omega)]; rfl
          refine ⟨nI (j + 1), M1, ⟨rfl, hF, by rw [rs]; exact w1, by rw [rl]; exact w2, fun i hi hsi => ?_, fun i hi hli => ?_⟩, ?_⟩
          · have hij : i ≠ j := fun e => by subst e; omega
            exact w3 i (by omega) hsi
          · have hij : i ≠ j := fun e => by subst e; omega
            exact w4 i (by omega) hli
          · unfold B_X4_weigh_20
            simp (disch := omega) only [lt4, hj, if_true]
            rw [bd_of hx]
            simp only [zI, zL, hxi, hpos, hneg, if_false, nI_1]) N 0 0 M (by omega) (by omega) ⟨nI_0.symm, Fr.rf _ _, h1, h4, fun i h => absurd h (by omega), fun i h => absurd h (by omega)⟩
  subst hs
  refine ⟨M', ?_, hF, hW⟩
  rw [he]
  simp (disch := omega) only [B_X4_weigh_20, lt4, Nat.lt_irrefl, if_false]
