/-! closing from both sides: the pieces -/
theorem b_neg (x : Int32) {i : Nat} (hi : i < 32) : bt (-x) i = (bt x i ^^ decide (∃ j, j < i ∧ bt x j = true)) := by
  unfold bt
  rw [Int32.toBitVec_neg, BitVec.getLsbD_neg]
  simp [hi]
/-- the lowest of a set alone -/
def loS (S : Nat → Bool) (k : Nat) : Nat → Bool := fun w => decide (w = k)
theorem low_e {W : Int32} {S : Nat → Bool} (hW : isM W S) {k : Nat} (hk : k < 16) (h1 : S k = true) (h2 : ∀ j, j < k → S j = false) : isM (W &&& -W) (loS S k) := by
  intro i
  unfold loS
  rcases Nat.lt_or_ge i 32 with hi | hi
  · rw [b_and, b_neg W hi]
    have hb : ∀ j, bt W j = (decide (j < 16) && S j) := hW
    by_cases e : i = k
    · subst e
      have : ¬ ∃ j, j < i ∧ bt W j = true := by
        rintro ⟨j, hj, q⟩
        rw [hb, h2 j hj] at q
        simp at q
      rw [hb i, h1]
      simp [this, hk]
    · by_cases hlt : i < k
      · rw [hb i, h2 i hlt]; simp [e]
      · have : ∃ j, j < i ∧ bt W j = true := ⟨k, by omega, by rw [hb, h1]; simp [hk]⟩
        rw [decide_eq_true this]
        cases bt W i <;> simp [e]
  · rw [b_big hi]
    simp; omega
section Close
variable {N : Nat} {M1 M2 M : Mm} {b : Int32}
theorem FS.c22 {M' : Mm} (h : FS M1 b M) (F : Fr [22] M M') : FS M1 b M' := by
  obtain ⟨a1, a2, a3, a4, a5⟩ := h
  have e0 := F.1 0 (by decide)
  have hK : Kb Lq M M' := ⟨F.mono (by simp [Lq]), fun i _ => by rw [e0]⟩
  refine ⟨hK.told a1, by rw [e0]; exact a2, ?_, ?_, ?_⟩
  · rw [F.1 21 (by decide)]; exact a3
  · rw [F.1 19 (by decide)]; exact a4
  · rw [F.1 20 (by decide), F.1 18 (by decide)]; exact a5
theorem k22 {M' : Mm} (F : Fr [22] M M') : Kb Lq M M' := ⟨F.mono (by simp [Lq]), fun i _ => by rw [F.1 0 (by decide)]⟩
/-- what a plan costs in those that are borne -/
theorem bmost_e (hN : 100000 ≤ N) (f : FS M1 b M) {A : Nat → Bool} (h22 : ∀ w, w < 16 → M.1 22 w = b01 (A w)) (hA : ∀ w, w < 16 → A w = true → setS M1 b w = true) (hne : emp A = false) {p : Nat} (hp : p < 256) (hP : plS (M1.1 1 0) p = true) : ∃ x, f_X12_borneMost N (nI p) M = some (x, M) ∧ x.toInt = wvZ (M1.1 2) A p := by
  have hn := f.1.num
  obtain ⟨s', Ma, rec, ⟨x, hs, hx, hM⟩, he⟩ := itr_go (B := B_X12_borneMost_4 N (nI p) fun z2 M3 => some (z2, M3)) (fun j s M' => ∃ x : Int32, s = (x, nI j) ∧ (x.toInt = match wwS (cstZ (M1.1 2) p) A j with | none => -1 | some v => cstZ (M1.1 2) p v) ∧ M' = M) 16
    (fun rec j s Mx hj ⟨x, hs, hx, hM⟩ => by
      subst hs; subst hM
      unfold B_X12_borneMost_4
      dsimp only
      rw [if_pos (by rw [lt16 (by omega)]; exact hj), inb_n (by omega) (by omega), ix_n (by omega), if_pos rfl, h22 j hj, lmul16, nI_add, inb_n (by omega) (by omega), ix_n (by omega), nI_1]
      simp only [lt_eq, if_true]
      cases hAj : A j
      · rw [if_pos b01_f]
        exact ⟨_, _, ⟨x, rfl, by rw [ww_sf hAj]; exact hx, rfl⟩, rfl⟩
      · rw [if_neg (show ¬ b01 true = 0 by decide)]
        have hc : (Mx.1 18 (16 * p + j)).toInt = cstZ (M1.1 2) p j := by
          rw [(f.2.2.2.2 p hp).2 hP j hj, setS_wo (hA j hj hAj)]; rfl
        have cb := cstZ_b hn hp hj
        have eW : wwS (cstZ (M1.1 2) p) A (j + 1) = match wwS (cstZ (M1.1 2) p) A j with | none => some j | some v => if cstZ (M1.1 2) p v < cstZ (M1.1 2) p j then some j else some v := by
          show (if A j then _ else _) = _
          rw [hAj]; rfl
        cases e : wwS (cstZ (M1.1 2) p) A j with
        | none =>
          rw [e] at hx eW
          dsimp only at hx eW
          rw [if_pos (by rw [toI_lt, hx, hc]; omega)]
          exact ⟨_, _, ⟨_, rfl, by rw [eW]; exact hc, rfl⟩, rfl⟩
        | some v =>
          rw [e] at hx eW
          dsimp only at hx eW
          by_cases q : cstZ (M1.1 2) p v < cstZ (M1.1 2) p j
          · rw [if_pos (by rw [toI_lt, hx, hc]; exact q)]
            rw [if_pos q] at eW
            exact ⟨_, _, ⟨_, rfl, by rw [eW]; exact hc, rfl⟩, rfl⟩
          · rw [if_neg (by rw [toI_lt, hx, hc]; exact q)]
            rw [if_neg q] at eW
            exact ⟨_, _, ⟨x, rfl, by rw [eW]; exact hx, rfl⟩, rfl⟩) N 0 (-1, 0) M (by omega) (by omega) ⟨-1, by rw [nI_0], rfl, rfl⟩
  subst hs; subst hM
  refine ⟨x, ?_, ?_⟩
  · unfold f_X12_borneMost
    rw [he]
    have eB : ∀ G rec, B_X12_borneMost_4 N (nI p) G rec (x, nI 16) Ma = G x Ma := fun G rec => by
      unfold B_X12_borneMost_4
      dsimp only
      rw [if_neg (show ¬ nI 16 < 16 by decide)]
    rw [eB]
  · unfold wvZ
    cases e : wwS (cstZ (M1.1 2) p) A 16 with
    | none =>
      have : emp A = true := by
        cases q : emp A
        · have : ¬ ∀ w, w < 16 → A w = false := fun z => by rw [emp_t.mpr z] at q; cases q
          rcases Classical.not_forall.mp this with ⟨w, hw⟩
          rcases Classical.not_imp.mp hw with ⟨g1, g2⟩
          obtain ⟨v, g3, -⟩ := ww_ge (f := cstZ (M1.1 2) p) (n := 16) g1 (show A w = true by simpa using g2)
          rw [e] at g3; cases g3
        · rfl
      rw [hne] at this; cases this
    | some v => rw [e] at hx; exact hx
/-- the best plan for those that are borne -/
theorem bbest_e (hN : 100000 ≤ N) (f : FS M1 b M) {A : Nat → Bool} (h22 : ∀ w, w < 16 → M.1 22 w = b01 (A w)) (hA : ∀ w, w < 16 → A w = true → setS M1 b w = true) (hne : emp A = false) (a c o l r : Int32) (G : Int32 → Mm → Rs) {k : Nat} (hk : bpS (M1.1 2) (M1.1 1 0) A = some k) : itr (B_X12_close_144 N a c o l r G) N (-1, 0) M = G (nI k) M := by
  obtain ⟨s', Ma, rec, ⟨hs, hM⟩, he⟩ := itr_go (B := B_X12_close_144 N a c o l r G) (fun j s M' => s = ((match bbS (wvZ (M1.1 2) A) (plS (M1.1 1 0)) j with | none => -1 | some v => nI v), nI j) ∧ M' = M) 256
    (fun rec j s Mx hj ⟨hs, hM⟩ => by
      subst hs; subst hM
      unfold B_X12_close_144
      dsimp only
      rw [if_pos (by rw [lt256 (by omega)]; exact hj), inb_n (by omega) (by omega), ix_n (by omega), if_pos rfl, (f.2.2.2.2 j hj).1, nI_1]
      cases hP : plS (M1.1 1 0) j
      · rw [if_pos b01_f]
        refine ⟨_, _, ⟨?_, rfl⟩, rfl⟩
        have : bbS (wvZ (M1.1 2) A) (plS (M1.1 1 0)) (j + 1) = bbS (wvZ (M1.1 2) A) (plS (M1.1 1 0)) j := by
          show (if plS (M1.1 1 0) j then _ else _) = _
          rw [hP]; rfl
        rw [this]
      · rw [if_neg (show ¬ b01 true = 0 by decide)]
        have eW : bbS (wvZ (M1.1 2) A) (plS (M1.1 1 0)) (j + 1) = match bbS (wvZ (M1.1 2) A) (plS (M1.1 1 0)) j with | none => some j | some v => if wvZ (M1.1 2) A j < wvZ (M1.1 2) A v then some j else some v := by
          show (if plS (M1.1 1 0) j then _ else _) = _
          rw [hP]; rfl
        cases e : bbS (wvZ (M1.1 2) A) (plS (M1.1 1 0)) j with
        | none =>
          rw [e] at eW
          dsimp only at eW ⊢
          rw [if_pos (by decide)]
          exact ⟨_, _, ⟨by rw [eW], rfl⟩, rfl⟩
        | some v =>
          rw [e] at eW
          dsimp only at eW ⊢
          have hv := bb_some e
          obtain ⟨x, x1, x2⟩ := bmost_e hN f h22 hA hne hj hP
          obtain ⟨y, y1, y2⟩ := bmost_e hN f h22 hA hne (p := v) (by omega) hv.2
          rw [if_neg (nI_pos (by omega)), bd_of x1, bd_of y1]
          by_cases q : wvZ (M1.1 2) A j < wvZ (M1.1 2) A v
          · rw [if_pos (by rw [toI_lt, x2, y2]; exact q)]
            rw [if_pos q] at eW
            exact ⟨_, _, ⟨by rw [eW], rfl⟩, rfl⟩
          · rw [if_neg (by rw [toI_lt, x2, y2]; exact q)]
            rw [if_neg q] at eW
            exact ⟨_, _, ⟨by rw [eW], rfl⟩, rfl⟩) N 0 (-1, 0) M (by omega) (by omega) ⟨by rw [nI_0]; rfl, rfl⟩
  have hb : bbS (wvZ (M1.1 2) A) (plS (M1.1 1 0)) 256 = some k := by
    unfold bpS at hk
    rw [hne] at hk
    exact hk
  rw [hb] at hs
  subst hs; subst hM
  rw [he]
  unfold B_X12_close_144
  dsimp only
  rw [if_neg (show ¬ nI 256 < 256 by decide)]
/-- the lowest world of the set, none of them borne yet -/
theorem lows_e (hN : 100000 ≤ N) {S : Nat → Bool} (h19 : ∀ w, w < 16 → M.1 19 w = b01 (S w)) (a c : Int32) (G : Int32 → Mm → Rs) : ∃ M', itr (B_X12_close_50 N a c G) N (0, 15) M = G (match fgo (fun w => !S w) 0 16 with | none => 0 | some k => nI k) M' ∧ Fr [22] M M' ∧ ∀ w, w < 16 → M'.1 22 w = 0 := by
  obtain ⟨s', Ma, rec, ⟨hs, hF, hz⟩, he⟩ := itr_go (B := B_X12_close_50 N a c G) (fun j s M' => s = ((match fgo (fun w => !S w) (16 - j) j with | none => 0 | some k => nI k), if j < 16 then nI (15 - j) else -1) ∧ Fr [22] M M' ∧ ∀ w, 16 - j ≤ w → w < 16 → M'.1 22 w = 0) 16
    (fun rec j s Mx hj ⟨hs, hF, hz⟩ => by
      subst hs
      unfold B_X12_close_50
      dsimp only
      rw [if_pos hj, if_neg (nI_pos (by omega)), inb_n (by omega) (by omega), ix_n (by omega), if_pos rfl, zn_0]
      simp only [lt_eq, if_true]
      have e19 : (wI Mx 22 (15 - j) 0).1 19 (15 - j) = b01 (S (15 - j)) := by rw [wI_g, if_neg (by omega), hF.1 19 (by decide)]; exact h19 _ (by omega)
      have ed : nI (15 - j) + -1 = if j + 1 < 16 then nI (15 - (j + 1)) else -1 := by
        by_cases q : j + 1 < 16
        · rw [if_pos q, show 15 - j = (15 - (j + 1)) + 1 by omega]
          exact (Int32.sub_eq_add_neg _ _).symm.trans (dec1 _)
        · rw [if_neg q, show 15 - j = 0 by omega]; rfl
      have hz' : ∀ w, 16 - (j + 1) ≤ w → w < 16 → (wI Mx 22 (15 - j) 0).1 22 w = 0 := fun w h1 h2 => by
        rw [wI_g, if_pos rfl, upd_g]
        split
        · rfl
        · exact hz w (by omega) h2
      have ef : fgo (fun w => !S w) (16 - (j + 1)) (j + 1) = if S (15 - j) then some (15 - j) else fgo (fun w => !S w) (16 - j) j := by
        show (if !S (16 - (j + 1)) then fgo (fun w => !S w) (16 - (j + 1) + 1) j else some (16 - (j + 1))) = _
        rw [show 16 - (j + 1) = 15 - j by omega, show 15 - j + 1 = 16 - j by omega]
        cases S (15 - j) <;> rfl
      rw [e19, ed, ef]
      cases hS : S (15 - j)
      · rw [if_pos b01_f]
        exact ⟨_, _, ⟨rfl, hF.wI (by simp), hz'⟩, rfl⟩
      · rw [if_neg (show ¬ b01 true = 0 by decide)]
        exact ⟨_, _, ⟨rfl, hF.wI (by simp), hz'⟩, rfl⟩) N 0 (0, 15) M (by omega) (by omega) ⟨rfl, Fr.rf _ _, fun w h1 h2 => by omega⟩
  subst hs
  refine ⟨Ma, ?_, hF, fun w hw => hz w (by omega) hw⟩
  rw [he]
  unfold B_X12_close_50
  dsimp only
  rw [if_neg (show ¬ 16 < 16 by omega), if_pos (by decide)]
end Close
