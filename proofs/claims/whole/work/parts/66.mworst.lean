/-! the reference: worst and best -/
/-- only these slots of the object change -/
def Sl (L : List Nat) (M M' : Mm) : Prop := Fr [0] M M' ∧ ∀ i, i ∉ L → M'.1 0 i = M.1 0 i
theorem Sl.rf (L : List Nat) (M : Mm) : Sl L M M := ⟨Fr.rf _ _, fun _ _ => rfl⟩
theorem Sl.tr {L : List Nat} {M M1 M2 : Mm} (h1 : Sl L M M1) (h2 : Sl L M1 M2) : Sl L M M2 := ⟨h1.1.tr h2.1, fun i hi => (h2.2 i hi).trans (h1.2 i hi)⟩
theorem Sl.mono {L L' : List Nat} {M M' : Mm} (h : Sl L M M') (hs : ∀ b ∈ L, b ∈ L') : Sl L' M M' := ⟨h.1, fun i hi => h.2 i (fun q => hi (hs i q))⟩
theorem Sl.w {L : List Nat} {M0 M : Mm} {i : Nat} {v : Int32} (h : Sl L M0 M) (hi : i ∈ L) : Sl L M0 (wI M 0 i v) := ⟨h.1.wI (by simp), fun k hk => by
  rw [wI_g, if_pos rfl, upd_ne (fun e : k = i => hk (e ▸ hi))]
  exact h.2 k hk⟩
theorem Sl.e {L : List Nat} {M M' : Mm} (h : Sl L M M') {b : Nat} (hb : b ≠ 0) : M'.1 b = M.1 b := h.1.1 b (by simp [hb])
theorem Sl.kb {L : List Nat} {M M' : Mm} (h : Sl L M M') (hs : ∀ b ∈ L, b ∈ Lx) : Kb Lq M M' := ⟨h.1.mono (by simp), fun i hi => h.2 i (fun q => hi (hs i q))⟩
theorem Sl.km {L : List Nat} {M1 M M' : Mm} (h : Sl L M M') (hs : ∀ b ∈ L, b ∈ Lx) (h2 : 2 ∉ L) (hc : CacheM M1 M) : CacheM M1 M' := by
  unfold CacheM at *
  rw [h.2 2 h2, h.e (b := 18) (by omega), h.e (b := 19) (by omega), h.e (b := 20) (by omega), h.e (b := 21) (by omega)]
  exact hc
section MWorst
variable {N : Nat} {M : Mm} {nu : Nat → Int32} {S : Nat → Bool} {t : Int32}
theorem mworst_e (hN : 100000 ≤ N) (hn : NumB nu) (h19 : ∀ w, w < 16 → M.1 19 w = b01 (S w)) {p : Nat} (hp : p < 256) (hco : ∀ w, w < 16 → S w = true → (M.1 18 (16 * p + w)).toInt = cstZ nu p w) (mask like : Int32) :
    ∃ x M', f_X12_worstOf N (nI p) mask like M = some (x, M') ∧ x.toInt = wvZ nu (fun w => S w && alS like mask w) p ∧ M'.1 0 33 = enI (wwS (cstZ nu p) (fun w => S w && alS like mask w) 16) ∧ Sl [33] M M' := by
  obtain ⟨s', M', rec, ⟨hs, h33, hK⟩, he⟩ := itr_go (B := B_X12_worstOf_9 N (nI p) mask like fun z4 M5 => (if (M5.1 0 33) < 0 then (some ((-9), M5)) else (if inb ((16 * (nI p)) + (M5.1 0 33)) 4096 then (some (M5.1 18 (ix ((16 * (nI p)) + (M5.1 0 33))), M5)) else none))) (fun j s M' => s = nI j ∧ M'.1 0 33 = enI (wwS (cstZ nu p) (fun w => S w && alS like mask w) j) ∧ Sl [33] M M') 16
    (fun rec j s Mx hj ⟨hs, h33, hK⟩ => by
      subst hs
      have e19 : Mx.1 19 j = b01 (S j) := by rw [hK.e (by omega)]; exact h19 j hj
      have e18 : Mx.1 18 = M.1 18 := hK.e (by omega)
      -- the world is passed over, or taken
      have pass : wwS (cstZ nu p) (fun w => S w && alS like mask w) (j + 1) = wwS (cstZ nu p) (fun w => S w && alS like mask w) j → ∃ s' M', (s' = nI (j + 1) ∧ M'.1 0 33 = enI (wwS (cstZ nu p) (fun w => S w && alS like mask w) (j + 1)) ∧ Sl [33] M M') ∧ rec (nI (j + 1)) Mx = rec s' M' := fun e => ⟨_, _, ⟨rfl, by rw [e]; exact h33, hK⟩, rfl⟩
      have take : wwS (cstZ nu p) (fun w => S w && alS like mask w) (j + 1) = some j → ∃ s' M', (s' = nI (j + 1) ∧ M'.1 0 33 = enI (wwS (cstZ nu p) (fun w => S w && alS like mask w) (j + 1)) ∧ Sl [33] M M') ∧ rec (nI (j + 1)) (wI Mx 0 33 (nI j)) = rec s' M' := fun e => ⟨_, _, ⟨rfl, by rw [e]; simp [wI_g, upd_g, enI], hK.w (by simp)⟩, rfl⟩
      unfold B_X12_worstOf_9
      rw [if_pos (by rw [lt16 (by omega)]; exact hj), inb_n (by omega) (by omega), ix_n (by omega), if_pos rfl, e19, nI_1]
      cases hS : S j
      · rw [if_pos b01_f]
        exact pass (ww_sf (by simp [hS]))
      · rw [if_neg (show ¬ b01 true = 0 by decide)]
        by_cases ha : (nI j ^^^ like) &&& mask = 0
        · rw [if_pos ha]
          have hA : (S j && alS like mask j) = true := by unfold alS; simp [hS, ha]
          cases e : wwS (cstZ nu p) (fun w => S w && alS like mask w) j with
          | none =>
            rw [if_pos (by rw [h33, e]; decide), lt_eq]
            exact take (by unfold wwS; rw [if_pos hA, e])
          | some b =>
            have hb := ww_some e
            have hSb : S b = true := by have := hb.2; simp only [Bool.and_eq_true] at this; exact this.1
            rw [if_neg (by rw [h33, e]; exact nI_pos (by omega)), h33, e]
            show ∃ s' M', _ ∧ (if inb (16 * nI p + nI j) 4096 then if inb (16 * nI p + nI b) 4096 then _ else _ else _) = _
            rw [lmul16, nI_add, inb_n (by omega) (by omega), if_pos rfl]
            show ∃ s' M', _ ∧ (if inb (nI (16 * p) + nI b) 4096 then (if Mx.1 18 (ix (nI (16 * p) + nI b)) < Mx.1 18 (ix (nI (16 * p + j))) then _ else _) else _) = _
            rw [nI_add, inb_n (by omega) (by omega), ix_n (by omega), ix_n (by omega), if_pos rfl, e18, lt_eq]
            by_cases hlt : cstZ nu p b < cstZ nu p j
            · rw [if_pos (by rw [toI_lt, hco b (by omega) hSb, hco j hj hS]; exact hlt)]
              exact take (by unfold wwS; rw [if_pos hA, e]; dsimp only; rw [if_pos hlt])
            · rw [if_neg (by rw [toI_lt, hco b (by omega) hSb, hco j hj hS]; exact hlt)]
              exact pass (by rw [e]; unfold wwS; rw [if_pos hA, e]; dsimp only; rw [if_neg hlt])
        · rw [if_neg ha]
          exact pass (ww_sf (by unfold alS; simp [ha]))) N 0 0 (wI M 0 33 (-9)) (by omega) (by omega) ⟨nI_0.symm, by simp [wI_g, upd_g, wwS, enI], (Sl.rf _ M).w (by simp)⟩
  subst hs
  unfold f_X12_worstOf
  simp only [lt_eq]
  rw [he]
  unfold B_X12_worstOf_9
  rw [if_neg (show ¬ nI 16 < 16 by decide)]
  dsimp only
  rw [h33]
  unfold wvZ
  cases e : wwS (cstZ nu p) (fun w => S w && alS like mask w) 16 with
  | none =>
    rw [if_pos (by decide)]
    exact ⟨-9, M', rfl, rfl, by rw [h33, e], hK⟩
  | some b =>
    have hb := ww_some e
    have hSb : S b = true := by have := hb.2; simp only [Bool.and_eq_true] at this; exact this.1
    rw [if_neg (show ¬ enI (some b) < 0 from nI_pos (n := b) (by omega))]
    show ∃ x M'_1, (if inb (16 * nI p + nI b) 4096 then some (M'.1 18 (ix (16 * nI p + nI b)), M') else none) = _ ∧ _
    rw [lmul16, nI_add, inb_n (by omega) (by omega), ix_n (by omega), if_pos rfl, hK.e (b := 18) (by omega)]
    exact ⟨_, M', rfl, hco b hb.1 hSb, by rw [h33, e], hK⟩
theorem wv_none {A : Nat → Bool} {p : Nat} (h : emp A = true) : wvZ nu A p = -9 := by
  unfold wvZ
  rw [ww_none (emp_t.mp h)]
  rfl
theorem wv_pos (hn : NumB nu) {A : Nat → Bool} {p : Nat} (hp : p < 256) (h : emp A = false) : 0 ≤ wvZ nu A p ∧ wvZ nu A p ≤ 300100000 := by
  obtain ⟨k, k1, k2, -⟩ := al_first h
  have k3 : A k = true := by simpa using k2
  obtain ⟨b, b1, b2⟩ := ww_ge (f := cstZ nu p) k1 k3
  unfold wvZ
  rw [b1]
  have hb := ww_some b1
  have := cstZ_b hn hp hb.1
  show 0 ≤ cstZ nu p b ∧ cstZ nu p b ≤ 300100000
  omega
noncomputable def bpN (nu : Nat → Int32) (t : Int32) (A : Nat → Bool) (j : Nat) : Option Nat := if emp A then none else bbS (wvZ nu A) (plS t) j
theorem bpN_0 {A : Nat → Bool} : bpN nu t A 0 = none := by unfold bpN; split <;> rfl
theorem bpN_t {A : Nat → Bool} {j : Nat} (h : emp A = true) : bpN nu t A j = none := by unfold bpN; rw [h]; rfl
theorem bpN_f {A : Nat → Bool} {j : Nat} (h : emp A = false) : bpN nu t A j = bbS (wvZ nu A) (plS t) j := by unfold bpN; rw [h]; rfl
theorem bpN_p {A : Nat → Bool} {j : Nat} (h : plS t j = false) : bpN nu t A (j + 1) = bpN nu t A j := by
  cases e : emp A
  · rw [bpN_f e, bpN_f e]
    show (if plS t j then _ else _) = _
    rw [h]; rfl
  · rw [bpN_t e, bpN_t e]
theorem mbest_e (hN : 100000 ≤ N) (hn : NumB nu) (h19 : ∀ w, w < 16 → M.1 19 w = b01 (S w)) (h20 : ∀ p, p < 256 → M.1 20 p = b01 (plS t p)) (hco : ∀ p, p < 256 → plS t p = true → ∀ w, w < 16 → S w = true → (M.1 18 (16 * p + w)).toInt = cstZ nu p w) (mask like : Int32) :
    ∃ x M', f_X12_bestOf N mask like M = some (x, M') ∧ x.toInt = vaZ (wvZ nu (fun w => S w && alS like mask w)) (bpS nu t (fun w => S w && alS like mask w)) ∧ M'.1 0 34 = enI (bpS nu t (fun w => S w && alS like mask w)) ∧ Sl [33, 34] M M' := by
  obtain ⟨s', M', rec, ⟨x, hs, hx, h34, hK⟩, he⟩ := itr_go (B := B_X12_bestOf_12 N mask like fun z6 M7 => some (z6, M7)) (fun j s M' => ∃ x : Int32, s = (x, nI j) ∧ x.toInt = vaZ (wvZ nu (fun w => S w && alS like mask w)) (bpN nu t (fun w => S w && alS like mask w) j) ∧ M'.1 0 34 = enI (bpN nu t (fun w => S w && alS like mask w) j) ∧ Sl [33, 34] M M') 256
    (fun rec j s Mx hj ⟨x, hs, hx, h34, hK⟩ => by
      subst hs
      have e20 : Mx.1 20 j = b01 (plS t j) := by rw [hK.e (by omega)]; exact h20 j hj
      unfold B_X12_bestOf_12
      dsimp only
      rw [if_pos (by rw [lt256 (by omega)]; exact hj), inb_n (by omega) (by omega), ix_n (by omega), if_pos rfl, e20, nI_1]
      cases hP : plS t j
      · rw [if_pos b01_f]
        refine ⟨_, _, ⟨x, rfl, ?_, ?_, hK⟩, rfl⟩
        · rw [bpN_p hP]; exact hx
        · rw [bpN_p hP]; exact h34
      · rw [if_neg (show ¬ b01 true = 0 by decide)]
        obtain ⟨y, My, y1, y2, y3, y4⟩ := mworst_e hN hn (M := Mx) (S := S) (fun w hw => by rw [hK.e (by omega)]; exact h19 w hw) hj (fun w hw hS => by rw [hK.e (by omega)]; exact hco j hj hP w hw hS) mask like
        rw [bd_of y1]
        have hK2 : Sl [33, 34] M My := hK.tr (y4.mono (by simp))
        have q34 : My.1 0 34 = Mx.1 0 34 := y4.2 34 (by simp)
        cases hE : emp (fun w => S w && alS like mask w)
        · have wp := wv_pos hn hj hE
          rw [bpN_f hE] at hx h34
          rw [bpN_f hE]
          rw [if_neg (by rw [toI_eq, y2]; have : ((-9 : Int32)).toInt = -9 := rfl; omega), q34, h34]
          cases e : bbS (wvZ nu (fun w => S w && alS like mask w)) (plS t) j with
          | none =>
            rw [if_pos (by decide), lt_eq]
            refine ⟨_, _, ⟨y, rfl, ?_, ?_, hK2.w (by simp)⟩, rfl⟩
            · unfold bbS; rw [hP, e]; exact y2
            · unfold bbS; rw [hP, e]; simp [wI_g, upd_g, enI]
          | some b =>
            have hb := bb_some e
            rw [e] at hx
            rw [if_neg (show ¬ enI (some b) < 0 from nI_pos (n := b) (by omega))]
            by_cases hlt : wvZ nu (fun w => S w && alS like mask w) j < wvZ nu (fun w => S w && alS like mask w) b
            · rw [if_pos (by rw [toI_lt, y2, hx]; exact hlt), lt_eq]
              refine ⟨_, _, ⟨y, rfl, ?_, ?_, hK2.w (by simp)⟩, rfl⟩
              · unfold bbS; rw [hP, e]; dsimp only; rw [if_pos rfl, if_pos hlt]; exact y2
              · unfold bbS; rw [hP, e]; dsimp only; rw [if_pos rfl, if_pos hlt]; simp [wI_g, upd_g, enI]
            · rw [if_neg (by rw [toI_lt, y2, hx]; exact hlt)]
              refine ⟨_, _, ⟨x, rfl, ?_, ?_, hK2⟩, rfl⟩
              · unfold bbS; rw [hP, e]; dsimp only; rw [if_pos rfl, if_neg hlt]; exact hx
              · unfold bbS; rw [hP, e]; dsimp only; rw [if_pos rfl, if_neg hlt, q34, h34, e]
        · have wn := wv_none (nu := nu) (p := j) hE
          rw [bpN_t hE] at hx h34
          rw [bpN_t hE]
          rw [if_pos (by rw [toI_eq, y2, wn]; rfl)]
          exact ⟨_, _, ⟨x, rfl, hx, by rw [q34]; exact h34, hK2⟩, rfl⟩) N 0 ((-9), 0) (wI M 0 34 (-9)) (by omega) (by omega) ⟨-9, by rw [nI_0], by rw [bpN_0]; rfl, by
            have : (wI M 0 34 (-9)).1 0 34 = -9 := by simp [wI_g, upd_g]
            rw [this, bpN_0]; rfl, (Sl.rf _ M).w (by simp)⟩
  subst hs
  unfold f_X12_bestOf
  simp only [lt_eq]
  rw [he]
  unfold B_X12_bestOf_12
  dsimp only
  rw [if_neg (show ¬ nI 256 < 256 by decide)]
  exact ⟨x, M', rfl, hx, h34, hK⟩
end MWorst
