section Finds
variable {N : Nat} {M1 M : Mm}
theorem mlets_e (hN : 100000 ≤ N) (H : ToldR M1.1 M.1) {w : Nat} (hw : w < 16) : ∃ M', f_X12_lets N (nI w) M = some (b01 (letS M1 w), M') ∧ Kb [13, 14] M M' ∧ M'.1 0 2 = M.1 0 2 := by
  obtain ⟨n, hn, hnl, hlm, hho, hlw⟩ := H.2.1
  have hfin : ∀ M' : Mm, Kb [13, 14] M M' → ToldR M1.1 M'.1 := fun M' h => (h.mono (by simp [Lq])).told H
  unfold f_X12_lets
  refine itr_inv (P := fun R => ∃ M', R = some (b01 (letS M1 w), M') ∧ Kb [13, 14] M M' ∧ M'.1 0 2 = M.1 0 2) (fun j s M' => s = nI j ∧ Kb [13, 14] M M' ∧ M'.1 0 2 = M.1 0 2 ∧ ∀ l, l < j → (!bt (M1.1 1 3) l || bt (M1.1 3 l) w) = true) n
    (fun rec j s Mx hj ⟨hs, hK, h2, ha⟩ => ?_) (fun rec s Mx ⟨hs, hK, h2, ha⟩ => ?_) N 0 0 M (by omega) (by omega) ⟨nI_0.symm, Kb.rf _ _, rfl, fun l hl => absurd hl (by omega)⟩
  · subst hs
    have HT := hfin Mx hK
    obtain ⟨n', hn', hnl', hlm', hho', hlw'⟩ := HT.2.1
    have en : n' = n := by
      rw [hnl] at hnl'
      exact ((neq (by omega) (by omega) : (nI n = nI n') = (n = n')).mp hnl').symm
    subst en
    obtain ⟨l1, l2⟩ := hlw' j hj
    unfold B_X12_lets_2
    rw [hlm', if_pos (by rw [nlt (by omega) (by omega)]; exact hj), inb_n (by omega) (by omega), ix_n (by omega), if_pos rfl, l1]
    cases hb : bt (M1.1 1 3) j
    · rw [if_neg (show ¬ b01 (!false) = 0 by decide), nI_1]
      refine Or.inl ⟨_, _, ⟨rfl, hK, h2, fun l hl => ?_⟩, rfl⟩
      by_cases e : l = j
      · subst e; rw [hb]; rfl
      · exact ha l (by omega)
    · rw [if_pos (show b01 (!true) = 0 by decide)]
      obtain ⟨My, a1, a2, a3⟩ := lets_e hN (by omega : j < 12) hw l2
      have hKy : Kb [13, 14] M My := hK.tr ⟨a2, fun i hi => a3 i (by rintro rfl; exact hi (by simp [Lx])) (by rintro rfl; exact hi (by simp [Lx])) (by rintro rfl; exact hi (by simp [Lx]))⟩
      have hy2 : My.1 0 2 = M.1 0 2 := (a3 2 (by omega) (by omega) (by omega)).trans h2
      rw [bd_of a1]
      cases hm : bt (M1.1 3 j) w
      · rw [if_pos b01_f]
        refine Or.inr ⟨My, ?_, hKy, hy2⟩
        have : letS M1 w = false := by
          unfold letS
          rw [hnl, ix_n (by omega), al_f j hj (by rw [hb, hm]; rfl), Bool.and_false]
        rw [this]; rfl
      · rw [if_neg (show ¬ b01 true = 0 by decide), nI_1]
        refine Or.inl ⟨_, _, ⟨rfl, hKy, hy2, fun l hl => ?_⟩, rfl⟩
        by_cases e : l = j
        · subst e; rw [hb, hm]; rfl
        · exact ha l (by omega)
  · subst hs
    have HT := hfin Mx hK
    have hlm' : Mx.1 0 15 = nI n := by rw [hK.2 15 (by simp [Lx])]; exact hlm
    unfold B_X12_lets_2
    rw [hlm', if_neg (by rw [nlt (by omega) (by omega)]; omega)]
    dsimp only
    rw [bd_of (mWo hN HT.t _), isWo_n hw, bz_b, if_pos rfl]
    refine ⟨Mx, ?_, hK, h2⟩
    unfold letS
    rw [hnl, ix_n (by omega), al_t.mpr ha, Bool.and_true]
/-- the set by a budget -/
theorem draws_e (hN : 100000 ≤ N) (h21 : ∀ w, w < 16 → M.1 21 w = b01 (letS M1 w)) (b : Int32) : ∃ M', f_X12_draws N b M = some (0, M') ∧ Fr [19] M M' ∧ ∀ w, w < 16 → M'.1 19 w = b01 (setS M1 b w) := by
  obtain ⟨s', M', rec, ⟨hs, hF, hv⟩, he⟩ := itr_go (B := B_X12_draws_2 N b fun z6 M7 => some (0, M7)) (fun j s M' => s = nI j ∧ Fr [19] M M' ∧ ∀ w, w < j → M'.1 19 w = b01 (setS M1 b w)) 16
    (fun rec j s Mx hj ⟨hs, hF, hv⟩ => by
      subst hs
      have e21 : Mx.1 21 j = b01 (letS M1 j) := by rw [hF.1 21 (by simp)]; exact h21 j hj
      have fin : ∀ x : Bool, x = setS M1 b j → ∃ s' M', (s' = nI (j + 1) ∧ Fr [19] M M' ∧ ∀ w, w < j + 1 → M'.1 19 w = b01 (setS M1 b w)) ∧ rec (nI (j + 1)) (wI Mx 19 j (b01 x)) = rec s' M' := by
        intro x hx
        refine ⟨_, _, ⟨rfl, hF.wI (by simp), fun w hw => ?_⟩, rfl⟩
        simp only [wI_g, if_true, upd_g]
        by_cases e : w = j
        · subst e; rw [if_pos rfl, hx]
        · rw [if_neg e]; exact hv w (by omega)
      unfold B_X12_draws_2
      rw [if_pos (by rw [lt16 (by omega)]; exact hj), inb_n (by omega) (by omega), ix_n (by omega)]
      simp only [if_true, lt_eq, nI_1, zn_0, zn_1]
      rw [e21, bd_of (bits_e hN), (popc_rk j hj).2]
      cases hl : letS M1 j
      · rw [if_pos b01_f]
        exact fin false (by unfold setS; rw [hl]; rfl)
      · rw [if_neg (show ¬ b01 true = 0 by decide)]
        by_cases hb : b < nI (popc j)
        · rw [if_pos hb]
          exact fin false (by unfold setS; simp [hb])
        · rw [if_neg hb]
          exact fin true (by unfold setS; simp [hb, hl])) N 0 0 M (by omega) (by omega) ⟨nI_0.symm, Fr.rf _ _, fun l hl => absurd hl (by omega)⟩
  subst hs
  refine ⟨M', ?_, hF, hv⟩
  unfold f_X12_draws
  rw [he]
  unfold B_X12_draws_2
  rw [if_neg (show ¬ nI 16 < 16 by decide)]
/-- the costs of one plan -/
def CoOk (M1 : Mm) (M : Mm) (p : Nat) : Prop := plS (M1.1 1 0) p = true → ∀ w, w < 16 → (M.1 18 (16 * p + w)).toInt = if woS (M1.1 1 0) w then cstZ (M1.1 2) p w else 0
theorem finds1 (hN : 100000 ≤ N) (H : ToldR M1.1 M.1) {p : Nat} (hp : p < 256) (h20 : M.1 20 p = b01 (plS (M1.1 1 0) p)) (G : Unit → Mm → Rs) : ∃ M', itr (B_X12_finds_60 N (nI p) G) N 0 M = G () M' ∧ Kb [15, 16, 17, 18] M M' ∧ M'.1 0 2 = M.1 0 2 ∧ CoOk M1 M' p ∧ ∀ q, q ≠ p → ∀ w, w < 16 → M'.1 18 (16 * q + w) = M.1 18 (16 * q + w) := by
  cases hP : plS (M1.1 1 0) p
  · obtain ⟨N', hN'⟩ : ∃ N', N = N' + 1 := ⟨N - 1, by omega⟩
    refine ⟨M, ?_, Kb.rf _ _, rfl, (fun h => by rw [hP] at h; cases h), fun _ _ _ _ => rfl⟩
    have : itr (B_X12_finds_60 N (nI p) G) N 0 M = itr (B_X12_finds_60 N (nI p) G) (N' + 1) 0 M := by rw [hN']
    rw [this, itr_s]
    unfold B_X12_finds_60
    rw [if_pos (by decide), inb_n (by omega) (by omega), ix_n (by omega), if_pos rfl, h20, hP, if_pos b01_f]
  · obtain ⟨s', M', rec, ⟨hs, hK, h2, hv, hq⟩, he⟩ := itr_go (B := B_X12_finds_60 N (nI p) G) (fun j s M' => s = nI j ∧ Kb [15, 16, 17, 18] M M' ∧ M'.1 0 2 = M.1 0 2 ∧ (∀ w, w < j → (M'.1 18 (16 * p + w)).toInt = if woS (M1.1 1 0) w then cstZ (M1.1 2) p w else 0) ∧ ∀ q, q ≠ p → ∀ w, w < 16 → M'.1 18 (16 * q + w) = M.1 18 (16 * q + w)) 16
      (fun rec j s Mx hj ⟨hs, hK, h2, hv, hq⟩ => by
        subst hs
        have HT : ToldR M1.1 Mx.1 := (hK.mono (by simp [Lq])).told H
        have e20 : Mx.1 20 p = b01 true := by rw [hK.1.1 20 (by simp), h20, hP]
        have fin : ∀ (My : Mm) (x : Int32), Kb [15, 16, 17, 18] M My → My.1 0 2 = M.1 0 2 → My.1 18 = Mx.1 18 → x.toInt = (if woS (M1.1 1 0) j then cstZ (M1.1 2) p j else 0) → ∃ s' M', (s' = nI (j + 1) ∧ Kb [15, 16, 17, 18] M M' ∧ M'.1 0 2 = M.1 0 2 ∧ (∀ w, w < j + 1 → (M'.1 18 (16 * p + w)).toInt = if woS (M1.1 1 0) w then cstZ (M1.1 2) p w else 0) ∧ ∀ q, q ≠ p → ∀ w, w < 16 → M'.1 18 (16 * q + w) = M.1 18 (16 * q + w)) ∧ rec (nI (j + 1)) (wI My 18 (16 * p + j) x) = rec s' M' := by
          intro My x hKy hy2 h18 hx
          refine ⟨_, _, ⟨rfl, hKy.w1 (by simp) (by omega), by rw [wI_g, if_neg (by omega)]; exact hy2, fun w hw => ?_, fun q hqp w hw => ?_⟩, rfl⟩
          · simp only [wI_g, if_true, upd_g]
            by_cases e : w = j
            · subst e; rw [if_pos rfl]; exact hx
            · rw [if_neg (by omega), h18]; exact hv w (by omega)
          · simp only [wI_g, if_true, upd_g]
            rw [if_neg (by omega), h18]
            exact hq q hqp w hw
        unfold B_X12_finds_60
        rw [if_pos (by rw [lt16 (by omega)]; exact hj), inb_n (by omega) (by omega), ix_n (by omega), if_pos rfl, e20, if_neg (show ¬ b01 true = 0 by decide), bd_of (mWo hN HT.t _), isWo_n hj, nI_1, lmul16, nI_add, inb_n (by omega) (by omega), ix_n (by omega)]
        simp only [if_true, lt_eq]
        cases hwo : woS (M1.1 1 0) j
        · rw [if_pos b01_f]
          exact fin Mx 0 hK h2 rfl (by rw [hwo]; rfl)
        · rw [if_neg (show ¬ b01 true = 0 by decide)]
          obtain ⟨x, x1, x2⟩ := hired_e hN (M := Mx) HT.num2 hp
          obtain ⟨y, My, y1, y2, y3, y4, y5, y6⟩ := mlat_e hN HT hp hj hP
          rw [bd_of x1, bd_of y1]
          have hf := fare_b HT.num p 4 (by omega)
          have ex : x.toInt = fareZ (M1.1 2) p := by rw [x2, fareZ_nu (fun k hk => HT.nu k (by omega))]
          refine fin My (x + y) (hK.tr (y5.mono (by simp))) (y6.trans h2) (y5.1.1 18 (by simp)) ?_
          rw [hwo, if_pos rfl]
          unfold cstZ
          unfold fareZ at ex ⊢
          rw [i_add (by omega) (by omega), ex, y2]) N 0 0 M (by omega) (by omega) ⟨nI_0.symm, Kb.rf _ _, rfl, fun l hl => absurd hl (by omega), fun _ _ _ _ => rfl⟩
    subst hs
    refine ⟨M', ?_, hK, h2, fun _ => hv, hq⟩
    rw [he]
    unfold B_X12_finds_60
    rw [if_neg (show ¬ nI 16 < 16 by decide)]
theorem finds_e (hN : 100000 ≤ N) (H : ToldR M1.1 M.1) (hc : CacheM M1 M) : ∃ M', f_X12_finds N M = some (0, M') ∧ Kb Lq M M' ∧ M'.1 0 2 = 1 ∧ CacheM M1 M' := by
  unfold f_X12_finds
  by_cases h0 : M.1 0 2 = 0
  · rw [if_pos h0, lt_eq]
    -- who is let
    obtain ⟨s', Ma, rec, ⟨hs, hK, h2, hv⟩, he⟩ := itr_go (B := B_X12_finds_15 N fun z5 M6 => (itr (B_X12_finds_40 N fun z20 M21 => (bd (f_X12_draws N (M21.1 2 (ix 42)) M21) fun r22 M23 => (some (0, M23)))) N 0 M6)) (fun j s M' => s = nI j ∧ Kb [13, 14, 21] M M' ∧ M'.1 0 2 = 1 ∧ ∀ w, w < j → M'.1 21 w = b01 (letS M1 w)) 16
      (fun rec j s Mx hj ⟨hs, hK, h2, hv⟩ => by
        subst hs
        have HT : ToldR M1.1 Mx.1 := (hK.mono (by simp [Lq])).told H
        obtain ⟨My, a1, a2, a3⟩ := mlets_e hN HT hj
        unfold B_X12_finds_15
        rw [if_pos (by rw [lt16 (by omega)]; exact hj), bd_of a1, inb_n (by omega) (by omega), ix_n (by omega), if_pos rfl, lt_eq, zn_b, nI_1]
        refine ⟨_, _, ⟨rfl, (hK.tr (a2.mono (by simp))).w1 (by simp) (by omega), by rw [wI_g, if_neg (by omega), a3]; exact h2, fun w hw => ?_⟩, rfl⟩
        simp only [wI_g, if_true, upd_g]
        by_cases e : w = j
        · subst e; rw [if_pos rfl]
        · rw [if_neg e, a2.1.1 21 (by simp)]; exact hv w (by omega)) N 0 0 (wI M 0 2 1) (by omega) (by omega) ⟨nI_0.symm, (Kb.rf _ M).w0 (by simp [Lx]), by simp [wI_g, upd_g], fun l hl => absurd hl (by omega)⟩
    subst hs
    rw [he]
    unfold B_X12_finds_15
    rw [if_neg (show ¬ nI 16 < 16 by decide)]
    dsimp only
    -- the costs
    obtain ⟨s', Mb, rec, ⟨hs, hK3, h3, hv3⟩, he3⟩ := itr_go (B := B_X12_finds_40 N fun z20 M21 => (bd (f_X12_draws N (M21.1 2 (ix 42)) M21) fun r22 M23 => (some (0, M23)))) (fun j s M' => s = nI j ∧ Kb [15, 16, 17, 18, 20] Ma M' ∧ M'.1 0 2 = 1 ∧ ∀ p, p < j → M'.1 20 p = b01 (plS (M1.1 1 0) p) ∧ CoOk M1 M' p) 256
      (fun rec j s Mx hj ⟨hs, hKx, hx2, hvx⟩ => by
        subst hs
        have HT : ToldR M1.1 Mx.1 := ((hK.mono (by simp [Lq])).tr (hKx.mono (by simp [Lq]))).told H
        unfold B_X12_finds_40
        rw [if_pos (by rw [lt256 (by omega)]; exact hj), bd_of (mPl hN HT.t _), isPl_n hj, inb_n (by omega) (by omega), ix_n (by omega), if_pos rfl, lt_eq, zn_b, nI_1]
        have hKw : Kb [15, 16, 17, 18, 20] Ma (wI Mx 20 j (b01 (plS (M1.1 1 0) j))) := hKx.w1 (by simp) (by omega)
        have HW : ToldR M1.1 (wI Mx 20 j (b01 (plS (M1.1 1 0) j))).1 := ((hK.mono (by simp [Lq])).tr (hKw.mono (by simp [Lq]))).told H
        obtain ⟨My, a1, a2, a3, a4, a5⟩ := finds1 hN HW hj (by simp [wI_g, upd_g]) (fun z18 M19 => rec (nI (j + 1)) M19)
        rw [a1]
        refine ⟨_, _, ⟨rfl, hKw.tr (a2.mono (by simp)), by rw [a3, wI_g, if_neg (by omega)]; exact hx2, fun p hp => ?_⟩, rfl⟩
        have e20 : My.1 20 p = if p = j then b01 (plS (M1.1 1 0) j) else Mx.1 20 p := by
          rw [a2.1.1 20 (by simp)]
          simp [wI_g, upd_g]
        by_cases e : p = j
        · subst e
          exact ⟨by rw [e20, if_pos rfl], a4⟩
        · have := hvx p (by omega)
          refine ⟨by rw [e20, if_neg e]; exact this.1, fun hP w hw => ?_⟩
          rw [a5 p e w hw, wI_g, if_neg (by omega)]
          exact this.2 hP w hw) N 0 0 Ma (by omega) (by omega) ⟨nI_0.symm, Kb.rf _ _, h2, fun l hl => absurd hl (by omega)⟩
    subst hs
    rw [he3]
    unfold B_X12_finds_40
    rw [if_neg (show ¬ nI 256 < 256 by decide)]
    have hKb : Kb Lq M Mb := (hK.mono (by simp [Lq])).tr (hK3.mono (by simp [Lq]))
    have HT : ToldR M1.1 Mb.1 := hKb.told H
    have e21 : ∀ w, w < 16 → Mb.1 21 w = b01 (letS M1 w) := fun w hw => by rw [hK3.1.1 21 (by simp)]; exact hv w hw
    have e42 : Mb.1 2 (ix 42) = M1.1 2 42 := HT.nu 42 (by omega)
    obtain ⟨Mc, c1, c2, c3⟩ := draws_e hN e21 (M1.1 2 42)
    dsimp only
    rw [e42, bd_of c1]
    have c0 : Mc.1 0 = Mb.1 0 := c2.1 0 (by simp)
    refine ⟨Mc, rfl, hKb.tr ⟨c2.mono (by simp [Lq]), fun i _ => by rw [c0]⟩, by rw [c0]; exact h3, Or.inr ⟨by rw [c0]; exact h3, fun w hw => ⟨by rw [c2.1 21 (by simp)]; exact e21 w hw, c3 w hw⟩, fun p hp => ?_⟩⟩
    have := hv3 p hp
    exact ⟨by rw [c2.1 20 (by simp)]; exact this.1, fun hP w hw => by rw [c2.1 18 (by simp)]; exact this.2 hP w hw⟩
  · rw [if_neg h0]
    rcases hc with h | h
    · exact absurd h h0
    · exact ⟨M, rfl, Kb.rf _ _, h.1, Or.inr h⟩
end Finds
