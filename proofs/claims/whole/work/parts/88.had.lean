/-! what is had and left by the rules, on both sides -/
def rvI (M1 : Mm) (h : Nat) (p w : Int32) : Int32 := match rpR (M1.1 (6 + 2 * h)) p w 0 (ix (M1.1 (5 + 2 * h) 1)) [] with
  | some (x :: _) => x
  | _ => 0
def hadS (M1 : Mm) (h : Nat) (p w : Int32) : Int32 := hdI (M1.1 2 (6 * h + 4)) (rvI M1 h p w)
def lfZ (M1 : Mm) (p w h : Nat) : Int := cut0 (-balZ (M1.1 2) p w h - (hadS M1 h (nI p) (nI w)).toInt)
def bt1 (M1 : Mm) (p w h : Nat) : Int := (hadS M1 h (nI p) (nI w)).toInt * zz (M1.1 2) (6 * h + 3) + lfZ M1 p w h * zz (M1.1 2) 41
def brZ (M1 : Mm) (p w j : Nat) : Int := fareZ (M1.1 2) p + sm j (bt1 M1 p w)
section Had
variable {N : Nat} {M1 M : Mm}
theorem had_b (hn : NumB (M1.1 2)) {h : Nat} (hh : h < 4) {p w : Int32} : 0 ≤ (hadS M1 h p w).toInt ∧ (hadS M1 h p w).toInt ≤ 99 := by
  have a := hn.1 (6 * h + 4) (by omega)
  have b := hn.2 (6 * h + 4) (by omega) (by omega)
  unfold zz at a b
  have c := hd_b (lim := M1.1 2 (6 * h + 4)) (v := rvI M1 h p w) a.1
  unfold hadS
  omega
theorem lf_b (hn : NumB (M1.1 2)) {p w h : Nat} (hh : h < 4) : 0 ≤ lfZ M1 p w h ∧ lfZ M1 p w h ≤ 198 := by
  have a := had_b hn hh (p := nI p) (w := nI w)
  have b := balZ_b hn p w hh
  unfold lfZ cut0
  split <;> omega
theorem bt1_b (hn : NumB (M1.1 2)) {p w h : Nat} (hh : h < 4) : 0 ≤ bt1 M1 p w h ∧ bt1 M1 p w h ≤ 300000 := by
  have a := had_b hn hh (p := nI p) (w := nI w)
  have b := lf_b hn (p := p) (w := w) hh
  have c := mul_b a.1 a.2 (hn.1 (6 * h + 3) (by omega)).1 (hn.2 (6 * h + 3) (by omega) (by omega))
  have d := mul_b b.1 b.2 (hn.1 41 (by omega)).1 (hn.1 41 (by omega)).2
  unfold bt1
  omega
theorem br_b (hn : NumB (M1.1 2)) {p w : Nat} : ∀ j, j ≤ 4 → 0 ≤ brZ M1 p w j ∧ brZ M1 p w j ≤ 12000 + 300000 * j := by
  intro j
  have f := fare_b hn p 4 (by omega)
  have f' : 0 ≤ fareZ (M1.1 2) p ∧ fareZ (M1.1 2) p ≤ 12000 := by unfold fareZ; omega
  unfold brZ
  induction j with
  | zero => intro _; show 0 ≤ fareZ (M1.1 2) p + 0 ∧ _; unfold sm; omega
  | succ j ih =>
    intro hj
    have a := ih (by omega)
    have b := bt1_b hn (p := p) (w := w) (h := j) (by omega)
    rw [sm_s]
    omega
theorem ru_c (H : ToldR M1.1 M.1) {h : Nat} (hh : h < 4) (p w : Int32) : (M1.1 (5 + 2 * h) 1 = 0 ∧ rvI M1 h p w = 0) ∨ ∃ m, 0 < m ∧ m ≤ 40 ∧ M1.1 (5 + 2 * h) 1 = nI m ∧ rpR (M1.1 (6 + 2 * h)) p w 0 m [] = some [rvI M1 h p w] := by
  have r := H.2.2.1 h hh
  rw [show 1 + 4 + 2 * h = 5 + 2 * h by omega, show 1 + 5 + 2 * h = 6 + 2 * h by omega] at r
  rcases r with ⟨-, q⟩ | ⟨q1, n, m, sn, v, p1, p2, p3, p4, p5, p6, p7, p8⟩
  · refine Or.inl ⟨q, ?_⟩
    unfold rvI
    rw [q]
    rfl
  · refine Or.inr ⟨m, p5, p6, p7, ?_⟩
    unfold rvI
    rw [p7, ix_n (by omega), p8 p w]
theorem had_k (hN : 100000 ≤ N) {M2 : Mm} (H : ToldR M1.1 M2.1) (hM : ∀ b, b < 34 → M.1 b = M1.1 b) {h : Nat} (hh : h < 4) (p w : Int32) : ∃ M', f_X8_hadAt N (nI h) p w M = some (hadS M1 h p w, M') ∧ Fr [37] M M' := by
  have r := ru_c H hh p w
  obtain ⟨M', a1, a2⟩ := had_c (N := N) (M := M) hN hh (p := p) (w := w) (v := rvI M1 h p w) (by rw [hM _ (by omega), hM _ (by omega)]; exact r)
  rw [hM 2 (by omega)] at a1
  exact ⟨M', a1, a2⟩
theorem had_m (hN : 100000 ≤ N) (H : ToldR M1.1 M.1) {h : Nat} (hh : h < 4) (p w : Int32) : ∃ M', f_X12_hadOf N p w (nI h) M = some (hadS M1 h p w, M') ∧ Fr [0, 13, 14] M M' ∧ ∀ k, k ≠ 20 → k ≠ 21 → k ≠ 22 → M'.1 0 k = M.1 0 k := by
  have hz := (H.num.1 (6 * h + 4) (by omega)).1
  unfold zz at hz
  have r := H.2.2.1 h hh
  rw [show 1 + 4 + 2 * h = 5 + 2 * h by omega, show 1 + 5 + 2 * h = 6 + 2 * h by omega] at r
  unfold f_X12_hadOf
  rw [bd_of (mHa H.t _), isHa_n hh]
  cases hb : bt (M1.1 1 0) h
  · rw [if_pos b01_f]
    refine ⟨M, ?_, Fr.rf _ _, fun _ _ _ _ => rfl⟩
    unfold hadS
    rw [H.1.2.2.2.2 h 4 hh (by omega) hb, hd_0]
  · rw [if_neg (show ¬ b01 true = 0 by decide), inb_n (by omega) (by omega), ix_n (by omega), if_pos rfl]
    rcases r with ⟨q0, q⟩ | ⟨q1, n, m, sn, v, p1, p2, p3, p4, p5, p6, p7, p8⟩
    · rw [if_pos q0]
      refine ⟨M, ?_, Fr.rf _ _, fun _ _ _ _ => rfl⟩
      have : rvI M1 h p w = 0 := by unfold rvI; rw [q]; rfl
      unfold hadS
      rw [this, hd_v0 hz]
    · rw [if_neg (by rw [q1]; decide)]
      obtain ⟨M', a1, a2, a3⟩ := worth_r hN hh p1 p2 p3 p4 p w
      have e2 : M'.1 2 = M.1 2 := a2.1 2 (by decide)
      have ev : rvI M1 h p w = v p w := by unfold rvI; rw [p7, ix_n (by omega), p8 p w]
      rw [bd_of a1, lmul6, add4, inb_n (by omega) (by omega), ix_n (by omega), e2, H.nu (6 * h + 4) (by omega)]
      refine ⟨M', ?_, a2, a3⟩
      unfold hadS
      rw [ev]
      unfold hdI
      have z0 : (0 : Int32).toInt = 0 := rfl
      by_cases c1 : v p w < 0
      · rw [if_pos c1]
        rw [toI_lt] at c1
        rw [if_neg (show ¬ M1.1 2 (6 * h + 4) < v p w by rw [toI_lt]; omega), if_neg (show ¬ 0 < v p w by rw [toI_lt]; omega)]
      · rw [if_neg c1]
        rw [toI_lt] at c1
        by_cases c2 : M1.1 2 (6 * h + 4) < v p w
        · rw [if_pos c2, if_pos c2]
          by_cases c3 : 0 < M1.1 2 (6 * h + 4)
          · rw [if_pos c3]; rfl
          · rw [if_neg c3]
            rw [toI_lt] at c3
            have : M1.1 2 (6 * h + 4) = 0 := by rw [toI_eq]; omega
            rw [this]; rfl
        · rw [if_neg c2, if_neg c2]
          by_cases c3 : 0 < v p w
          · rw [if_pos c3]; rfl
          · rw [if_neg c3]
            rw [toI_lt] at c3
            have : v p w = 0 := by rw [toI_eq]; omega
            rw [this]; rfl
/-- what is left, of a balance and of what is had -/
theorem lft_c (hn : NumB (M1.1 2)) {p w h : Nat} (hh : h < 4) {b : Int32} (hb : b.toInt = balZ (M1.1 2) p w h) : (-b - hadS M1 h (nI p) (nI w)).toInt = -balZ (M1.1 2) p w h - (hadS M1 h (nI p) (nI w)).toInt ∧ (if 0 < -b - hadS M1 h (nI p) (nI w) then -b - hadS M1 h (nI p) (nI w) else 0).toInt = lfZ M1 p w h := by
  have a := had_b hn hh (p := nI p) (w := nI w)
  have c := balZ_b hn p w hh
  have e1 : (-b).toInt = -balZ (M1.1 2) p w h := by rw [i_neg (by omega), hb]
  have e2 : (-b - hadS M1 h (nI p) (nI w)).toInt = -balZ (M1.1 2) p w h - (hadS M1 h (nI p) (nI w)).toInt := by rw [i_sub (by omega) (by omega), e1]
  refine ⟨e2, ?_⟩
  unfold lfZ cut0
  by_cases q : 0 < -b - hadS M1 h (nI p) (nI w)
  · rw [if_pos q]
    rw [zI, e2] at q
    rw [if_pos q]
    exact e2
  · rw [if_neg q]
    rw [zI, e2] at q
    rw [if_neg q]
    rfl
theorem lft_m (hn : NumB (M1.1 2)) {p w h : Nat} (hh : h < 4) {k : Int32} (hk : k.toInt = lkZ (M1.1 2) p w h) : (if 0 < k - hadS M1 h (nI p) (nI w) then k - hadS M1 h (nI p) (nI w) else 0).toInt = lfZ M1 p w h := by
  have a := had_b hn hh (p := nI p) (w := nI w)
  have c := balZ_b hn p w hh
  unfold lkZ at hk
  have e2 : (k - hadS M1 h (nI p) (nI w)).toInt = k.toInt - (hadS M1 h (nI p) (nI w)).toInt := by
    rw [i_sub (by split at hk <;> omega) (by split at hk <;> omega)]
  have z0 : (0 : Int32).toInt = 0 := rfl
  unfold lfZ cut0
  by_cases q : 0 < k - hadS M1 h (nI p) (nI w)
  · rw [if_pos q]
    rw [zI, e2] at q
    split at hk <;> split <;> omega
  · rw [if_neg q]
    rw [zI, e2] at q
    split at hk <;> split <;> omega
theorem i_bt1 (hn : NumB (M1.1 2)) {p w h : Nat} (hh : h < 4) {l : Int32} (hl : l.toInt = lfZ M1 p w h) : (hadS M1 h (nI p) (nI w) * M1.1 2 (6 * h + 3) + l * M1.1 2 41).toInt = bt1 M1 p w h := by
  have a := had_b hn hh (p := nI p) (w := nI w)
  have b := lf_b hn (p := p) (w := w) hh
  have c := mul_b a.1 a.2 (hn.1 (6 * h + 3) (by omega)).1 (hn.2 (6 * h + 3) (by omega) (by omega))
  have d := mul_b b.1 b.2 (hn.1 41 (by omega)).1 (hn.1 41 (by omega)).2
  unfold zz at c d
  have m1 : (hadS M1 h (nI p) (nI w) * M1.1 2 (6 * h + 3)).toInt = (hadS M1 h (nI p) (nI w)).toInt * (M1.1 2 (6 * h + 3)).toInt := i_mul (by omega) (by omega)
  have m2 : (l * M1.1 2 41).toInt = lfZ M1 p w h * (M1.1 2 41).toInt := by rw [i_mul (by rw [hl]; omega) (by rw [hl]; omega), hl]
  rw [i_add (by rw [m1, m2]; omega) (by rw [m1, m2]; omega), m1, m2]
  rfl
/-- what a plan costs by the rules: the class -/
theorem cbr_e (hN : 100000 ≤ N) {M2 : Mm} (H : ToldR M1.1 M2.1) (hM : ∀ b, b < 34 → M.1 b = M1.1 b) {p w : Nat} (hp : p < 256) (hw : w < 16) : ∃ x M', f_X8_costOf N (nI p) (nI w) M = some (x, M') ∧ x.toInt = brZ M1 p w 4 ∧ Fr [37] M M' := by
  have hn := H.num
  obtain ⟨f, f1, f2⟩ := fare_e hN (M := M) (p := p) (by rw [hM 2 (by omega)]; exact hn) hp
  rw [hM 2 (by omega)] at f2
  obtain ⟨s', Ma, rec, ⟨x, hs, hx, hF⟩, he⟩ := itr_go (B := B_X8_costOf_12 N (nI p) (nI w) fun z9 M10 => some (z9, M10)) (fun j s M' => ∃ x, s = (x, nI j) ∧ x.toInt = brZ M1 p w j ∧ Fr [37] M M') 4
    (fun rec j s Mx hj ⟨x, hs, hx, hF⟩ => by
      subst hs
      have hMx : ∀ b, b < 34 → Mx.1 b = M1.1 b := fun b hb => by rw [hF.1 b (by simp; omega)]; exact hM b hb
      obtain ⟨My, a1, a2⟩ := had_k hN H hMx hj (nI p) (nI w)
      have e2 : My.1 2 = M1.1 2 := by rw [a2.1 2 (by decide)]; exact hMx 2 (by omega)
      obtain ⟨y, b1, b2⟩ := bal_e (N := N) (M := My) (p := p) (w := w) (h := j) (by rw [e2]; exact hn) hp hw hj
      rw [e2] at b2
      unfold B_X8_costOf_12
      dsimp only
      rw [if_pos (by rw [lt4 (by omega)]; exact hj), bd_of a1, bd_of b1, mul6, add3, inb_n (by omega) (by omega), ix_n (by omega), e2, nI_1]
      simp only [lt_eq, if_true]
      have l := lft_c hn hj b2
      have q := i_bt1 hn hj l.2
      have r1 := br_b hn (p := p) (w := w) j (by omega)
      have r2 := bt1_b hn (p := p) (w := w) hj
      refine ⟨_, _, ⟨_, rfl, ?_, hF.tr a2⟩, rfl⟩
      rw [show ix (41 : Int32) = 41 by rfl, i_add (by rw [q, hx]; omega) (by rw [q, hx]; omega), q, hx]
      unfold brZ
      rw [sm_s]
      omega) N 0 (f, 0) M (by omega) (by omega) ⟨f, by rw [nI_0], by rw [f2]; unfold brZ sm; omega, Fr.rf _ _⟩
  subst hs
  refine ⟨x, Ma, ?_, hx, hF⟩
  unfold f_X8_costOf
  rw [bd_of f1, he]
  have eB : ∀ G rec, B_X8_costOf_12 N (nI p) (nI w) G rec (x, nI 4) Ma = G x Ma := fun G rec => by
    unfold B_X8_costOf_12
    dsimp only
    rw [if_neg (show ¬ nI 4 < 4 by decide)]
  rw [eB]
theorem k_slots {L : List Nat} {M' : Mm} (F : Fr [0, 13, 14] M M') (h : ∀ k, k ≠ 20 → k ≠ 21 → k ≠ 22 → M'.1 0 k = M.1 0 k) (hL : 13 ∈ L) (hL2 : 14 ∈ L) : Kb L M M' := ⟨F.mono (by simp [hL, hL2]), fun i hi => h i (by rintro rfl; exact hi (by simp [Lx])) (by rintro rfl; exact hi (by simp [Lx])) (by rintro rfl; exact hi (by simp [Lx]))⟩
theorem Kb.lq {M' : Mm} (h : Kb [13, 14, 15, 16] M M') : Kb Lq M M' := h.mono (by simp [Lq])
/-- what is left at a harbour: the reference, when what lacks is found -/
theorem left_m (hN : 100000 ≤ N) (H : ToldR M1.1 M.1) {p w h : Nat} (hh : h < 4) (hl : (M.1 16 h).toInt = lkZ (M1.1 2) p w h) : ∃ x M', f_X12_leftOf N (nI p) (nI w) (nI h) M = some (x, M') ∧ x.toInt = lfZ M1 p w h ∧ Fr [0, 13, 14] M M' ∧ ∀ k, k ≠ 20 → k ≠ 21 → k ≠ 22 → M'.1 0 k = M.1 0 k := by
  obtain ⟨M', a1, a2, a3⟩ := had_m hN H hh (nI p) (nI w)
  have l := lft_m H.num hh hl
  unfold f_X12_leftOf
  rw [inb_n (by omega) (by omega), ix_n (by omega), if_pos rfl, bd_of a1, lt_eq]
  by_cases q : 0 < M.1 16 h - hadS M1 h (nI p) (nI w)
  · rw [if_pos q] at l ⊢
    exact ⟨_, M', rfl, l, a2, a3⟩
  · rw [if_neg q] at l ⊢
    exact ⟨_, M', rfl, l, a2, a3⟩
theorem lacks_m (hN : 100000 ≤ N) (H : ToldR M1.1 M.1) {p w : Nat} (hp : p < 256) (hw : w < 16) (hP : plS (M1.1 1 0) p = true) : ∃ M', f_X12_findLacks N (nI p) (nI w) M = some (0, M') ∧ Fr [15, 16] M M' ∧ ∀ h, h < 4 → (M'.1 16 h).toInt = lkZ (M1.1 2) p w h ∧ (M'.1 15 h).toInt = spZ (M1.1 2) p w h := by
  obtain ⟨M', a1, a2, a3⟩ := flacks hN H.num2 hp hw (H.bal2 hP)
  refine ⟨M', a1, a2, fun h hh => ⟨?_, ?_⟩⟩
  · rw [(a3 h hh).2]; unfold lkZ; rw [balZ_nu (fun k hk => H.nu k (by omega)) p w hh]
  · rw [(a3 h hh).1]; unfold spZ; rw [balZ_nu (fun k hk => H.nu k (by omega)) p w hh]
theorem fr_kb {L : List Nat} {M' : Mm} (F : Fr [15, 16] M M') (hL : 15 ∈ L) (hL2 : 16 ∈ L) : Kb L M M' := ⟨F.mono (by simp [hL, hL2]), fun i _ => by rw [F.1 0 (by decide)]⟩
theorem mbr_e (hN : 100000 ≤ N) (H : ToldR M1.1 M.1) {p w : Nat} (hp : p < 256) (hw : w < 16) (hP : plS (M1.1 1 0) p = true) : ∃ x M', f_X12_byRulesOf N (nI p) (nI w) M = some (x, M') ∧ x.toInt = brZ M1 p w 4 ∧ Kb [13, 14, 15, 16] M M' ∧ M'.1 0 2 = M.1 0 2 := by
  have hn := H.num
  obtain ⟨f, f1, f2⟩ := hired_e hN (M := M) (p := p) H.num2 hp
  obtain ⟨Mc, c1, c2, c3⟩ := lacks_m hN H hp hw hP
  have k0 : Kb [13, 14, 15, 16] M Mc := fr_kb c2 (by simp) (by simp)
  have ff : f.toInt = fareZ (M1.1 2) p := by rw [f2]; exact fareZ_nu (fun k hk => H.nu k (by omega)) p
  obtain ⟨s', Ma, rec, ⟨x, hs, hx, hK, h2, h16⟩, he⟩ := itr_go (B := B_X12_byRulesOf_15 N (nI p) (nI w) fun z10 M11 => some (z10, M11)) (fun j s M' => ∃ x, s = (x, nI j) ∧ x.toInt = brZ M1 p w j ∧ Kb [13, 14, 15, 16] M M' ∧ M'.1 0 2 = M.1 0 2 ∧ M'.1 16 = Mc.1 16) 4
    (fun rec j s Mx hj ⟨x, hs, hx, hK, h2, h16⟩ => by
      subst hs
      have Hx := hK.lq.told H
      obtain ⟨My, a1, a2, a3⟩ := had_m hN Hx hj (nI p) (nI w)
      have ky : Kb [13, 14, 15, 16] Mx My := k_slots a2 a3 (by simp) (by simp)
      have Hy := ky.lq.told Hx
      have y16 : My.1 16 = Mc.1 16 := by rw [a2.1 16 (by decide)]; exact h16
      obtain ⟨z, Mz, b1, b2, b3, b4⟩ := left_m hN Hy (p := p) (w := w) hj (by rw [y16]; exact (c3 j hj).1)
      have kz : Kb [13, 14, 15, 16] My Mz := k_slots b3 b4 (by simp) (by simp)
      unfold B_X12_byRulesOf_15
      dsimp only
      rw [if_pos (by rw [lt4 (by omega)]; exact hj), bd_of a1, lmul6, add3, inb_n (by omega) (by omega), ix_n (by omega), if_pos rfl, bd_of b1, lt_eq, nI_1, show ix (41 : Int32) = 41 by rfl, Hy.nu (6 * j + 3) (by omega), (kz.lq.told Hy).nu 41 (by omega)]
      have q := i_bt1 hn hj b2
      have r1 := br_b hn (p := p) (w := w) j (by omega)
      have r2 := bt1_b hn (p := p) (w := w) hj
      refine ⟨_, _, ⟨_, rfl, ?_, (hK.tr ky).tr kz, ?_, ?_⟩, rfl⟩
      · rw [i_add (by rw [q, hx]; omega) (by rw [q, hx]; omega), q, hx]
        unfold brZ
        rw [sm_s]
        omega
      · rw [b4 2 (by omega) (by omega) (by omega), a3 2 (by omega) (by omega) (by omega)]; exact h2
      · rw [b3.1 16 (by decide)]; exact y16) N 0 (f, 0) Mc (by omega) (by omega) ⟨f, by rw [nI_0], by rw [ff]; unfold brZ sm; omega, k0, by rw [c2.1 0 (by decide)], rfl⟩
  subst hs
  refine ⟨x, Ma, ?_, hx, hK, h2⟩
  unfold f_X12_byRulesOf
  rw [bd_of f1, bd_of c1, he]
  have eB : ∀ G rec, B_X12_byRulesOf_15 N (nI p) (nI w) G rec (x, nI 4) Ma = G x Ma := fun G rec => by
    unfold B_X12_byRulesOf_15
    dsimp only
    rw [if_neg (show ¬ nI 4 < 4 by decide)]
  rw [eB]
theorem step_byRules {M2 : Mm} (hN : 100000 ≤ N) (H : Rel M1 M2) (a b : Int32) : Ans (f_X11_byRules N a b M1) (f_X12_byRules N a b M2) := by
  unfold f_X11_byRules f_X12_byRules
  rw [bd_of (cPl hN a), bd_of (mPl hN H.1.t a)]
  cases hP : isPl (M1.1 1 0) a
  · rw [if_pos b01_f, if_pos b01_f]; exact ref1 H
  · rw [if_neg (show ¬ b01 true = 0 by decide), if_neg (show ¬ b01 true = 0 by decide), bd_of (cWo b), bd_of (mWo hN H.1.t b)]
    cases hW : isWo (M1.1 1 0) b
    · rw [if_pos b01_f, if_pos b01_f]; exact ref1 H
    · rw [if_neg (show ¬ b01 true = 0 by decide), if_neg (show ¬ b01 true = 0 by decide)]
      obtain ⟨p, hp, rfl, hp2⟩ := isPl_of hP
      obtain ⟨w, hw, rfl, hw2⟩ := isWo_of hW
      obtain ⟨x, Ma, a1, a2, a3⟩ := cbr_e hN H.1 (fun _ _ => rfl) hp hw
      obtain ⟨y, Mb, b1, b2, b3, b4⟩ := mbr_e hN H.1 hp hw hp2
      rw [bd_of a1, bd_of b1]
      refine Ans.q H rfl rfl (by rw [a2, b2]) ⟨fun k hk => a3.1 k (by simp; omega), H.2.2.2.1.fr (a3.on (by decide))⟩ (b3.lq.km (H.2.2.2.2.fr (fun _ _ => rfl) (b3.1.on (by decide)) b4))
end Had
