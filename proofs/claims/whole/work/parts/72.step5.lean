/-! steps that tell -/
theorem RestR.fr {C C' D D' : Nat → Nat → Int32} (h1 : ∀ b ∈ [27, 28, 29, 30, 31, 32, 33], C' b = C b) (h10 : C' 1 0 = C 1 0) (h06 : C' 0 6 = C 0 6) (h2 : ∀ b ∈ [1, 3, 4, 5, 23], D' b = D b) (d5 : D' 0 5 = D 0 5) (d14 : D' 0 14 = D 0 14) (d37 : D' 0 37 = D 0 37) (H : RestR C D) : RestR C' D' := by
  unfold RestR at *
  rw [h1 27 (by decide), h1 28 (by decide), h1 29 (by decide), h1 30 (by decide), h1 31 (by decide), h1 32 (by decide), h1 33 (by decide), h10, h06, h2 1 (by decide), h2 3 (by decide), h2 4 (by decide), h2 5 (by decide), h2 23 (by decide), d5, d14, d37]
  exact H
theorem CacheM.fs {M1 M1' M2 M2' : Mm} (h10 : M1'.1 1 0 = M1.1 1 0) (h12 : M1'.1 1 2 = M1.1 1 2) (h13 : M1'.1 1 3 = M1.1 1 3) (h1 : ∀ b ∈ [2, 3], M1'.1 b = M1.1 b) (h2 : ∀ b ∈ [18, 19, 20, 21], M2'.1 b = M2.1 b) (h0 : M2'.1 0 2 = M2.1 0 2) (H : CacheM M1 M2) : CacheM M1' M2' := by
  unfold CacheM setS letS at *
  rw [h10, h12, h13, h1 2 (by decide), h1 3 (by decide), h2 18 (by decide), h2 19 (by decide), h2 20 (by decide), h2 21 (by decide), h0]
  exact H
section Tell
variable {N : Nat} {M1 M2 : Mm}
theorem step_put (H : Rel M1 M2) (v : Int32) : Ans (f_X11_put N v M1) (f_X12_put N v M2) := by
  obtain ⟨n, n1, n2, n3, n4⟩ := H.2.2.1.2.2.2
  unfold f_X11_put f_X12_put
  rw [n2, n3]
  by_cases h : n < 12
  · rw [if_pos (by rw [lt12 (by omega)]; exact h), if_neg (show ¬ nI n = 12 by rw [eq12 (by omega)]; omega), inb_n (by omega) (by omega), ix_n (by omega)]
    simp only [if_true, lt_eq]
    have e1 : (wI M1 32 n v).1 0 6 = nI n := by rw [wI_g, if_neg (by omega)]; exact n2
    have e2 : (wI M2 23 n v).1 0 37 = nI n := by rw [wI_g, if_neg (by omega)]; exact n3
    rw [e1, e2, nI_1]
    have F1 : Fr [0, 32] M1 (wI (wI M1 32 n v) 0 6 (nI (n + 1))) := ((Fr.rf _ _).wI (by simp)).wI (by simp)
    have F2 : Fr [0, 23] M2 (wI (wI M2 23 n v) 0 37 (nI (n + 1))) := ((Fr.rf _ _).wI (by simp)).wI (by simp)
    have s1 : ∀ i, i ≠ 6 → (wI (wI M1 32 n v) 0 6 (nI (n + 1))).1 0 i = M1.1 0 i := fun i hi => by simp [wI_g, upd_g, hi]
    have s2 : ∀ i, i ≠ 37 → (wI (wI M2 23 n v) 0 37 (nI (n + 1))).1 0 i = M2.1 0 i := fun i hi => by simp [wI_g, upd_g, hi]
    have t1 : (wI (wI M1 32 n v) 0 6 (nI (n + 1))).1 0 6 = nI (n + 1) := by simp [wI_g, upd_g]
    have t2 : (wI (wI M2 23 n v) 0 37 (nI (n + 1))).1 0 37 = nI (n + 1) := by simp [wI_g, upd_g]
    have u1 : (wI (wI M1 32 n v) 0 6 (nI (n + 1))).1 32 = upd (M1.1 32) n v := by simp [wI_g]
    have u2 : (wI (wI M2 23 n v) 0 37 (nI (n + 1))).1 23 = upd (M2.1 23) n v := by simp [wI_g]
    obtain ⟨a, b, ⟨c1, c2, c3, c4⟩, d, e⟩ := H
    refine ⟨nI (n + 1), _, _, by rw [t1], by rw [t2], a.fr (F1.on (by decide)) (F2.on (by decide)) (s2 15 (by omega)) (s2 39 (by omega)), b.fr (s1 2 (by omega)) (F1.on (by decide)) (F2.on (by decide)) (s2 48 (by omega)) (s2 49 (by omega)) (s2 50 (by omega)), ⟨?_, ?_, ?_, ?_⟩, d.fr (F1.on (by decide)), e.fr (F1.on (by decide)) (F2.on (by decide)) (s2 2 (by omega))⟩
    · rw [F1.1 33 (by decide), F2.1 1 (by decide)]; exact c1
    · rw [F1.1 1 (by decide), F1.1 27 (by decide), F1.1 28 (by decide), F1.1 29 (by decide), s2 5 (by omega), F2.1 3 (by decide), F2.1 4 (by decide)]; exact c2
    · rw [F1.1 30 (by decide), F1.1 31 (by decide), s2 14 (by omega), F2.1 5 (by decide)]; exact c3
    · refine ⟨n + 1, by omega, t1, t2, fun i hi => ?_⟩
      rw [u1, u2, upd_g, upd_g]
      split
      · rfl
      · exact n4 i (by omega)
  · rw [if_neg (by rw [lt12 (by omega)]; exact h), if_pos (by rw [eq12 (by omega)]; omega)]
    exact ref6 H
theorem step_year (hN : 100000 ≤ N) (H : Rel M1 M2) (a : Int32) : Ans (f_X11_year N a M1) (f_X12_year N a M2) := by
  unfold f_X11_year f_X12_year
  rw [bd_of (cWo a), bd_of (mWo hN H.1.t a)]
  cases hW : isWo (M1.1 1 0) a
  · rw [if_pos b01_f, if_pos b01_f]; exact ref1 H
  · rw [if_neg (show ¬ b01 true = 0 by decide), if_neg (show ¬ b01 true = 0 by decide)]
    obtain ⟨w, hw, rfl, hw2⟩ := isWo_of hW
    obtain ⟨n, y1, y2, y3, y4, y5⟩ := H.1.2.2.2
    rw [y2, y3]
    by_cases h : n < 60
    · have hr := rk_le (q := fun y => decide (M2.1 24 y = nI w)) n
      rw [if_pos (by rw [lt60 (by omega)]; exact h), if_neg (show ¬ nI n = 60 by rw [eq60 (by omega)]; omega), inb_n (by omega) (by omega), ix_n (by omega), inb_n (by omega) (by omega), ix_n (by omega), y5 w hw]
      simp only [if_true, lt_eq]
      rw [nI_1]
      generalize hc : rk (fun y => decide (M2.1 24 y = nI w)) n + 1 = c
      have e1 : (wI M1 13 w (nI c)).1 1 6 = nI n := by rw [wI_g, if_neg (by omega)]; exact y2
      have e2 : (wI M2 24 n (nI w)).1 0 39 = nI n := by rw [wI_g, if_neg (by omega)]; exact y3
      rw [e1, e2, nI_1]
      have F1 : Fr [1, 13] M1 (wI (wI M1 13 w (nI c)) 1 6 (nI (n + 1))) := ((Fr.rf _ _).wI (by simp)).wI (by simp)
      have F2 : Fr [0, 24] M2 (wI (wI M2 24 n (nI w)) 0 39 (nI (n + 1))) := ((Fr.rf _ _).wI (by simp)).wI (by simp)
      have s1 : ∀ i, i ≠ 6 → (wI (wI M1 13 w (nI c)) 1 6 (nI (n + 1))).1 1 i = M1.1 1 i := fun i hi => by simp [wI_g, upd_g, hi]
      have s2 : ∀ i, i ≠ 39 → (wI (wI M2 24 n (nI w)) 0 39 (nI (n + 1))).1 0 i = M2.1 0 i := fun i hi => by simp [wI_g, upd_g, hi]
      have t1 : (wI (wI M1 13 w (nI c)) 1 6 (nI (n + 1))).1 1 6 = nI (n + 1) := by simp [wI_g, upd_g]
      have t2 : (wI (wI M2 24 n (nI w)) 0 39 (nI (n + 1))).1 0 39 = nI (n + 1) := by simp [wI_g, upd_g]
      have u1 : (wI (wI M1 13 w (nI c)) 1 6 (nI (n + 1))).1 13 = upd (M1.1 13) w (nI c) := by simp [wI_g]
      have u2 : (wI (wI M2 24 n (nI w)) 0 39 (nI (n + 1))).1 24 = upd (M2.1 24) n (nI w) := by simp [wI_g]
      obtain ⟨⟨a1, a2, a3, a4⟩, b, c', d, e⟩ := H
      refine ⟨nI (n + 1), _, _, by rw [t1], by rw [t2], ⟨?_, ?_, a3.fr (fun k hk => ⟨F1.1 _ (by simp; omega), F1.1 _ (by simp; omega)⟩) |> fun q => ?_, ?_⟩, b.fr (by rw [F1.1 0 (by decide)]) (F1.on (by decide)) (F2.on (by decide)) (s2 48 (by omega)) (s2 49 (by omega)) (s2 50 (by omega)), c'.fr (F1.on (by decide)) (s1 0 (by omega)) (by rw [F1.1 0 (by decide)]) (F2.on (by decide)) (s2 5 (by omega)) (s2 14 (by omega)) (s2 37 (by omega)), d.fr (F1.on (by decide)), e.fs (s1 0 (by omega)) (s1 2 (by omega)) (s1 3 (by omega)) (F1.on (by decide)) (F2.on (by decide)) (s2 2 (by omega))⟩
      · rw [s1 0 (by omega), F1.1 2 (by decide), F2.1 2 (by decide)]; exact a1
      · rw [s1 2 (by omega), s1 3 (by omega), F1.1 3 (by decide), s2 15 (by omega), F2.1 11 (by decide), F2.1 6 (by decide), F2.1 7 (by decide)]; exact a2
      · rw [F2.1 12 (by decide), F2.1 8 (by decide), F2.1 9 (by decide)]; exact q
      · rw [s1 0 (by omega), t1, t2, u1, u2]
        refine ⟨n + 1, by omega, rfl, rfl, fun y hy => ?_, fun v hv => ?_⟩
        · by_cases e : y = n
          · subst e; exact ⟨w, hw, upd_at _ _ _, hw2⟩
          · rw [upd_ne e]; exact y4 y (by omega)
        · rw [rk_s, upd_at, rk_congr (q' := fun y => decide (M2.1 24 y = nI v)) n (fun y hy => by rw [upd_ne (by omega)])]
          by_cases e : v = w
          · subst e
            rw [upd_at, ← hc]
            simp
          · rw [upd_ne e, y5 v hv]
            have : ¬ nI w = nI v := by rw [neq (by omega) (by omega)]; omega
            simp [this]
    · rw [if_neg (by rw [lt60 (by omega)]; exact h), if_pos (by rw [eq60 (by omega)]; omega)]
      exact ref6 H
theorem wo_mono {t t' : Int32} (h : ∀ i, bt t i = true → bt t' i = true) {w : Nat} (hw : woS t w = true) : woS t' w = true := by
  unfold woS at *
  rw [al_t] at *
  intro i hi
  have := hw i hi
  simp only [Bool.or_eq_true] at *
  rcases this with q | q
  · exact Or.inl q
  · exact Or.inr (h i q)
theorem step_harbour (hN : 100000 ≤ N) (H : Rel M1 M2) (a : Int32) : Ans (f_X11_harbour N a M1) (f_X12_harbour N a M2) := by
  unfold f_X11_harbour f_X12_harbour
  rw [show (3 : Int64) = (3 : Int32).toInt64 by rfl, bd_of (in_lit a 3)]
  rcases i_cases a with hx | ⟨h, hp, rfl⟩
  · rw [if_pos hx, if_pos hx, if_pos rfl]; exact ref1 H
  · rw [if_neg (nI_pos hp), if_neg (nI_pos hp)]
    by_cases h4 : h < 4
    · rw [if_pos (by rw [lt4 hp]; exact h4), if_neg (show ¬ (3 : Int32) < nI h by rw [gt3 hp]; omega), if_neg (show ¬ (1 : Int32) = 0 by decide), bd_of (cHa _), bd_of (mHa H.1.t _), isHa_n h4]
      cases ht : bt (M1.1 1 0) h
      · rw [if_pos b01_f, if_pos b01_f, ladd43, inb_n (by omega) (by omega), ix_n (by omega), if_pos rfl]
        simp only [lt_eq]
        -- the numbers of a new harbour
        obtain ⟨s', Mx, rec, ⟨hs, hF, hv⟩, he⟩ := itr_go (B := B_X12_harbour_45 N (nI h) fun z7 M8 => some (1, wI M8 0 2 0)) (fun j s M' => s = nI j ∧ Fr [2] M2 M' ∧ ∀ i, M'.1 2 i = if 6 * h ≤ i ∧ i < 6 * h + j then 0 else if i = 43 + h then 1 else M2.1 2 i) 6
          (fun rec j s Mx hj ⟨hs, hF, hv⟩ => by
            subst hs
            unfold B_X12_harbour_45
            rw [if_pos (by rw [lt6 (by omega)]; exact hj), lmul6, nI_add, inb_n (by omega) (by omega), ix_n (by omega), if_pos rfl, lt_eq, nI_1]
            refine ⟨_, _, ⟨rfl, hF.wI (by simp), fun i => ?_⟩, rfl⟩
            simp only [wI_g, if_true, upd_g, hv]
            by_cases e : i = 6 * h + j
            · rw [if_pos e, if_pos (by omega)]
            · rw [if_neg e]
              by_cases q : 6 * h ≤ i ∧ i < 6 * h + j
              · rw [if_pos q, if_pos (by omega)]
              · rw [if_neg q, if_neg (show ¬ (6 * h ≤ i ∧ i < 6 * h + (j + 1)) by omega)]) N 0 0 (wI M2 2 (43 + h) 1) (by omega) (by omega) ⟨nI_0.symm, (Fr.rf _ _).wI (by simp), fun i => by
            rw [if_neg (by omega)]; simp [wI_g, upd_g]⟩
        subst hs
        rw [he]
        unfold B_X12_harbour_45
        rw [if_neg (show ¬ nI 6 < 6 by decide)]
        unfold f_X3_forget
        simp only [lt_eq, bd_s]
        generalize hth : M1.1 1 0 ||| (1 : Int32) <<< (nI h &&& 31) = th
        have bth : ∀ i, bt th i = (bt (M1.1 1 0) i || decide (i = h)) := fun i => by rw [← hth]; exact or_bit (by omega) i
        have mono : ∀ i, bt (M1.1 1 0) i = true → bt th i = true := fun i hi => by rw [bth, hi]; rfl
        have F1 : Fr [1, 38] M1 (wI (wI M1 1 0 th) 38 3 1) := ((Fr.rf _ _).wI (by simp)).wI (by simp)
        have F2 : Fr [0, 2] M2 (wI Mx 0 2 0) := (hF.mono (by simp)).wI (by simp)
        have s1 : ∀ i, i ≠ 0 → (wI (wI M1 1 0 th) 38 3 1).1 1 i = M1.1 1 i := fun i hi => by simp [wI_g, upd_g, hi]
        have t1 : (wI (wI M1 1 0 th) 38 3 1).1 1 0 = th := by simp [wI_g, upd_g]
        have t3 : (wI (wI M1 1 0 th) 38 3 1).1 38 3 = 1 := by simp [wI_g, upd_g]
        have s2 : ∀ i, i ≠ 2 → (wI Mx 0 2 0).1 0 i = M2.1 0 i := fun i hi => by rw [← hF.1 0 (by decide)]; simp [wI_g, upd_g, hi]
        have t2 : (wI Mx 0 2 0).1 0 2 = 0 := by simp [wI_g, upd_g]
        have u2 : (wI Mx 0 2 0).1 2 = Mx.1 2 := by simp [wI_g]
        obtain ⟨⟨⟨a1, a2, a3, a4, a5⟩, l, r, y⟩, b, ⟨c1, c2, c3, c4⟩, d, e⟩ := H
        refine ⟨1, _, _, rfl, rfl, ⟨⟨fun k hk => ?_, fun i hi => ?_, fun i hi => ?_, ?_, fun k m hk hm hb => ?_⟩, ?_, r.fr (fun k hk => ⟨F1.1 _ (by simp; omega), F1.1 _ (by simp; omega)⟩) |> fun q => ?_, ?_⟩, b.fr (by rw [F1.1 0 (by decide)]) (F1.on (by decide)) (F2.on (by decide)) (s2 48 (by omega)) (s2 49 (by omega)) (s2 50 (by omega)), ⟨?_, ?_, ?_, ?_⟩, fun z => absurd (t3.symm.trans z) (by decide), Or.inl t2⟩
        · rw [u2, hv, t1, bth, if_neg (by omega)]
          by_cases q : k = h
          · subst q; rw [if_pos rfl]; simp [b01_t]
          · rw [if_neg (by omega), a1 k hk]; simp [q]
        · rw [t1, bth, a2 i hi]; simp; omega
        · rw [u2, hv, F1.1 2 (by decide)]
          by_cases q : 6 * h ≤ i ∧ i < 6 * h + 6
          · rw [if_pos q]
            have := a5 h (i - 6 * h) h4 (by omega) ht
            rw [show 6 * h + (i - 6 * h) = i by omega] at this
            exact this.symm
          · rw [if_neg q, if_neg (by omega)]; exact a3 i hi
        · rw [F1.1 2 (by decide)]; exact a4
        · rw [F1.1 2 (by decide)]
          rw [t1, bth] at hb
          simp only [Bool.or_eq_false_iff] at hb
          exact a5 k m hk hm hb.1
        · rw [s1 2 (by omega), s1 3 (by omega), F1.1 3 (by decide), s2 15 (by omega), F2.1 11 (by decide), F2.1 6 (by decide), F2.1 7 (by decide)]; exact l
        · rw [F2.1 12 (by decide), F2.1 8 (by decide), F2.1 9 (by decide)]; exact q
        · rw [t1, s1 6 (by omega), F1.1 13 (by decide), s2 39 (by omega), F2.1 24 (by decide)]
          obtain ⟨n, y1, y2, y3, y4, y5⟩ := y
          exact ⟨n, y1, y2, y3, fun z hz => by obtain ⟨w, w1, w2, w3⟩ := y4 z hz; exact ⟨w, w1, w2, wo_mono mono w3⟩, y5⟩
        · rw [F1.1 33 (by decide), F2.1 1 (by decide)]; exact c1
        · rw [t1, F1.1 27 (by decide), F1.1 28 (by decide), F1.1 29 (by decide), s2 5 (by omega), F2.1 3 (by decide), F2.1 4 (by decide)]
          obtain ⟨x, z, x1, x2, x3, x4, x5, x6⟩ := c2
          exact ⟨x, z, x1, x2, x3, x4, x5, fun k hk => by obtain ⟨s, q1, q2, q3, q4, q5, q6⟩ := x6 k hk; exact ⟨s, q1, q2, q3, q4, q5, fun q => mono _ (q6 q)⟩⟩
        · rw [F1.1 30 (by decide), F1.1 31 (by decide), s2 14 (by omega), F2.1 5 (by decide)]; exact c3
        · rw [F1.1 0 (by decide), F1.1 32 (by decide), s2 37 (by omega), F2.1 23 (by decide)]; exact c4
      · rw [if_neg (show ¬ b01 true = 0 by decide), if_neg (show ¬ b01 true = 0 by decide)]; exact ref3 H
    · rw [if_neg (by rw [lt4 hp]; exact h4), if_pos (show (3 : Int32) < nI h by rw [gt3 hp]; omega), if_pos rfl]; exact ref1 H
end Tell
