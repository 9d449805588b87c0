section Tells
variable {N : Nat} {M1 M2 : Mm}
theorem change_e (hN : 100000 ≤ N) (H : Rel M1 M2) {s : Nat} (hs : s < 43) {v lo hi : Int32} (ok : ¬ v < lo → ¬ hi < v → OkV s v) (hth : s < 24 → bt (M1.1 1 0) (s / 6) = true) :
    Ans (bd (f_X11_change N (nI s) v lo hi M1) fun r M => some (r, M)) (bd (f_X12_outOf N v.toInt64 lo.toInt64 hi.toInt64 M2) fun r8 M9 => if r8 = 0 then bd (f_X12_becomes N (nI s) v M9) fun r10 M11 => some (r10, M11) else bd (f_X12_no N r8 M9) fun r12 M13 => some (r12, M13)) := by
  rw [bd_of (out_lit v lo hi)]
  unfold f_X11_change
  by_cases h1 : v < lo
  · rw [if_pos h1, if_pos h1, if_neg (show ¬ (-4 : Int32) = 0 by decide)]
    obtain ⟨x, A, B, e1, e2, e3⟩ := ref4 (N := N) H
    rw [e1]
    exact ⟨x, A, B, rfl, e2, e3⟩
  · rw [if_neg h1, if_neg h1]
    by_cases h2 : hi < v
    · rw [if_pos h2, if_pos h2, if_neg (show ¬ (-6 : Int32) = 0 by decide)]
      obtain ⟨x, A, B, e1, e2, e3⟩ := ref6 (N := N) H
      rw [e1]
      exact ⟨x, A, B, rfl, e2, e3⟩
    · rw [if_neg h2, if_neg h2, if_pos rfl]
      have hok := ok h1 h2
      obtain ⟨⟨⟨a1, a2, a3, a4, a5⟩, l, r, y⟩, b, ⟨c1, ⟨x, z, x1, x2, x3, x4, x5, x6⟩, c3, c4⟩, d, e⟩ := H
      obtain ⟨Ma, n1, n2, n3, n4, n5, n6⟩ := note_e (N := N) x1 x2 x3 x4 (nI s) (M1.1 2 s)
      obtain ⟨Mb, m1, m2, m3, m4, m5, m6, m7, m8⟩ := becomes_e hN hs x2 x5 v
      rw [inb_n (by omega) (by omega), ix_n (by omega), if_pos rfl, bd_of n1, if_pos rfl, lt_eq, bd_of m1, a3 s hs, forget_e, bd_s]
      -- whatever the class keeps of costs, it stays right
      have fin : ∀ Mc : Mm, Fr [2, 27, 28, 29, 38] M1 Mc → Mc.1 2 = upd (M1.1 2) s v → Mc.1 27 = Ma.1 27 → Mc.1 28 = Ma.1 28 → Mc.1 29 = Ma.1 29 → CacheC Mc → Rel Mc Mb := by
        intro Mc F e2 e27 e28 e29 hC
        refine ⟨⟨⟨?_, ?_, ?_, ?_, ?_⟩, ?_, r.fr (fun k hk => ⟨F.1 _ (by simp; omega), F.1 _ (by simp; omega)⟩) |> fun q => ?_, ?_⟩, b.fr (by rw [F.1 0 (by decide)]) (F.on (by decide)) (m2.on (by decide)) (m3 48 (by omega) (by omega)) (m3 49 (by omega) (by omega)) (m3 50 (by omega) (by omega)), ⟨?_, ?_, ?_, ?_⟩, hC, Or.inl m4⟩
        · rw [F.1 1 (by decide), m6]
          intro h hh
          rw [upd_ne (by omega)]; exact a1 h hh
        · rw [F.1 1 (by decide)]; exact a2
        · rw [e2, m6]
          intro i hi
          rw [upd_g, upd_g]
          split
          · rfl
          · exact a3 i hi
        · rw [e2]
          intro i hi
          rw [upd_g]
          split
          · rename_i q; rw [q]; exact hok
          · exact a4 i hi
        · rw [F.1 1 (by decide), e2]
          intro h k hh hk hb
          rw [upd_ne]
          · exact a5 h k hh hk hb
          · intro q
            have := hth (by omega)
            rw [show s / 6 = h by omega, hb] at this
            cases this
        · rw [F.1 1 (by decide), F.1 3 (by decide), m3 15 (by omega) (by omega), m2.1 11 (by decide), m2.1 6 (by decide), m2.1 7 (by decide)]; exact l
        · rw [m2.1 12 (by decide), m2.1 8 (by decide), m2.1 9 (by decide)]; exact q
        · rw [F.1 1 (by decide), F.1 13 (by decide), m3 39 (by omega) (by omega), m2.1 24 (by decide)]; exact y
        · rw [F.1 33 (by decide), m2.1 1 (by decide)]; exact c1
        · rw [F.1 1 (by decide), e27, e28, e29]
          refine ⟨(x + 1) % 40, if z < 40 then z + 1 else z, by omega, by split <;> omega, n3, n4, m5, fun k hk => ?_⟩
          by_cases k0 : k = 0
          · subst k0
            have i0 : ((x + 1) % 40 + 39 - 0) % 40 = x := by omega
            rw [i0, n5, n6, upd_at, upd_at, m7 0 hk, m8 0 hk, if_pos rfl, if_pos rfl, a3 s hs]
            exact ⟨s, hs, rfl, rfl, rfl, a4 s hs, hth⟩
          · have hk2 : k - 1 < z := by split at hk <;> omega
            have hk3 : k < 40 := by split at hk <;> omega
            have i1 : ((x + 1) % 40 + 39 - k) % 40 = (x + 39 - (k - 1)) % 40 := by omega
            have i2 : (x + 39 - (k - 1)) % 40 ≠ x := by omega
            rw [i1, n5, n6, upd_ne i2, upd_ne i2, m7 k hk, m8 k hk, if_neg k0, if_neg k0]
            exact x6 (k - 1) hk2
        · rw [F.1 30 (by decide), F.1 31 (by decide), m3 14 (by omega) (by omega), m2.1 5 (by decide)]; exact c3
        · rw [F.1 0 (by decide), F.1 32 (by decide), m3 37 (by omega) (by omega), m2.1 23 (by decide)]; exact c4
      have FA : Fr [2, 27, 28, 29, 38] M1 (wI Ma 2 s v) := (n2.mono (by simp)).wI (by simp)
      have q2 : (wI Ma 2 s v).1 2 = upd (M1.1 2) s v := by rw [wI_g, if_pos rfl, n2.1 2 (by decide)]
      have q27 : (wI Ma 2 s v).1 27 = Ma.1 27 := by rw [wI_g, if_neg (by omega)]
      have q28 : (wI Ma 2 s v).1 28 = Ma.1 28 := by rw [wI_g, if_neg (by omega)]
      have q29 : (wI Ma 2 s v).1 29 = Ma.1 29 := by rw [wI_g, if_neg (by omega)]
      have q38 : (wI Ma 2 s v).1 38 = M1.1 38 := by rw [wI_g, if_neg (by omega), n2.1 38 (by decide)]
      have q39 : (wI Ma 2 s v).1 39 = M1.1 39 := by rw [wI_g, if_neg (by omega), n2.1 39 (by decide)]
      by_cases hv : v = M1.1 2 s
      · rw [if_pos hv, bd_s]
        refine ⟨_, _, Mb, rfl, rfl, fin _ FA q2 q27 q28 q29 ?_⟩
        unfold CacheC at d ⊢
        rw [q38, q39, q2, hv, upd_self]
        exact d
      · rw [if_neg hv]
        by_cases h42 : s = 42
        · rw [if_pos (by rw [eq42 (by omega)]; exact h42), bd_s]
          refine ⟨_, _, Mb, rfl, rfl, fin _ FA q2 q27 q28 q29 ?_⟩
          have hn := OkV.num a4
          have hn' : NumB (upd (M1.1 2) s v) := OkV.num (fun i hi => by
            rw [upd_g]
            split
            · rename_i q; rw [q]; exact hok
            · exact a4 i hi)
          unfold CacheC at d ⊢
          rw [q38, q39, q2]
          intro h0 p w hp hw
          rw [cstZ_nu hn hn' (fun k hk => by rw [upd_ne (by omega)]) hp hw]
          exact d h0 p w hp hw
        · rw [if_neg (by rw [eq42 (by omega)]; exact h42), bd_s]
          refine ⟨_, _, Mb, rfl, rfl, fin _ (FA.wI (by simp)) ?_ ?_ ?_ ?_ ?_⟩
          · rw [wI_g, if_neg (by omega)]; exact q2
          · rw [wI_g, if_neg (by omega)]; exact q27
          · rw [wI_g, if_neg (by omega)]; exact q28
          · rw [wI_g, if_neg (by omega)]; exact q29
          · intro h0
            have : (wI (wI Ma 2 s v) 38 3 1).1 38 3 = 1 := by simp [wI_g, upd_g]
            rw [this] at h0
            exact absurd h0 (by decide)
theorem lims {v lo hi : Int32} (h1 : ¬ v < lo) (h2 : ¬ hi < v) : lo.toInt ≤ v.toInt ∧ v.toInt ≤ hi.toInt := by
  rw [toI_lt] at h1 h2
  omega
theorem step_move (hN : 100000 ≤ N) (H : Rel M1 M2) (a b v : Int32) : Ans (f_X11_move N a b v M1) (f_X12_move N a b v M2) := by
  unfold f_X11_move f_X12_move
  rw [bd_of (cHa a), bd_of (mHa H.1.t a)]
  cases hP : isHa (M1.1 1 0) a
  · rw [if_pos b01_f, if_pos b01_f]; exact ref1 H
  · rw [if_neg (show ¬ b01 true = 0 by decide), if_neg (show ¬ b01 true = 0 by decide), bd_of (cHa b), bd_of (mHa H.1.t b)]
    cases hQ : isHa (M1.1 1 0) b
    · rw [if_pos b01_f, if_pos b01_f]; exact ref1 H
    · rw [if_neg (show ¬ b01 true = 0 by decide), if_neg (show ¬ b01 true = 0 by decide)]
      by_cases hab : a = b
      · rw [if_pos hab, if_pos hab]; exact ref1 H
      · rw [if_neg hab, if_neg hab]
        obtain ⟨h, h1, rfl, h2⟩ := isHa_of hP
        obtain ⟨k, k1, rfl, k2⟩ := isHa_of hQ
        rw [mul4, lmul4, ladd24, nI_add]
        exact change_e hN H (s := 24 + 4 * h + k) (lo := 0) (hi := 99) (by omega) (fun q1 q2 => by
          have := lims q1 q2
          have z0 : (0 : Int32).toInt = 0 := rfl
          have z9 : (99 : Int32).toInt = 99 := rfl
          exact ⟨by omega, by omega, fun _ _ => by omega⟩) (fun q => by omega)
theorem step_tell (hN : 100000 ≤ N) (H : Rel M1 M2) (a b v : Int32) : Ans (f_X11_tell N a b v M1) (f_X12_tell N a b v M2) := by
  unfold f_X11_tell f_X12_tell
  rw [bd_of (cHa a), bd_of (mHa H.1.t a)]
  cases hP : isHa (M1.1 1 0) a
  · rw [if_pos b01_f, if_pos b01_f]; exact ref1 H
  · rw [if_neg (show ¬ b01 true = 0 by decide), if_neg (show ¬ b01 true = 0 by decide), show (5 : Int64) = (5 : Int32).toInt64 by rfl, bd_of (in_lit b 5)]
    obtain ⟨h, h1, rfl, h2⟩ := isHa_of hP
    rcases i_cases b with hx | ⟨k, hk, rfl⟩
    · rw [if_pos hx, if_pos hx, if_pos rfl]; exact ref2 H
    · rw [if_neg (nI_pos hk), if_neg (nI_pos hk)]
      by_cases h6 : k < 6
      · rw [if_pos (by rw [lt6 hk]; exact h6), if_neg (show ¬ (5 : Int32) < nI k by rw [gt5 hk]; omega), if_neg (show ¬ (1 : Int32) = 0 by decide), inb_n (by omega) (by omega), ix_n (by omega), if_pos rfl, mul6, lmul6, nI_add]
        simp only [lt_eq]
        have fin : ∀ (hi : Int32) (hj : Int64), g0 k = hi → hi.toInt64 = hj → hi.toInt ≤ 999 → (¬ k = 2 → hi.toInt ≤ 99) → Ans (bd (f_X11_change N (nI (6 * h + k)) v 0 (g0 k) M1) fun r M => some (r, M)) (bd (f_X12_outOf N v.toInt64 0 hj M2) fun r8 M9 => if r8 = 0 then bd (f_X12_becomes N (nI (6 * h + k)) v M9) fun r10 M11 => some (r10, M11) else bd (f_X12_no N r8 M9) fun r12 M13 => some (r12, M13)) := by
          intro hi hj e1 e2 e3 e4
          rw [e1, ← e2]
          exact change_e hN H (s := 6 * h + k) (lo := 0) (hi := hi) (by omega) (fun q1 q2 => by
            have := lims q1 q2
            have z0 : (0 : Int32).toInt = 0 := rfl
            exact ⟨by omega, by omega, fun _ q => by
              have := e4 (by omega)
              omega⟩) (fun q => by rw [show (6 * h + k) / 6 = h by omega]; exact h2)
        by_cases c2 : k = 2
        · subst c2
          rw [if_pos (show nI 2 = 2 by rfl)]
          exact fin 999 999 rfl rfl (by decide) (fun q => absurd rfl q)
        · rw [if_neg (show ¬ nI k = 2 by rw [eq2 hk]; exact c2)]
          by_cases c5 : k = 5
          · subst c5
            rw [if_pos (show nI 5 = 5 by rfl)]
            exact fin 9 9 rfl rfl (by decide) (fun _ => by decide)
          · rw [if_neg (show ¬ nI k = 5 by rw [eq5 hk]; exact c5)]
            refine fin 99 99 ?_ rfl (by decide) (fun _ => by decide)
            have : k = 0 ∨ k = 1 ∨ k = 3 ∨ k = 4 := by omega
            rcases this with rfl | rfl | rfl | rfl <;> rfl
      · rw [if_neg (by rw [lt6 hk]; exact h6), if_pos (show (5 : Int32) < nI k by rw [gt5 hk]; omega), if_pos rfl]; exact ref2 H
theorem step_set (hN : 100000 ≤ N) (H : Rel M1 M2) (a v : Int32) : Ans (f_X11_set N a v M1) (f_X12_set N a v M2) := by
  unfold f_X11_set f_X12_set
  rw [show (f_X12_isIn N a.toInt64 0 2 M2) = some (if a < 0 then 0 else if 2 < a then 0 else 1, M2) from in_lit a 2, bd_s]
  rcases i_cases a with hx | ⟨k, hk, rfl⟩
  · rw [if_pos hx, if_pos hx, if_pos rfl]; exact ref2 H
  · rw [if_neg (nI_pos hk), if_neg (nI_pos hk)]
    by_cases h3 : k < 3
    · rw [if_pos (by rw [lt3 hk]; exact h3), if_neg (show ¬ (2 : Int32) < nI k by rw [gt2 hk]; omega), if_neg (show ¬ (1 : Int32) = 0 by decide), inb_n (by omega) (by omega), ix_n (by omega), if_pos rfl, if_pos rfl, ladd40]
      simp only [lt_eq]
      have fin : ∀ (lo hi : Int32) (l1 h1 : Int64), g1 k = lo → g2 k = hi → lo.toInt64 = l1 → hi.toInt64 = h1 → 0 ≤ lo.toInt → hi.toInt ≤ 999 → Ans (bd (f_X11_change N (nI (40 + k)) v (g1 k) (g2 k) M1) fun r M => some (r, M)) (bd (f_X12_outOf N v.toInt64 l1 h1 M2) fun r8 M9 => if r8 = 0 then bd (f_X12_becomes N (nI (40 + k)) v M9) fun r10 M11 => some (r10, M11) else bd (f_X12_no N r8 M9) fun r12 M13 => some (r12, M13)) := by
        intro lo hi l1 h1 e1 e2 e3 e4 e5 e6
        rw [e1, e2, ← e3, ← e4]
        exact change_e hN H (s := 40 + k) (by omega) (fun q1 q2 => by
          have := lims q1 q2
          exact ⟨by omega, by omega, fun q _ => by omega⟩) (fun q => by omega)
      match k, h3 with
      | 0, _ => exact fin 1 50 1 50 rfl rfl rfl rfl (by decide) (by decide)
      | 1, _ => exact fin 0 999 0 999 rfl rfl rfl rfl (by decide) (by decide)
      | 2, _ => exact fin 0 4 0 4 rfl rfl rfl rfl (by decide) (by decide)
    · rw [if_neg (by rw [lt3 hk]; exact h3), if_pos (show (2 : Int32) < nI k by rw [gt2 hk]; omega), if_pos rfl]; exact ref2 H
end Tells
