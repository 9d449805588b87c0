section Undo
variable {N : Nat} {M1 M2 : Mm}
theorem step_undo (H : Rel M1 M2) : Ans (f_X11_undo N M1) (f_X12_undo N M2) := by
  have H0 := H
  obtain ⟨⟨⟨a1, a2, a3, a4, a5⟩, l, r, y⟩, b, ⟨c1, ⟨x, z, x1, x2, x3, x4, x5, x6⟩, c3, c4⟩, d, e⟩ := H
  unfold f_X11_undo f_X12_undo
  rw [x4, x5]
  by_cases hz : z = 0
  · rw [if_pos (show nI z = 0 by rw [hz]; rfl), if_pos (show nI z = 0 by rw [hz]; rfl)]; exact ref3 H0
  · have n0 : ¬ nI z = 0 := by rw [eq0 (by omega)]; exact hz
    rw [if_neg n0, if_neg n0]
    obtain ⟨k, rfl⟩ : ∃ k, z = k + 1 := ⟨z - 1, by omega⟩
    obtain ⟨s, s1, s2, s3, s4, s5, s6⟩ := x6 0 (by omega)
    rw [show k + 1 - 1 - 0 = k by omega] at s3 s4 s5
    rw [show (x + 39 - 0) = x + 39 by omega] at s2 s4
    -- the class takes it back
    have t1 : f_X1_takeBack N M1 = some (0, wI (wI (wI M1 27 2 (nI ((x + 39) % 40))) 27 3 (nI k)) 2 s (M2.1 4 k)) := by
      unfold f_X1_takeBack
      rw [x4, if_neg n0, x3]
      have er : nI x + 40 - 1 - (nI x + 40 - 1) / 40 * 40 = nI ((x + 39) % 40) := by
        have e1 : nI x + 40 - 1 = nI (x + 39) := by
          show nI x + nI 40 - 1 = _
          rw [nI_add]
          exact dec1 (x + 39)
        rw [e1]
        show nI (x + 39) - nI (x + 39) / nI 40 * nI 40 = _
        rw [pk_rem (by omega) (by omega) (by omega)]
      simp only [lt_eq]
      rw [er]
      have w3 : (wI M1 27 2 (nI ((x + 39) % 40))).1 27 3 = nI (k + 1) := by simp [wI_g, upd_g, x4]
      rw [w3, dec1]
      have w2 : (wI (wI M1 27 2 (nI ((x + 39) % 40))) 27 3 (nI k)).1 27 2 = nI ((x + 39) % 40) := by simp [wI_g, upd_g]
      have w28 : (wI (wI M1 27 2 (nI ((x + 39) % 40))) 27 3 (nI k)).1 28 = M1.1 28 := by simp [wI_g]
      have w29 : (wI (wI M1 27 2 (nI ((x + 39) % 40))) 27 3 (nI k)).1 29 = M1.1 29 := by simp [wI_g]
      rw [w2, w28, w29]
      rw [inb_n (by omega) (by omega), ix_n (by omega), if_pos rfl, s2, s4, if_neg (nI_pos (by omega)), if_pos (by rw [lt43 (by omega)]; exact s1), if_pos rfl, inb_n (by omega) (by omega), ix_n (by omega), if_pos rfl]
    rw [bd_of t1, forget_e, bd_s]
    simp only [lt_eq]
    rw [dec1]
    have v5 : (wI M2 0 5 (nI k)).1 0 5 = nI k := by simp [wI_g, upd_g]
    have v3 : (wI M2 0 5 (nI k)).1 3 = M2.1 3 := by simp [wI_g]
    have v4 : (wI M2 0 5 (nI k)).1 4 = M2.1 4 := by simp [wI_g]
    rw [v5, v3, v4, inb_n (by omega) (by omega), ix_n (by omega), if_pos rfl, if_pos rfl, s3, inb_n (by omega) (by omega), ix_n (by omega), if_pos rfl]
    generalize hv : M2.1 4 k = v at *
    have F1 : Fr [2, 27, 38] M1 (wI (wI (wI (wI M1 27 2 (nI ((x + 39) % 40))) 27 3 (nI k)) 2 s v) 38 3 1) := ((((Fr.rf _ _).wI (by simp)).wI (by simp)).wI (by simp)).wI (by simp)
    have F2 : Fr [0, 2] M2 (wI (wI (wI M2 0 5 (nI k)) 2 s v) 0 2 0) := (((Fr.rf _ _).wI (by simp)).wI (by simp)).wI (by simp)
    have g2 : (wI (wI (wI (wI M1 27 2 (nI ((x + 39) % 40))) 27 3 (nI k)) 2 s v) 38 3 1).1 2 = upd (M1.1 2) s v := by simp [wI_g]
    have g272 : (wI (wI (wI (wI M1 27 2 (nI ((x + 39) % 40))) 27 3 (nI k)) 2 s v) 38 3 1).1 27 2 = nI ((x + 39) % 40) := by simp [wI_g, upd_g]
    have g273 : (wI (wI (wI (wI M1 27 2 (nI ((x + 39) % 40))) 27 3 (nI k)) 2 s v) 38 3 1).1 27 3 = nI k := by simp [wI_g, upd_g]
    have g383 : (wI (wI (wI (wI M1 27 2 (nI ((x + 39) % 40))) 27 3 (nI k)) 2 s v) 38 3 1).1 38 3 = 1 := by simp [wI_g, upd_g]
    have k2 : (wI (wI (wI M2 0 5 (nI k)) 2 s v) 0 2 0).1 2 = upd (M2.1 2) s v := by simp [wI_g]
    have k02 : (wI (wI (wI M2 0 5 (nI k)) 2 s v) 0 2 0).1 0 2 = 0 := by simp [wI_g, upd_g]
    have k05 : (wI (wI (wI M2 0 5 (nI k)) 2 s v) 0 2 0).1 0 5 = nI k := by simp [wI_g, upd_g]
    have ks : ∀ i, i ≠ 2 → i ≠ 5 → (wI (wI (wI M2 0 5 (nI k)) 2 s v) 0 2 0).1 0 i = M2.1 0 i := fun i i1 i2 => by simp [wI_g, upd_g, i1, i2]
    refine ⟨1, _, _, rfl, rfl, ⟨⟨?_, ?_, ?_, ?_, ?_⟩, ?_, r.fr (fun k hk => ⟨F1.1 _ (by simp; omega), F1.1 _ (by simp; omega)⟩) |> fun q => ?_, ?_⟩, b.fr (by rw [F1.1 0 (by decide)]) (F1.on (by decide)) (F2.on (by decide)) (ks 48 (by omega) (by omega)) (ks 49 (by omega) (by omega)) (ks 50 (by omega) (by omega)), ⟨?_, ?_, ?_, ?_⟩, fun q => absurd (g383.symm.trans q) (by decide), Or.inl k02⟩
    · rw [F1.1 1 (by decide), k2]
      intro h hh
      rw [upd_ne (by omega)]; exact a1 h hh
    · rw [F1.1 1 (by decide)]; exact a2
    · rw [g2, k2]
      intro i hi
      rw [upd_g, upd_g]
      split
      · rfl
      · exact a3 i hi
    · rw [g2]
      intro i hi
      rw [upd_g]
      split
      · rename_i q; rw [q]; exact s5
      · exact a4 i hi
    · rw [F1.1 1 (by decide), g2]
      intro h m hh hm hb
      rw [upd_ne]
      · exact a5 h m hh hm hb
      · intro q
        have := s6 (by omega)
        rw [show s / 6 = h by omega, hb] at this
        cases this
    · rw [F1.1 1 (by decide), F1.1 3 (by decide), ks 15 (by omega) (by omega), F2.1 11 (by decide), F2.1 6 (by decide), F2.1 7 (by decide)]; exact l
    · rw [F2.1 12 (by decide), F2.1 8 (by decide), F2.1 9 (by decide)]; exact q
    · rw [F1.1 1 (by decide), F1.1 13 (by decide), ks 39 (by omega) (by omega), F2.1 24 (by decide)]; exact y
    · rw [F1.1 33 (by decide), F2.1 1 (by decide)]; exact c1
    · rw [F1.1 1 (by decide), g272, g273, F1.1 28 (by decide), F1.1 29 (by decide), k05, F2.1 3 (by decide), F2.1 4 (by decide)]
      refine ⟨(x + 39) % 40, k, by omega, by omega, rfl, rfl, rfl, fun m hm => ?_⟩
      have := x6 (m + 1) (by omega)
      rw [show k + 1 - 1 - (m + 1) = k - 1 - m by omega] at this
      rw [show ((x + 39) % 40 + 39 - m) % 40 = (x + 39 - (m + 1)) % 40 by omega]
      exact this
    · rw [F1.1 30 (by decide), F1.1 31 (by decide), ks 14 (by omega) (by omega), F2.1 5 (by decide)]; exact c3
    · rw [F1.1 0 (by decide), F1.1 32 (by decide), ks 37 (by omega) (by omega), F2.1 23 (by decide)]; exact c4
theorem xor_bit {W : Int32} {j : Nat} (hj : j < 32) (i : Nat) : bt (W ^^^ ((1 : Int32) <<< (nI j &&& 31))) i = (bt W i ^^ decide (i = j)) := by
  rw [b_xor]
  rcases Nat.lt_or_ge i 32 with h | h
  · rw [sh1 hj h]
  · rw [b_big h, b_big h, decide_eq_false (by omega)]
theorem step_holds (H : Rel M1 M2) (a : Int32) (on : Bool) : Ans (f_X11_holds N a (b01 on) M1) (f_X12_holds N a (b01 on) M2) := by
  have H0 := H
  obtain ⟨⟨tn, ⟨n, l1, l2, l3, l4, l5⟩, r, y⟩, b, c, d, e⟩ := H
  unfold f_X11_holds f_X12_holds
  rw [l3, show f_X12_isIn N a.toInt64 0 ((nI n - 1).toInt64) M2 = some (if a < 0 then 0 else if nI n - 1 < a then 0 else 1, M2) from in_lit a (nI n - 1), bd_s, l2]
  rcases i_cases a with hx | ⟨k, hk, rfl⟩
  · rw [if_pos hx, if_pos hx, if_pos rfl]; exact ref1 H0
  · rw [if_neg (nI_pos hk), if_neg (nI_pos hk)]
    by_cases hkn : k < n
    · have e1 : ¬ nI n - 1 < nI k := by
        obtain ⟨m, rfl⟩ : ∃ m, n = m + 1 := ⟨n - 1, by omega⟩
        rw [dec1, nlt (by omega) hk]; omega
      rw [if_pos (by rw [nlt hk (by omega)]; exact hkn), if_neg e1, if_neg (show ¬ (1 : Int32) = 0 by decide), inb_n (by omega) (by omega), ix_n (by omega), if_pos rfl, (l5 k hkn).1, bit_e _ (by omega), zn_0, zn_1]
      simp only [lt_eq, if_true]
      -- nothing is to be done, or it is turned
      have turn : on = !bt (M1.1 1 3) k → Ans (some (1, wI M1 1 3 (M1.1 1 3 ^^^ (1 : Int32) <<< (nI k &&& 31)))) (some (1, wI (wI M2 11 k (b01 (!on))) 0 2 0)) := by
        intro hon
        generalize hho : M1.1 1 3 ^^^ (1 : Int32) <<< (nI k &&& 31) = ho
        have bho : ∀ i, bt ho i = (bt (M1.1 1 3) i ^^ decide (i = k)) := fun i => by rw [← hho]; exact xor_bit (by omega) i
        have F1 : Fr [1] M1 (wI M1 1 3 ho) := (Fr.rf _ _).wI (by simp)
        have F2 : Fr [0, 11] M2 (wI (wI M2 11 k (b01 (!on))) 0 2 0) := ((Fr.rf _ _).wI (by simp)).wI (by simp)
        have s1 : ∀ i, i ≠ 3 → (wI M1 1 3 ho).1 1 i = M1.1 1 i := fun i hi => by simp [wI_g, upd_g, hi]
        have t1 : (wI M1 1 3 ho).1 1 3 = ho := by simp [wI_g, upd_g]
        have s2 : ∀ i, i ≠ 2 → (wI (wI M2 11 k (b01 (!on))) 0 2 0).1 0 i = M2.1 0 i := fun i hi => by simp [wI_g, upd_g, hi]
        have t2 : (wI (wI M2 11 k (b01 (!on))) 0 2 0).1 0 2 = 0 := by simp [wI_g, upd_g]
        have u2 : (wI (wI M2 11 k (b01 (!on))) 0 2 0).1 11 = upd (M2.1 11) k (b01 (!on)) := by simp [wI_g]
        refine ⟨1, _, _, rfl, rfl, ⟨?_, ⟨n, l1, ?_, ?_, fun i hi => ?_, fun j hj => ?_⟩, r.fr (fun k hk => ⟨F1.1 _ (by simp; omega), F1.1 _ (by simp; omega)⟩) |> fun q => ?_, ?_⟩, b.fr (by rw [F1.1 0 (by decide)]) (F1.on (by decide)) (F2.on (by decide)) (s2 48 (by omega)) (s2 49 (by omega)) (s2 50 (by omega)), c.fr (F1.on (by decide)) (s1 0 (by omega)) (by rw [F1.1 0 (by decide)]) (F2.on (by decide)) (s2 5 (by omega)) (s2 14 (by omega)) (s2 37 (by omega)), d.fr (F1.on (by decide)), Or.inl t2⟩
        · rw [s1 0 (by omega), F1.1 2 (by decide), F2.1 2 (by decide)]; exact tn
        · rw [s1 2 (by omega)]; exact l2
        · rw [s2 15 (by omega)]; exact l3
        · rw [t1, bho, l4 i hi]; simp; omega
        · rw [t1, u2, F1.1 3 (by decide), F2.1 6 (by decide), F2.1 7 (by decide), bho]
          refine ⟨?_, (l5 j hj).2⟩
          rw [upd_g]
          by_cases q : j = k
          · subst q; rw [if_pos rfl, hon]; simp
          · rw [if_neg q, (l5 j hj).1]; simp [q]
        · rw [F2.1 12 (by decide), F2.1 8 (by decide), F2.1 9 (by decide)]; exact q
        · rw [s1 0 (by omega), s1 6 (by omega), F1.1 13 (by decide), s2 39 (by omega), F2.1 24 (by decide)]; exact y
      have same : Ans (some (0, M1)) (some (0, M2)) := ⟨0, M1, M2, rfl, rfl, H0⟩
      cases hb : bt (M1.1 1 3) k <;> cases on
      · exact same
      · exact turn (by rw [hb]; rfl)
      · exact turn (by rw [hb]; rfl)
      · exact same
    · have e1 : nI n - 1 < nI k := by
        by_cases hn0 : n = 0
        · subst hn0
          have : nI 0 - 1 = -1 := rfl
          rw [this, toI_lt, nI_toInt hk]
          have : ((-1 : Int32)).toInt = -1 := rfl
          omega
        · obtain ⟨m, rfl⟩ : ∃ m, n = m + 1 := ⟨n - 1, by omega⟩
          rw [dec1, nlt (by omega) hk]; omega
      rw [if_neg (by rw [nlt hk (by omega)]; exact hkn), if_pos e1, if_pos rfl]; exact ref1 H0
theorem step_unrule (H : Rel M1 M2) (a : Int32) : Ans (f_X11_unrule N a M1) (f_X12_unrule N a M2) := by
  unfold f_X11_unrule f_X12_unrule
  rw [bd_of (cHa a), bd_of (mHa H.1.t a)]
  cases hP : isHa (M1.1 1 0) a
  · rw [if_pos b01_f, if_pos b01_f]; exact ref1 H
  · rw [if_neg (show ¬ b01 true = 0 by decide), if_neg (show ¬ b01 true = 0 by decide)]
    obtain ⟨h, h1, rfl, h2⟩ := isHa_of hP
    have H0 := H
    obtain ⟨⟨tn, tl, r, y⟩, b, c, d, e⟩ := H
    rw [inb_n (by omega) (by omega), ix_n (by omega), zn_0]
    simp only [if_true, lt_eq]
    have e5 : 1 + 4 + 2 * h = 5 + 2 * h := by omega
    have F2 : Fr [12] M2 (wI M2 12 h 0) := (Fr.rf _ _).wI (by simp)
    have u2 : (wI M2 12 h 0).1 12 = upd (M2.1 12) h 0 := by simp [wI_g]
    have z2 := F2.1 0 (by decide)
    have build : ∀ M1', Fr [5, 7, 9, 11] M1 M1' → (∀ k, k < 4 → RuOk (M1'.1 (1 + 4 + 2 * k) 1) (M1'.1 (1 + 5 + 2 * k)) (upd (M2.1 12) h 0 k) (fun i => M2.1 8 (40 * k + i)) (M2.1 9 k)) → Rel M1' (wI M2 12 h 0) := by
      intro M1' F1 hr
      refine ⟨⟨?_, ?_, ?_, ?_⟩, b.fr (by rw [F1.1 0 (by decide)]) (F1.on (by decide)) (F2.on (by decide)) (by rw [z2]) (by rw [z2]) (by rw [z2]), c.fr (F1.on (by decide)) (by rw [F1.1 1 (by decide)]) (by rw [F1.1 0 (by decide)]) (F2.on (by decide)) (by rw [z2]) (by rw [z2]) (by rw [z2]), d.fr (F1.on (by decide)), e.fr (F1.on (by decide)) (F2.on (by decide)) (by rw [z2])⟩
      · rw [F1.1 1 (by decide), F1.1 2 (by decide), F2.1 2 (by decide)]; exact tn
      · rw [F1.1 1 (by decide), F1.1 3 (by decide), z2, F2.1 11 (by decide), F2.1 6 (by decide), F2.1 7 (by decide)]; exact tl
      · intro k hk
        rw [u2, F2.1 8 (by decide), F2.1 9 (by decide)]
        exact hr k hk
      · rw [F1.1 1 (by decide), F1.1 13 (by decide), z2, F2.1 24 (by decide)]; exact y
    rcases r h h1 with ⟨q1, q2⟩ | ⟨q1, n, m, sn, v, p1, p2, p3, p4, p5, p6, p7, p8⟩
    · rw [e5] at q2
      rw [if_pos q2, if_pos q1]
      refine ⟨0, _, _, rfl, rfl, build M1 (Fr.rf _ _) (fun k hk => ?_)⟩
      rw [upd_g]
      split
      · rename_i q; subst q; exact Or.inl ⟨rfl, by rw [e5]; exact q2⟩
      · exact r k hk
    · rw [e5] at p7
      rw [if_neg (show ¬ M1.1 (5 + 2 * h) 1 = 0 by rw [p7, eq0 (by omega)]; omega), if_neg (show ¬ M2.1 12 h = 0 by rw [q1]; decide)]
      refine ⟨1, _, _, rfl, rfl, build (wI M1 (5 + 2 * h) 1 0) ((Fr.rf _ _).wI (by simp; omega)) (fun k hk => ?_)⟩
      rw [upd_g]
      by_cases q : k = h
      · subst q
        rw [if_pos rfl]
        refine Or.inl ⟨rfl, ?_⟩
        rw [wI_g, if_pos (by omega)]
        exact upd_at _ _ _
      · rw [if_neg q, wI_g, if_neg (by omega), wI_g, if_neg (by omega)]
        exact r k hk
end Undo
