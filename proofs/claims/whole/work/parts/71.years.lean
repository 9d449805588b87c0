section Years
variable {N : Nat} {M M1 M2 : Mm} {W : Int32} {A : Nat → Bool} {c : Nat → Nat}
theorem yin_e (hN : 100000 ≤ N) (hW : isM W A) (h13 : ∀ w, w < 16 → M.1 13 w = nI (c w)) : f_X10_yearsIn N W M = some (nI (sN (fun w => if A w then c w else 0) 16), M) := by
  unfold f_X10_yearsIn
  refine itr_for0 (fun j => (nI (sN (fun w => if A w then c w else 0) j), nI j)) (fun _ => M) 16 (by rw [nI_0]; rfl) rfl (by omega) (fun rec j hj => ?_) (fun rec => ?_)
  · unfold B_X10_yearsIn_4
    dsimp only
    rw [if_pos (by rw [lt16 (by omega)]; exact hj), bit_e W (by omega), hW.at hj, inb_n (by omega) (by omega), ix_n (by omega), h13 j hj, nI_1, lt_eq, nI_add]
    show _ = rec (nI (sN _ j + (if A j then c j else 0)), nI (j + 1)) M
    cases A j
    · rw [if_neg (show ¬ b01 false = 1 by decide)]; rfl
    · rw [if_pos b01_t, if_pos rfl, if_pos rfl]
  · unfold B_X10_yearsIn_4
    dsimp only
    rw [if_neg (show ¬ nI 16 < 16 by decide)]
theorem step_out (hN : 100000 ≤ N) (H : Rel M1 M2) : Ans (f_X11_out N M1) (f_X12_out N M2) := by
  obtain ⟨n, hn, hnl⟩ := H.nl
  obtain ⟨W, w1, w2⟩ := set_e hN hn hnl
  obtain ⟨Mb, b1, b2, b3⟩ := H.finds hN
  obtain ⟨ny, y1, y2, y3, y4, y5⟩ := b3.1.2.2.2
  unfold f_X11_out f_X12_out
  rw [bd_of w1, bd_of (yin_e hN w2 y5), bd_of b1, yr_sum ny (fun y hy => by obtain ⟨w, a, b, -⟩ := y4 y hy; exact ⟨w, a, b⟩), y2]
  have hle := rk_le (q := fun y => setS M1 (M1.1 2 42) (ix (Mb.1 24 y))) ny
  have hnot := rk_not (fun y => setS M1 (M1.1 2 42) (ix (Mb.1 24 y))) ny
  rw [nI_subl hle]
  have e : itr (B_X12_out_8 N fun z5 M6 => some (z5, M6)) N (0, 0) Mb = some (nI (rk (fun y => !setS M1 (M1.1 2 42) (ix (Mb.1 24 y))) ny), Mb) := by
    refine itr_for0 (fun j => (nI (rk (fun y => !setS M1 (M1.1 2 42) (ix (Mb.1 24 y))) j), nI j)) (fun _ => Mb) ny (by rw [nI_0]; rfl) rfl (by omega) (fun rec j hj => ?_) (fun rec => ?_)
    · obtain ⟨w, v1, v2, -⟩ := y4 j hj
      unfold B_X12_out_8
      dsimp only
      rw [y3, if_pos (by rw [nlt (by omega) (by omega)]; exact hj), inb_n (by omega) (by omega), ix_n (by omega), if_pos rfl, v2, inb_n (by omega) (by omega), ix_n (by omega), if_pos rfl, (b3.i.1 w v1).2, rk_s]
      simp only [lt_eq, nI_1]
      rw [v2, ix_n (by omega)]
      cases setS M1 (M1.1 2 42) w
      · rw [if_pos b01_f]; rfl
      · rw [if_neg (show ¬ b01 true = 0 by decide), Int32.add_zero]; rfl
    · unfold B_X12_out_8
      dsimp only
      rw [y3, if_neg (by rw [nlt (by omega) (by omega)]; omega)]
  rw [e]
  exact Ans.q H rfl rfl (by congr 2; omega) (Kc.rf H.2.2.2.1) (b2.km b3.2.2)
theorem step_dearYears (hN : 100000 ≤ N) (H : Rel M1 M2) (a : Int32) : Ans (f_X11_dearYears N a M1) (f_X12_dearYears N a M2) := by
  unfold f_X11_dearYears f_X12_dearYears
  rw [bd_of (cPl hN a), bd_of (mPl hN H.1.t a)]
  cases hP : isPl (M1.1 1 0) a
  · rw [if_pos b01_f, if_pos b01_f]; exact ref1 H
  · rw [if_neg (show ¬ b01 true = 0 by decide), if_neg (show ¬ b01 true = 0 by decide)]
    obtain ⟨p, hp, rfl, hp2⟩ := isPl_of hP
    obtain ⟨n, hn, hnl⟩ := H.nl
    obtain ⟨W, w1, w2⟩ := set_e hN hn hnl
    obtain ⟨Mb, b1, b2, b3⟩ := H.finds hN
    obtain ⟨y, Mc, c1, c2, c3, c4, c5, -⟩ := b3.fs.worst hN hp hp2 0 0
    rw [wv_fun (al00 _)] at c2
    rw [bd_of w1, bd_of b1, bd_of c1]
    cases hE : emp (setS M1 (M1.1 2 42))
    · have hW0 : ¬ W = 0 := by rw [w2.zero, ← emp_t, hE]; decide
      have hy9 : ¬ y = -9 := by
        have := wv_pos H.num hp hE
        rw [toI_eq, c2]
        have : ((-9 : Int32)).toInt = -9 := rfl
        omega
      rw [if_neg hW0, if_neg hy9]
      obtain ⟨x, Ma, a1, a2, a3, a4⟩ := worstO_e hN H.num hp H.2.2.2.1 w2
      have exy : x = y := Int32.toInt_inj.mp (by rw [a2, c2]; rfl)
      subst exy
      rw [bd_of a1]
      obtain ⟨ny, y1, y2, y3, y4, y5⟩ := c5.1.2.2.2
      generalize hQ : (fun w => decide (x.toInt < cstZ (M1.1 2) p w)) = Q
      have hb60 : ∀ w, rk (fun y => decide (Mc.1 24 y = nI w)) ny ≤ 60 := fun w => by have := rk_le (q := fun y => decide (Mc.1 24 y = nI w)) ny; omega
      have hsum := yr_sum (Q := Q) ny (fun y hy => by obtain ⟨w, a, b, -⟩ := y4 y hy; exact (⟨w, a, b⟩ : ∃ w, w < 16 ∧ Mc.1 24 y = nI w))
      have fT : ∀ j, Q j = true → (fun w => if Q w then rk (fun y => decide (Mc.1 24 y = nI w)) ny else 0) j = rk (fun y => decide (Mc.1 24 y = nI j)) ny := fun j h => if_pos h
      have fF : ∀ j, ¬ Q j = true → (fun w => if Q w then rk (fun y => decide (Mc.1 24 y = nI w)) ny else 0) j = 0 := fun j h => if_neg h
      generalize (fun w => if Q w then rk (fun y => decide (Mc.1 24 y = nI w)) ny else 0) = F at fT fF hsum
      obtain ⟨s', Md, rec, ⟨hs, hK⟩, he⟩ := itr_go (B := B_X11_dearYears_45 N (nI p) x fun z10 M11 => some (z10, M11)) (fun j s M' => s = (nI (sN F j), nI j) ∧ Ka M1 M') 16
        (fun rec j s Mx hj ⟨hs, hK⟩ => by
          subst hs
          have e13 : Mx.1 13 j = nI (rk (fun y => decide (Mc.1 24 y = nI j)) ny) := by rw [hK.1.1 13 (by decide)]; exact y5 j hj
          have hbj := hb60 j
          unfold B_X11_dearYears_45
          dsimp only
          rw [if_pos (by rw [lt16 (by omega)]; exact hj), inb_n (by omega) (by omega), ix_n (by omega), if_pos rfl, e13, nI_1]
          have es : sN F (j + 1) = sN F j + F j := rfl
          by_cases h0 : 0 < rk (fun y => decide (Mc.1 24 y = nI j)) ny
          · rw [if_pos (by rw [gt0 (by omega)]; exact h0)]
            obtain ⟨z, My, z1, z2, z3, z4⟩ := ask_e hN (M := Mx) (p := p) (w := j) (by rw [hK.e2]; exact H.num) hp hj hK.2
            rw [hK.e2] at z2
            rw [bd_of z1, lt_eq, nI_add]
            have eq : (x < z) = (Q j = true) := by rw [toI_lt, z2, ← hQ]; exact propext (by simp)
            by_cases hq : Q j = true
            · rw [if_pos (show x < z by rw [eq]; exact hq)]
              exact ⟨_, _, ⟨by rw [es, fT j hq], hK.tr z3⟩, rfl⟩
            · rw [if_neg (show ¬ x < z by rw [eq]; exact hq)]
              exact ⟨_, _, ⟨by rw [es, fF j hq]; rfl, hK.tr z3⟩, rfl⟩
          · rw [if_neg (by rw [gt0 (by omega)]; exact h0)]
            have z0 : F j = 0 := by
              by_cases hq : Q j = true
              · rw [fT j hq]; omega
              · exact fF j hq
            exact ⟨_, _, ⟨by rw [es, z0]; rfl, hK⟩, rfl⟩) N 0 (0, 0) Ma (by omega) (by omega) ⟨by rw [nI_0]; rfl, a3⟩
      subst hs
      rw [he]
      unfold B_X11_dearYears_45
      dsimp only
      rw [if_neg (show ¬ nI 16 < 16 by decide), hsum]
      have e : itr (B_X12_dearYears_40 N (nI p) x fun z9 M10 => some (z9, M10)) N (0, 0) Mc = some (nI (rk (fun y => Q (ix (Mc.1 24 y))) ny), Mc) := by
        refine itr_for0 (fun j => (nI (rk (fun y => Q (ix (Mc.1 24 y))) j), nI j)) (fun _ => Mc) ny (by rw [nI_0]; rfl) rfl (by omega) (fun rec j hj => ?_) (fun rec => ?_)
        · obtain ⟨w, v1, v2, v3⟩ := y4 j hj
          unfold B_X12_dearYears_40
          dsimp only
          rw [y3, if_pos (by rw [nlt (by omega) (by omega)]; exact hj), inb_n (by omega) (by omega), ix_n (by omega), if_pos rfl, v2, lmul16, nI_add, inb_n (by omega) (by omega), ix_n (by omega), if_pos rfl, rk_s]
          simp only [lt_eq, nI_1]
          rw [v2, ix_n (by omega)]
          have eq : (x < Mc.1 18 (16 * p + w)) = (Q w = true) := by
            rw [toI_lt, (c5.2.2.2.2 p hp).2 hp2 w v1, v3, ← hQ]
            exact propext (by simp)
          by_cases hq : Q w = true
          · rw [if_pos (by rw [eq]; exact hq), if_pos hq]
          · rw [if_neg (by rw [eq]; exact hq), if_neg hq, Int32.add_zero]; rfl
        · unfold B_X12_dearYears_40
          dsimp only
          rw [y3, if_neg (by rw [nlt (by omega) (by omega)]; omega)]
      rw [e]
      exact Ans.q H rfl rfl rfl hK.kc ((b2.tr c4).km c5.fnd.2.2)
    · have hW0 : W = 0 := by rw [w2.zero]; exact emp_t.mp hE
      have hy9 : y = -9 := by rw [toI_eq, c2, wv_none hE]; rfl
      rw [if_pos hW0, if_pos hy9]
      exact Ans.q H rfl rfl rfl (Kc.rf H.2.2.2.1) ((b2.tr c4).km c5.fnd.2.2)
theorem step_drawn (hN : 100000 ≤ N) (H : Rel M1 M2) (a : Int32) : Ans (f_X11_drawn N a M1) (f_X12_drawn N a M2) := by
  unfold f_X11_drawn f_X12_drawn
  rw [show (0 : Int64) = (0 : Int32).toInt64 by rfl, show (60 : Int64) = (60 : Int32).toInt64 by rfl, bd_of (out_lit a 0 60)]
  by_cases h0 : a < 0
  · rw [if_pos h0, if_pos h0, if_neg (show ¬ (-4 : Int32) = 0 by decide)]; exact ref4 H
  · rw [if_neg h0, if_neg h0]
    by_cases h4 : 60 < a
    · rw [if_pos h4, if_pos h4, if_neg (show ¬ (-6 : Int32) = 0 by decide)]; exact ref6 H
    · rw [if_neg h4, if_neg h4, if_pos rfl]
      obtain ⟨n, hn, hnl⟩ := H.nl
      obtain ⟨Mb, b1, b2, b3⟩ := H.finds hN
      obtain ⟨ny, y1, y2, y3, y4, y5⟩ := b3.1.2.2.2
      rw [bd_of b1]
      generalize hg : (fun b => decide (nI (rk (fun y => setS M1 (nI b) (ix (Mb.1 24 y))) ny) < a)) = g
      have s1 : ∀ rec j, j < 5 → B_X11_drawn_26 N a (fun z5 M6 => some ((-9), M6)) rec (nI j) M1 = if g j then rec (nI (j + 1)) M1 else some (nI j, M1) := by
        intro rec j hj
        obtain ⟨W, w1, w2⟩ := with_e hN hn hnl (nI j)
        unfold B_X11_drawn_26
        rw [if_neg (by rw [gt4 (by omega)]; omega), bd_of w1, bd_of (yin_e hN w2 y5), yr_sum ny (fun y hy => by obtain ⟨w, a, b, -⟩ := y4 y hy; exact ⟨w, a, b⟩), nI_1, ← hg]
        by_cases q : nI (rk (fun y => setS M1 (nI j) (ix (Mb.1 24 y))) ny) < a
        · rw [if_pos q, if_pos (by simp [q])]
        · rw [if_neg q, if_neg (by simp [q])]
      have s2 : ∀ rec j, j < 5 → B_X12_drawn_26 N a (fun z12 M13 => some ((-9), M13)) rec (nI j) Mb = if g j then rec (nI (j + 1)) Mb else some (nI j, Mb) := by
        intro rec j hj
        unfold B_X12_drawn_26
        rw [if_pos (by rw [lt5 (by omega)]; exact hj)]
        have e : ∀ G : Int32 → Mm → Rs, itr (B_X12_drawn_37 N a (nI j) G) N (0, 0) Mb = G (nI (rk (fun y => setS M1 (nI j) (ix (Mb.1 24 y))) ny)) Mb := by
          intro G
          refine itr_for0 (fun k => (nI (rk (fun y => setS M1 (nI j) (ix (Mb.1 24 y))) k), nI k)) (fun _ => Mb) ny (by rw [nI_0]; rfl) rfl (by omega) (fun rec k hk => ?_) (fun rec => ?_)
          · obtain ⟨w, v1, v2, -⟩ := y4 k hk
            unfold B_X12_drawn_37
            dsimp only
            rw [y3, if_pos (by rw [nlt (by omega) (by omega)]; exact hk), inb_n (by omega) (by omega), ix_n (by omega), v2, inb_n (by omega) (by omega), ix_n (by omega), (b3.i.1 w v1).1, bd_of (bits_e hN), (popc_rk w v1).2, rk_s]
            simp only [if_true, lt_eq, nI_1, Int32.add_zero]
            rw [v2, ix_n (by omega)]
            unfold setS
            cases hl : letS M1 w
            · rw [if_pos b01_f]; rfl
            · rw [if_neg (show ¬ b01 true = 0 by decide)]
              by_cases hb : nI j < nI (popc w)
              · rw [if_pos hb]; simp [hb]
              · rw [if_neg hb]; simp [hb]
          · unfold B_X12_drawn_37
            dsimp only
            rw [y3, if_neg (by rw [nlt (by omega) (by omega)]; omega)]
        rw [e, nI_1, ← hg]
        by_cases q : nI (rk (fun y => setS M1 (nI j) (ix (Mb.1 24 y))) ny) < a
        · rw [if_pos q, if_pos (by simp [q])]
        · rw [if_neg q, if_neg (by simp [q])]
      have hm : Km M1 M2 Mb := b2.km b3.2.2
      cases hal : al g 5
      · obtain ⟨k, k1, k2, k3⟩ := al_first hal
        have r1 : itr (B_X11_drawn_26 N a fun z5 M6 => some ((-9), M6)) N 0 M1 = some (nI k, M1) := itr_for0 nI (fun _ => M1) k nI_0 rfl (by omega) (fun rec j hj => by rw [s1 rec j (by omega), if_pos (k3 j hj)]) (fun rec => by rw [s1 rec k k1, if_neg (by rw [k2]; decide)])
        have r2 : itr (B_X12_drawn_26 N a fun z12 M13 => some ((-9), M13)) N 0 Mb = some (nI k, Mb) := itr_for0 nI (fun _ => Mb) k nI_0 rfl (by omega) (fun rec j hj => by rw [s2 rec j (by omega), if_pos (k3 j hj)]) (fun rec => by rw [s2 rec k k1, if_neg (by rw [k2]; decide)])
        exact Ans.q H r1 r2 rfl (Kc.rf H.2.2.2.1) hm
      · have r1 : itr (B_X11_drawn_26 N a fun z5 M6 => some ((-9), M6)) N 0 M1 = some (-9, M1) := itr_for0 nI (fun _ => M1) 5 nI_0 rfl (by omega) (fun rec j hj => by rw [s1 rec j (by omega), if_pos (al_t.mp hal j hj)]) (fun rec => by unfold B_X11_drawn_26; rw [if_pos (by decide)])
        have r2 : itr (B_X12_drawn_26 N a fun z12 M13 => some ((-9), M13)) N 0 Mb = some (-9, Mb) := itr_for0 nI (fun _ => Mb) 5 nI_0 rfl (by omega) (fun rec j hj => by rw [s2 rec j (by omega), if_pos (al_t.mp hal j hj)]) (fun rec => by unfold B_X12_drawn_26; rw [if_neg (by decide)])
        exact Ans.q H r1 r2 rfl (Kc.rf H.2.2.2.1) hm
end Years
