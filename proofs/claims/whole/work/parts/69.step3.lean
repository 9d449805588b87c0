/-! what a word is worth, and how flat a plan is -/
noncomputable def knZ (nu : Nat → Int32) (t : Int32) (A : Nat → Bool) (h : Nat) : Int :=
  if bvZ nu t (fun w => A w && alS ((1 : Int32) <<< (nI h &&& 31)) ((1 : Int32) <<< (nI h &&& 31)) w) < bvZ nu t (fun w => A w && alS 0 ((1 : Int32) <<< (nI h &&& 31)) w) then bvZ nu t (fun w => A w && alS 0 ((1 : Int32) <<< (nI h &&& 31)) w) else bvZ nu t (fun w => A w && alS ((1 : Int32) <<< (nI h &&& 31)) ((1 : Int32) <<< (nI h &&& 31)) w)
theorem al_not : ∀ h, h < 4 → ∀ w, w < 16 → alS 0 ((1 : Int32) <<< (nI h &&& 31)) w = !alS ((1 : Int32) <<< (nI h &&& 31)) ((1 : Int32) <<< (nI h &&& 31)) w := by
  unfold alS
  decide +kernel
theorem bv_b {nu : Nat → Int32} (hn : NumB nu) {t : Int32} {A : Nat → Bool} : -9 ≤ bvZ nu t A ∧ bvZ nu t A ≤ 300100000 := by
  cases h : emp A
  · obtain ⟨b, -, -, -, -, h1, h2⟩ := bv_some hn (t := t) h
    omega
  · rw [(bv_emp h).2]; omega
theorem kn_b {nu : Nat → Int32} (hn : NumB nu) {t : Int32} {A : Nat → Bool} {h : Nat} : -9 ≤ knZ nu t A h ∧ knZ nu t A h ≤ 300100000 := by
  unfold knZ
  split
  · exact bv_b hn
  · exact bv_b hn
section Known
variable {N : Nat} {M M1 M2 : Mm} {A : Nat → Bool} {W : Int32}
theorem word_e (hN : 100000 ≤ N) (hn : NumB (M.1 2)) (hc : CacheC M) (hW : isM W A) {h : Nat} (hh : h < 4) : ∃ x M', f_X11_costWithWord N (nI h) W M = some (x, M') ∧ x.toInt = knZ (M.1 2) (M.1 1 0) A h ∧ Ka M M' := by
  obtain ⟨V, v1, v2⟩ := alike_e (M := M) hN W ((1 : Int32) <<< (nI h &&& 31)) ((1 : Int32) <<< (nI h &&& 31))
  obtain ⟨x, Ma, a1, a2, a3, a4⟩ := best_e hN hn hc v2
  have hU : isM (W &&& (V ^^^ (-1))) (fun w => bt W w && !bt V w) := fun i => by
    rw [b_and, b_xor]
    rcases Nat.lt_or_ge i 16 with hi | hi
    · rw [b_m1 i (by omega)]; simp [hi]
    · rw [hW.hi i hi]; simp; omega
  obtain ⟨y, Mb, b1, b2, b3, b4⟩ := best_e hN (M := Ma) (W := W &&& (V ^^^ (-1))) (by rw [a4.e2]; exact hn) a4.2 hU
  rw [a4.e2, a4.e1] at b2
  have e1 : x.toInt = bvZ (M.1 2) (M.1 1 0) (fun w => A w && alS ((1 : Int32) <<< (nI h &&& 31)) ((1 : Int32) <<< (nI h &&& 31)) w) := a2.trans (bv_congr (fun w hw => by rw [hW.at hw]))
  have e2 : y.toInt = bvZ (M.1 2) (M.1 1 0) (fun w => A w && alS 0 ((1 : Int32) <<< (nI h &&& 31)) w) := b2.trans (bv_congr (fun w hw => by
    rw [v2.at hw, hW.at hw, al_not h hh w hw]
    cases A w <;> simp))
  refine ⟨if x < y then y else x, Mb, ?_, ?_, a4.tr b4⟩
  · unfold f_X11_costWithWord
    rw [bd_of v1, bd_of a1, bd_of b1]
  · unfold knZ
    by_cases hlt : x < y
    · rw [if_pos hlt]
      rw [toI_lt, e1, e2] at hlt
      rw [if_pos hlt, e2]
    · rw [if_neg hlt]
      rw [toI_lt, e1, e2] at hlt
      rw [if_neg hlt, e1]
theorem FS.known (hN : 100000 ≤ N) {b : Int32} (h : FS M1 b M) (x : Nat) : ∃ y M', f_X12_known N (nI x) M = some (y, M') ∧ y.toInt = knZ (M1.1 2) (M1.1 1 0) (setS M1 b) x ∧ Kb Lq M M' ∧ FS M1 b M' := by
  obtain ⟨u, Ma, a1, a2, a3, a4, a5⟩ := h.best hN ((1 : Int32) <<< (nI x &&& 31)) ((1 : Int32) <<< (nI x &&& 31))
  obtain ⟨v, Mb, b1, b2, b3, b4, b5⟩ := a5.best hN ((1 : Int32) <<< (nI x &&& 31)) 0
  unfold f_X12_known
  rw [bd_of a1, bd_of b1]
  unfold knZ
  by_cases hlt : v < u
  · rw [if_pos hlt]
    rw [toI_lt, a2, b2] at hlt
    exact ⟨u, Mb, rfl, by rw [if_neg (by omega), a2], a4.tr b4, b5⟩
  · rw [if_neg hlt]
    rw [toI_lt, a2, b2] at hlt
    refine ⟨v, Mb, rfl, ?_, a4.tr b4, b5⟩
    rw [b2]
    split <;> omega
theorem step_foreknown (hN : 100000 ≤ N) (H : Rel M1 M2) (a b : Int32) : Ans (f_X11_foreknown N a b M1) (f_X12_foreknown N a b M2) := by
  unfold f_X11_foreknown f_X12_foreknown
  rw [bd_of (cHa a), bd_of (mHa H.1.t a)]
  cases hP : isHa (M1.1 1 0) a
  · rw [if_pos b01_f, if_pos b01_f]; exact ref1 H
  · rw [if_neg (show ¬ b01 true = 0 by decide), if_neg (show ¬ b01 true = 0 by decide), bd_of (in01 b)]
    simp only [lt_eq]
    obtain ⟨h, hh, rfl, hh2⟩ := isHa_of hP
    by_cases hb : b = 0 ∨ b = 1
    · rw [if_pos hb, if_neg (show ¬ (1 : Int32) = 0 by decide)]
      obtain ⟨n, hn, hnl⟩ := H.nl
      obtain ⟨W, w1, w2⟩ := set_e hN hn hnl
      obtain ⟨Mb, b1, b2, b3⟩ := H.finds hN
      obtain ⟨y, Mc, c1, c2, c3, c4, c5⟩ := b3.fs.best hN 0 0
      rw [bv_congr (al00 _)] at c2
      obtain ⟨z, Md, d1, d2, d3, d4⟩ := c5.known hN h
      rw [bd_of w1, bd_of b1, bd_of c1, bd_of d1, bd_of d1]
      have key : Ans (if W = 0 then some (-9, M1) else bd (f_X11_costWithWord N (nI h) W M1) fun r8 M9 => if b = 0 then some (r8, M9) else bd (f_X3_bestOver N W M9) fun r10 M11 => some (r10 - r8, M11)) (if y = -9 then some (-9, Mc) else if b = 0 then bd (some (z, Md)) fun r11 M12 => some (r11, M12) else some (y - z, Md)) := by
        cases hE : emp (setS M1 (M1.1 2 42))
        · have hW0 : ¬ W = 0 := by
            rw [w2.zero, ← emp_t, hE]; decide
          have hy : ¬ y = -9 := by
            rw [toI_eq, c2]
            show ¬ bvZ (M1.1 2) (M1.1 1 0) (setS M1 (M1.1 2 42)) = -9
            rw [bv_9 H.num, hE]; decide
          rw [if_neg hW0, if_neg hy]
          obtain ⟨x, Ma, a1, a2, a3⟩ := word_e hN H.num H.2.2.2.1 w2 hh
          rw [bd_of a1]
          by_cases h0 : b = 0
          · rw [if_pos h0, if_pos h0]
            exact Ans.q H rfl rfl (by rw [a2, d2]) a3.kc (((b2.tr c4).tr d3).km d4.fnd.2.2)
          · rw [if_neg h0, if_neg h0]
            obtain ⟨u, Me, e1, e2, e3, e4⟩ := best_e hN (M := Ma) (by rw [a3.e2]; exact H.num) a3.2 w2
            rw [a3.e2, a3.e1] at e2
            rw [bd_of e1]
            have eu : u = y := Int32.toInt_inj.mp (by rw [e2, c2]; rfl)
            have ez : x = z := Int32.toInt_inj.mp (by rw [a2, d2])
            rw [eu, ez]
            exact Ans.q H rfl rfl rfl (a3.tr e4).kc (((b2.tr c4).tr d3).km d4.fnd.2.2)
        · have hW0 : W = 0 := by rw [w2.zero]; exact emp_t.mp hE
          have hy : y = -9 := by
            rw [toI_eq, c2]
            show bvZ (M1.1 2) (M1.1 1 0) (setS M1 (M1.1 2 42)) = -9
            rw [bv_9 H.num, hE]
          rw [if_pos hW0, if_pos hy]
          exact Ans.q H rfl rfl rfl (Kc.rf H.2.2.2.1) ((b2.tr c4).km c5.fnd.2.2)
      rw [bd_s] at key
      rcases hb with rfl | rfl
      · rw [if_pos rfl]; exact key
      · rw [if_neg (show ¬ (1 : Int32) = 0 by decide), if_pos rfl]; exact key
    · rw [if_neg hb, if_pos rfl, if_neg (fun q => hb (Or.inl q)), if_neg (fun q => hb (Or.inr q))]
      exact ref2 H
theorem step_dearest (hN : 100000 ≤ N) (H : Rel M1 M2) : Ans (f_X11_dearest N M1) (f_X12_dearest N M2) := by
  unfold f_X11_dearest f_X12_dearest
  obtain ⟨n, hn, hnl⟩ := H.nl
  obtain ⟨W, w1, w2⟩ := set_e hN hn hnl
  obtain ⟨Mb, b1, b2, b3⟩ := H.finds hN
  obtain ⟨y, Mc, c1, c2, c3, c4, c5⟩ := b3.fs.best hN 0 0
  rw [bv_congr (al00 _)] at c2
  rw [bd_of w1, bd_of b1, bd_of c1]
  cases hE : emp (setS M1 (M1.1 2 42))
  · have hW0 : ¬ W = 0 := by
      rw [w2.zero, ← emp_t, hE]; decide
    have hy : ¬ y = -9 := by
      rw [toI_eq, c2]
      show ¬ bvZ (M1.1 2) (M1.1 1 0) (setS M1 (M1.1 2 42)) = -9
      rw [bv_9 H.num, hE]; decide
    rw [if_neg hW0]
    generalize hg : knZ (M1.1 2) (M1.1 1 0) (setS M1 (M1.1 2 42)) = g
    obtain ⟨s', Ma, rec, ⟨x, hs, hx, hK⟩, he⟩ := itr_go (B := B_X11_dearest_20 N W fun z7 M8 => some (z7, M8)) (fun j s M' => ∃ x : Int32, s = (enI (bbS g (bt (M1.1 1 0)) j), x, nI j) ∧ (∀ b, bbS g (bt (M1.1 1 0)) j = some b → x.toInt = g b) ∧ Ka M1 M') 4
      (fun rec j s Mx hj ⟨x, hs, hx, hK⟩ => by
        subst hs
        unfold B_X11_dearest_20
        dsimp only
        rw [if_pos (by rw [lt4 (by omega)]; exact hj), bd_of (cHa _), isHa_n hj, hK.e1, nI_1]
        cases ht : bt (M1.1 1 0) j
        · rw [if_pos b01_f]
          have e : bbS g (bt (M1.1 1 0)) (j + 1) = bbS g (bt (M1.1 1 0)) j := by
            show (if bt (M1.1 1 0) j then _ else _) = _
            rw [ht]; rfl
          exact ⟨_, _, ⟨x, by rw [e], by rw [e]; exact hx, hK⟩, rfl⟩
        · rw [if_neg (show ¬ b01 true = 0 by decide)]
          obtain ⟨z, My, z1, z2, z3⟩ := word_e hN (M := Mx) (by rw [hK.e2]; exact H.num) hK.2 w2 hj
          rw [hK.e2, hK.e1, hg] at z2
          rw [bd_of z1]
          have take : bbS g (bt (M1.1 1 0)) (j + 1) = some j → ∃ s' M', (∃ x : Int32, s' = (enI (bbS g (bt (M1.1 1 0)) (j + 1)), x, nI (j + 1)) ∧ (∀ b, bbS g (bt (M1.1 1 0)) (j + 1) = some b → x.toInt = g b) ∧ Ka M1 M') ∧ rec (nI j, z, nI (j + 1)) My = rec s' M' := fun e => ⟨_, _, ⟨z, by rw [e]; rfl, fun b hb => by rw [e] at hb; cases hb; exact z2, hK.tr z3⟩, rfl⟩
          cases e : bbS g (bt (M1.1 1 0)) j with
          | none =>
            rw [if_pos (show enI none = -9 from rfl)]
            exact take (by unfold bbS; rw [ht, e]; rfl)
          | some b =>
            have hb := bb_some e
            rw [if_neg (show ¬ enI (some b) = -9 from nI_n9 (by omega))]
            by_cases hlt : g j < g b
            · rw [if_pos (by rw [toI_lt, z2, hx b e]; exact hlt)]
              exact take (by unfold bbS; rw [ht, e]; dsimp only; rw [if_pos rfl, if_pos hlt])
            · rw [if_neg (by rw [toI_lt, z2, hx b e]; exact hlt)]
              have e2 : bbS g (bt (M1.1 1 0)) (j + 1) = some b := by unfold bbS; rw [ht, e]; dsimp only; rw [if_pos rfl, if_neg hlt]
              exact ⟨_, _, ⟨x, by rw [e2], by rw [e2, ← e]; exact hx, hK.tr z3⟩, rfl⟩) N 0 ((-9), 0, 0) M1 (by omega) (by omega) ⟨0, by rw [nI_0]; rfl, fun b hb => (nomatch hb), Ka.rf H.2.2.2.1⟩
    subst hs
    rw [he]
    obtain ⟨s', Md, rec', ⟨hs, hK2, hF⟩, he2⟩ := itr_go (B := B_X12_dearest_16 N y fun z11 M12 => some (z11, M12)) (fun j s M' => s = (enI (bbS g (bt (M1.1 1 0)) j), nI j) ∧ Kb Lq M2 M' ∧ FS M1 (M1.1 2 42) M') 4
      (fun rec j s Mx hj ⟨hs, hK, hF⟩ => by
        subst hs
        unfold B_X12_dearest_16
        dsimp only
        rw [if_pos (by rw [lt4 (by omega)]; exact hj), if_neg hy, bd_of (mHa hF.1.t _), isHa_n hj, nI_1]
        cases ht : bt (M1.1 1 0) j
        · rw [if_pos b01_f]
          have e : bbS g (bt (M1.1 1 0)) (j + 1) = bbS g (bt (M1.1 1 0)) j := by
            show (if bt (M1.1 1 0) j then _ else _) = _
            rw [ht]; rfl
          exact ⟨_, _, ⟨by rw [e], hK, hF⟩, rfl⟩
        · rw [if_neg (show ¬ b01 true = 0 by decide)]
          cases e : bbS g (bt (M1.1 1 0)) j with
          | none =>
            rw [if_pos (show enI none < 0 by decide)]
            exact ⟨_, _, ⟨by unfold bbS; rw [ht, e]; rfl, hK, hF⟩, rfl⟩
          | some b =>
            have hb := bb_some e
            rw [if_neg (show ¬ enI (some b) < 0 from nI_pos (by omega))]
            obtain ⟨u, Mu, u1, u2, u3, u4⟩ := hF.known hN j
            obtain ⟨v, Mv, v1, v2, v3, v4⟩ := u4.known hN b
            have v1' : f_X12_known N (enI (some b)) Mu = some (v, Mv) := v1
            rw [bd_of u1, bd_of v1']
            rw [hg] at u2 v2
            by_cases hlt : g j < g b
            · rw [if_pos (by rw [toI_lt, u2, v2]; exact hlt)]
              exact ⟨_, _, ⟨by unfold bbS; rw [ht, e]; dsimp only; rw [if_pos rfl, if_pos hlt]; rfl, (hK.tr u3).tr v3, v4⟩, rfl⟩
            · rw [if_neg (by rw [toI_lt, u2, v2]; exact hlt)]
              exact ⟨_, _, ⟨by unfold bbS; rw [ht, e]; dsimp only; rw [if_pos rfl, if_neg hlt], (hK.tr u3).tr v3, v4⟩, rfl⟩) N 0 ((-9), 0) Mc (by omega) (by omega) ⟨by rw [nI_0]; rfl, b2.tr c4, c5⟩
    subst hs
    rw [he2]
    unfold B_X11_dearest_20 B_X12_dearest_16
    dsimp only
    rw [if_neg (show ¬ nI 4 < 4 by decide), if_neg (show ¬ nI 4 < 4 by decide)]
    exact Ans.q H rfl rfl rfl hK.kc (hK2.km hF.fnd.2.2)
  · have hW0 : W = 0 := by rw [w2.zero]; exact emp_t.mp hE
    have hy : y = -9 := by
      rw [toI_eq, c2]
      show bvZ (M1.1 2) (M1.1 1 0) (setS M1 (M1.1 2 42)) = -9
      rw [bv_9 H.num, hE]
    rw [if_pos hW0]
    obtain ⟨N', rfl⟩ : ∃ N', N = N' + 1 := ⟨N - 1, by omega⟩
    rw [itr_s]
    unfold B_X12_dearest_16
    dsimp only
    rw [if_pos (show (0 : Int32) < 4 by decide), if_pos hy]
    exact Ans.q H rfl rfl rfl (Kc.rf H.2.2.2.1) ((b2.tr c4).km c5.fnd.2.2)
end Known
