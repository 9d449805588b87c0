/-! the fewest worlds that no plan bears -/
theorem sub_e {x W : Int32} : (x &&& (W ^^^ (-1)) = 0) ↔ ∀ i, i < 32 → bt x i = true → bt W i = true := by
  constructor
  · intro h i hi hx
    have e : bt (x &&& (W ^^^ (-1))) i = false := by rw [h, b_0]
    rw [b_and, b_xor, b_m1 i hi, hx] at e
    simpa using e
  · intro h
    apply b_ext
    intro i hi
    rw [b_and, b_xor, b_m1 i hi, b_0]
    cases hx : bt x i
    · rfl
    · rw [h i hi hx]; rfl
theorem pc_rk {y : Nat} (hy : y < 65536) : rk (bt (nI y)) 16 = pc y ∧ rk (bt (nI y)) 31 = pc y ∧ ∀ i, 16 ≤ i → bt (nI y) i = false := by
  have hi : ∀ i, 16 ≤ i → bt (nI y) i = false := fun i hi => by
    rw [b_nI]
    have : y.testBit i = false := Nat.testBit_lt_two_pow (Nat.lt_of_lt_of_le hy (by rw [show (65536 : Nat) = 2 ^ 16 by rfl]; exact Nat.pow_le_pow_right (by omega) hi))
    rw [this]; simp
  have e : rk (bt (nI y)) 16 = pc y := by
    have := rk_16 (a := y / 256) (b := y % 256) (by omega)
    rw [show 256 * (y / 256) + y % 256 = y by omega] at this
    exact this
  exact ⟨e, by rw [rk_far (n := 16) (m := 31) (by omega) hi]; exact e, hi⟩
noncomputable def NF (nu : Nat → Int32) (t : Int32) (mk : Int) (y : Nat) : Bool := al (fun p => !(plS t p && al (fun w => !bt (nI y) w || decide (cstZ nu p w ≤ mk)) 16)) 256
noncomputable def PN (nu : Nat → Int32) (t : Int32) (W : Int32) (mk : Int) (n y : Nat) : Bool := decide (nI y &&& (W ^^^ (-1)) = 0) && decide (pc y = n) && NF nu t mk y
noncomputable def lst (nu : Nat → Int32) (t : Int32) (W : Int32) (mk : Int) (n : Nat) : Nat := match fgo (fun y => !PN nu t W mk n y) 1 65535 with
  | none => 0
  | some y => y
section None
variable {N : Nat} {M M1 M2 : Mm} {b W mk : Int32}
theorem tr_bt {h m l : Nat} (hh : h < 16) (hm : m < 16) (hl : l < 16) {w : Nat} (hw : w < 32) : bt (nI (tr3 h m l)) w = (decide (w = h) || decide (w = m) || decide (w = l)) := by
  rw [← tr_i h hh m hm l hl, b_or, b_or, sh1 (by omega) hw, sh1 (by omega) hw, sh1 (by omega) hw]
theorem sub_tr {S : Nat → Bool} (hW : isM W S) {h m l : Nat} (hh : h < 16) (hm : m < 16) (hl : l < 16) : (nI (tr3 h m l) &&& (W ^^^ (-1)) = 0) ↔ S h = true ∧ S m = true ∧ S l = true := by
  rw [sub_e]
  constructor
  · intro H
    refine ⟨?_, ?_, ?_⟩
    · rw [← hW.at hh]; exact H h (by omega) (by rw [tr_bt hh hm hl (by omega)]; simp)
    · rw [← hW.at hm]; exact H m (by omega) (by rw [tr_bt hh hm hl (by omega)]; simp)
    · rw [← hW.at hl]; exact H l (by omega) (by rw [tr_bt hh hm hl (by omega)]; simp)
  · rintro ⟨h1, h2, h3⟩ i hi hx
    rw [tr_bt hh hm hl hi] at hx
    simp only [Bool.or_eq_true, decide_eq_true_eq] at hx
    rcases hx with (rfl | rfl) | rfl
    · rw [hW.at hh]; exact h1
    · rw [hW.at hm]; exact h2
    · rw [hW.at hl]; exact h3
theorem nf_tr {nu : Nat → Int32} {t : Int32} {S : Nat → Bool} {z : Int} {h m l : Nat} (hh : h < 16) (hm : m < 16) (hl : l < 16) (h1 : S h = true) (h2 : S m = true) (h3 : S l = true) : al (fun p => !(brS nu t S z h p && brS nu t S z m p && brS nu t S z l p)) 256 = NF nu t z (tr3 h m l) := by
  unfold NF
  refine al_congr 256 (fun p hp => ?_)
  unfold brS
  rw [h1, h2, h3]
  have e : al (fun w => !bt (nI (tr3 h m l)) w || decide (cstZ nu p w ≤ z)) 16 = (decide (cstZ nu p h ≤ z) && decide (cstZ nu p m ≤ z) && decide (cstZ nu p l ≤ z)) := by
    rw [Bool.eq_iff_iff, al_t]
    simp only [Bool.and_eq_true, decide_eq_true_eq, Bool.or_eq_true, Bool.not_eq_true']
    constructor
    · intro H
      refine ⟨⟨?_, ?_⟩, ?_⟩
      · rcases H h hh with q | q
        · rw [tr_bt hh hm hl (by omega)] at q; simp at q
        · exact q
      · rcases H m hm with q | q
        · rw [tr_bt hh hm hl (by omega)] at q; simp at q
        · exact q
      · rcases H l hl with q | q
        · rw [tr_bt hh hm hl (by omega)] at q; simp at q
        · exact q
    · rintro ⟨⟨q1, q2⟩, q3⟩ w hw
      by_cases e1 : w = h
      · subst e1; exact Or.inr q1
      · by_cases e2 : w = m
        · subst e2; exact Or.inr q2
        · by_cases e3 : w = l
          · subst e3; exact Or.inr q3
          · left; rw [tr_bt hh hm hl (by omega)]; simp [e1, e2, e3]
  rw [e]
  cases plS t p <;> cases decide (cstZ nu p h ≤ z) <;> cases decide (cstZ nu p m ≤ z) <;> cases decide (cstZ nu p l ≤ z) <;> rfl
/-- the class's least, of a size -/
theorem fewl_e (hN : 100000 ≤ N) {nu : Nat → Int32} {t : Int32} {S : Nat → Bool} {z : Int} (hW : isM W S) (hb : ∀ w i b, w < 16 → i < 4 → b < 64 → bl (M.2 52 (4 * w + i)) b = brS nu t S z w (64 * i + b)) {n : Nat} (hn1 : 1 ≤ n) (hn : n ≤ 3) : f_X0_leastOf N (nI n) W M = some (nI (lst nu t W z n), M) := by
  have hT : ∀ h m l, h < 16 → m ≤ h → l ≤ m → ∀ (G rec : _), B_X0_leastOf_20 N (nI n) W (nI h) (nI m) G rec (nI l) M = if PN nu t W z n (tr3 h m l) then some (nI (tr3 h m l), M) else rec (nI (l + 1)) M := by
    intro h m l hh hm hl G rec
    have tl := tr_lt h hh m (by omega) l (by omega)
    have pr := pc_rk tl.2
    unfold B_X0_leastOf_20
    rw [if_neg (by rw [nlt (by omega) (by omega)]; omega), lt_eq, tr_i h hh m (by omega) l (by omega), bd_of (bc_e pr.2.2), pr.1, nI_1]
    have p3 : pc (tr3 h m l) ≤ 16 := by rw [← pr.1]; exact rk_le _
    unfold PN
    by_cases c1 : pc (tr3 h m l) = n
    · rw [if_pos (by rw [c1])]
      by_cases c2 : nI (tr3 h m l) &&& (W ^^^ (-1)) = 0
      · rw [if_pos c2, bd_of (borne_e hN hb hh (by omega) (by omega))]
        obtain ⟨s1, s2, s3⟩ := (sub_tr hW hh (show m < 16 by omega) (show l < 16 by omega)).mp c2
        rw [nf_tr hh (by omega) (by omega) s1 s2 s3, decide_eq_true c1, decide_eq_true c2]
        cases NF nu t z (tr3 h m l)
        · rw [if_pos b01_f]; rfl
        · rw [if_neg (show ¬ b01 true = 0 by decide)]; rfl
      · rw [if_neg c2, decide_eq_false c2]; rfl
    · rw [if_neg (by rw [neq (by omega) (by omega)]; exact c1), decide_eq_false c1]
      simp
  have P1 : ∀ y, PN nu t W z n y = true → pc y = n := fun y h => by
    unfold PN at h
    simp only [Bool.and_eq_true, decide_eq_true_eq] at h
    exact h.1.2
  have before : ∀ (g : Nat → Bool) (d i k : Nat), fgo g i d = some k → ∀ j, i ≤ j → j < k → g j = true := by
    intro g d
    induction d with
    | zero => intro i k h; cases h
    | succ d ih =>
      intro i k h j h1 h2
      unfold fgo at h
      cases hg : g i
      · rw [hg] at h; cases h; omega
      · rw [hg] at h
        by_cases e : j = i
        · rw [e]; exact hg
        · exact ih (i + 1) k h j (by omega) h2
  unfold lst
  rcases least_l (N := N) (M := M) (W := W) (n := n) hN hT with ⟨a1, a2⟩ | ⟨h, m, l, hh, hm, hl, a1, a2, a3⟩
  · rw [a1]
    cases e : fgo (fun y => !PN nu t W z n y) 1 65535 with
    | none => rfl
    | some y =>
      have q := fgo_some _ _ _ e
      have hP : PN nu t W z n y = true := by simpa using q.2.2
      obtain ⟨a, b', c, ha, hy, hc⟩ := dec_ok (y := y) (by omega) (by omega) (by rw [P1 y hP]; omega)
      have := a2 a b' c ha (by rcases hc with h | h | h <;> omega) (by rcases hc with h | h | h <;> omega)
      rw [← hy, hP] at this
      cases this
  · rw [a1]
    have tl := tr_lt h hh m (by omega) l (by omega)
    cases e : fgo (fun y => !PN nu t W z n y) 1 65535 with
    | none =>
      have := fgo_none _ _ e (tr3 h m l) (by omega) (by omega)
      rw [a2] at this; simp at this
    | some y =>
      have q := fgo_some _ _ _ e
      have hP : PN nu t W z n y = true := by simpa using q.2.2
      have : y = tr3 h m l := by
        rcases Nat.lt_trichotomy y (tr3 h m l) with u | u | u
        · obtain ⟨a, b', c, h1, h2, h3, h4, h5⟩ := lex_of hh hm hl (by omega) u (by rw [P1 y hP, P1 _ a2]) (by rw [P1 y hP]; omega)
          have := a3 a b' c h3 h1 h2 h5
          rw [← h4, hP] at this
          cases this
        · exact u
        · have := before _ _ _ _ e (tr3 h m l) (by omega) u
          rw [a2] at this; simp at this
      rw [this]
/-- the reference: whether no plan bears a set -/
theorem mnf_e (hN : 100000 ≤ N) (f : FS M1 b M) (hW : isM W (setS M1 b)) {y : Nat} (hs : nI y &&& (W ^^^ (-1)) = 0) : f_X12_isNoneFor N (nI y) mk M = some (b01 (NF (M1.1 2) (M1.1 1 0) mk.toInt y), M) := by
  have inner : ∀ p, p < 256 → ∀ (G : Int32 → Mm → Rs), itr (B_X12_isNoneFor_20 N (nI y) mk (nI p) G) N (M.1 20 p, 0) M = G (b01 (plS (M1.1 1 0) p && al (fun w => !bt (nI y) w || decide (cstZ (M1.1 2) p w ≤ mk.toInt)) 16)) M := by
    intro p hp G
    have gen : ∀ (d j n : Nat), j + d = 16 → d < n → itr (B_X12_isNoneFor_20 N (nI y) mk (nI p) G) n (b01 (plS (M1.1 1 0) p && al (fun w => !bt (nI y) w || decide (cstZ (M1.1 2) p w ≤ mk.toInt)) j), nI j) M = G (b01 (plS (M1.1 1 0) p && al (fun w => !bt (nI y) w || decide (cstZ (M1.1 2) p w ≤ mk.toInt)) 16)) M := by
      intro d
      induction d with
      | zero =>
        intro j n hj hn
        obtain ⟨n, rfl⟩ : ∃ n', n = n' + 1 := ⟨n - 1, by omega⟩
        have : j = 16 := by omega
        subst this
        have eB : ∀ x rec, B_X12_isNoneFor_20 N (nI y) mk (nI p) G rec (x, nI 16) M = G x M := fun x rec => by
          unfold B_X12_isNoneFor_20
          dsimp only
          rw [if_neg (show ¬ nI 16 < 16 by decide)]
        rw [itr_s, eB]
      | succ d ih =>
        intro j n hj hn
        obtain ⟨n, rfl⟩ : ∃ n', n = n' + 1 := ⟨n - 1, by omega⟩
        cases hv : (plS (M1.1 1 0) p && al (fun w => !bt (nI y) w || decide (cstZ (M1.1 2) p w ≤ mk.toInt)) j)
        · have eB : ∀ rec, B_X12_isNoneFor_20 N (nI y) mk (nI p) G rec (b01 false, nI j) M = G (b01 false) M := fun rec => by
            unfold B_X12_isNoneFor_20
            dsimp only
            rw [if_pos (by rw [lt16 (by omega)]; omega), if_pos b01_f]
          rw [itr_s, eB]
          congr 2
          symm
          rw [Bool.and_eq_false_iff] at hv ⊢
          rcases hv with q | q
          · exact Or.inl q
          · right
            cases e : al (fun w => !bt (nI y) w || decide (cstZ (M1.1 2) p w ≤ mk.toInt)) 16
            · rfl
            · rw [al_t] at e
              rw [al_t.mpr (fun i hi => e i (by omega))] at q
              cases q
        · rw [Bool.and_eq_true] at hv
          have eB : ∀ rec, B_X12_isNoneFor_20 N (nI y) mk (nI p) G rec (b01 true, nI j) M = rec (b01 (!bt (nI y) j || decide (cstZ (M1.1 2) p j ≤ mk.toInt)), nI (j + 1)) M := fun rec => by
            unfold B_X12_isNoneFor_20
            dsimp only
            rw [if_pos (by rw [lt16 (by omega)]; omega), if_neg (show ¬ b01 true = 0 by decide), bit_e _ (by omega), nI_1, lmul16, nI_add, inb_n (by omega) (by omega), ix_n (by omega)]
            cases hb : bt (nI y) j
            · rw [if_pos b01_f]; rfl
            · rw [if_neg (show ¬ b01 true = 0 by decide), if_pos rfl]
              have hS : setS M1 b j = true := by rw [← hW.at (show j < 16 by omega)]; exact sub_e.mp hs j (by omega) hb
              have hc : (M.1 18 (16 * p + j)).toInt = cstZ (M1.1 2) p j := by
                rw [(f.2.2.2.2 p hp).2 hv.1 j (by omega), setS_wo hS]; rfl
              by_cases q : mk < M.1 18 (16 * p + j)
              · rw [if_pos q]
                rw [toI_lt, hc] at q
                rw [decide_eq_false (show ¬ cstZ (M1.1 2) p j ≤ mk.toInt by omega)]; rfl
              · rw [if_neg q]
                rw [toI_lt, hc] at q
                rw [decide_eq_true (show cstZ (M1.1 2) p j ≤ mk.toInt by omega)]; rfl
          rw [itr_s, eB]
          have := ih (j + 1) n (by omega) (by omega)
          rw [al_s, hv.1, hv.2, Bool.true_and, Bool.true_and] at this
          rw [hv.1]
          exact this
    rw [(f.2.2.2.2 p hp).1]
    have := gen 16 0 N (by omega) (by omega)
    rw [nI_0] at this
    have e0 : (plS (M1.1 1 0) p && al (fun w => !bt (nI y) w || decide (cstZ (M1.1 2) p w ≤ mk.toInt)) 0) = plS (M1.1 1 0) p := by
      show (plS (M1.1 1 0) p && true) = _
      rw [Bool.and_true]
    rw [e0] at this
    exact this
  have key := itr_al (B := B_X12_isNoneFor_2 N (nI y) mk fun _ M4 => some (1, M4)) (M := M) (g := fun p => !(plS (M1.1 1 0) p && al (fun w => !bt (nI y) w || decide (cstZ (M1.1 2) p w ≤ mk.toInt)) 16)) (R0 := some (0, M)) (R1 := some (1, M)) (n := N) 256
    (fun rec p hp => by
      unfold B_X12_isNoneFor_2
      rw [if_pos (by rw [lt256 (by omega)]; exact hp), inb_n (by omega) (by omega), ix_n (by omega), if_pos rfl, nI_1, inner p hp]
      cases (plS (M1.1 1 0) p && al (fun w => !bt (nI y) w || decide (cstZ (M1.1 2) p w ≤ mk.toInt)) 16)
      · rw [if_pos b01_f]; rfl
      · rw [if_neg (show ¬ b01 true = 0 by decide)]; rfl)
    (fun rec => by
      unfold B_X12_isNoneFor_2
      rw [if_neg (show ¬ nI 256 < 256 by decide)]) (by omega)
  unfold f_X12_isNoneFor
  rw [key]
  unfold NF
  cases al (fun p => !(plS (M1.1 1 0) p && al (fun w => !bt (nI y) w || decide (cstZ (M1.1 2) p w ≤ mk.toInt)) 16)) 256 <;> rfl
theorem mall_e (hN : 100000 ≤ N) {S : Nat → Bool} (hW : isM W S) (h19 : ∀ w, w < 16 → M.1 19 w = b01 (S w)) (a c : Int32) (G : Int32 → Mm → Rs) : itr (B_X12_none_47 N a c G) N (0, 0) M = G W M := by
  obtain ⟨s', Ma, rec, ⟨V, hs, hM, hV⟩, he⟩ := itr_go (B := B_X12_none_47 N a c G) (fun j s M' => ∃ V, s = (V, nI j) ∧ M' = M ∧ pre j V S) 16
    (fun rec j s Mx hj ⟨V, hs, hM, hV⟩ => by
      subst hs; subst hM
      unfold B_X12_none_47
      dsimp only
      rw [if_pos (by rw [lt16 (by omega)]; exact hj), inb_n (by omega) (by omega), ix_n (by omega), if_pos rfl, h19 j hj, nI_1]
      simp only [lt_eq]
      cases hS : S j
      · rw [if_pos b01_f, show V ||| 0 = V from b_ext (fun i _ => by rw [b_or, b_0, Bool.or_false])]
        exact ⟨_, _, ⟨V, rfl, rfl, pre_f hV hS⟩, rfl⟩
      · rw [if_neg (show ¬ b01 true = 0 by decide)]
        exact ⟨_, _, ⟨_, rfl, rfl, pre_t hV (by omega) hS⟩, rfl⟩) N 0 (0, 0) M (by omega) (by omega) ⟨0, by rw [nI_0], rfl, pre_0⟩
  subst hs; subst hM
  rw [he]
  unfold B_X12_none_47
  dsimp only
  rw [if_neg (show ¬ nI 16 < 16 by decide)]
  have : V = W := b_ext (fun i _ => by rw [hV i, hW i])
  rw [this]
theorem mnone_e (hN : 100000 ≤ N) (f : FS M1 b M) (hW : isM W (setS M1 b)) (c : Int32) : itr (B_X12_none_86 N mk c W fun _ M18 => some (-9, M18)) N 1 M = match fgo (fun n => decide (lst (M1.1 2) (M1.1 1 0) W mk.toInt n = 0)) 1 3 with | none => some (-9, M) | some n => if c = 0 then some (nI n, M) else some (nI (lst (M1.1 2) (M1.1 1 0) W mk.toInt n), M) := by
  have inner : ∀ n, n < 4 → ∀ (G : Unit → Mm → Rs), itr (B_X12_none_95 N mk c W (nI n) G) N 1 M = match fgo (fun y => !PN (M1.1 2) (M1.1 1 0) W mk.toInt n y) 1 65535 with | none => G () M | some y => if c = 0 then some (nI n, M) else some (nI y, M) := by
    intro n hn G
    have key := itr_first (B := B_X12_none_95 N mk c W (nI n) G) (M := M) (g := fun y => !PN (M1.1 2) (M1.1 1 0) W mk.toInt n y) (R0 := fun y => if c = 0 then some (nI n, M) else some (nI y, M)) (R1 := G () M) (e := 65536)
      (fun rec y hy => by
        have pr := pc_rk hy
        have p3 : pc y ≤ 16 := by rw [← pr.1]; exact rk_le _
        unfold B_X12_none_95
        rw [if_pos (by rw [ltc (c := 65536) (n := 65536) rfl (by omega) (by omega)]; exact hy), nI_1]
        unfold PN
        by_cases c2 : nI y &&& (W ^^^ (-1)) = 0
        · rw [if_pos c2, bd_of (bits_e hN), pr.2.1]
          by_cases c1 : pc y = n
          · rw [if_pos (by rw [c1]), bd_of (mnf_e hN f hW c2), decide_eq_true c1, decide_eq_true c2]
            cases NF (M1.1 2) (M1.1 1 0) mk.toInt y
            · rw [if_pos b01_f]; rfl
            · rw [if_neg (show ¬ b01 true = 0 by decide)]; rfl
          · rw [if_neg (by rw [neq (by omega) (by omega)]; exact c1), decide_eq_false c1]
            simp
        · rw [if_neg c2, decide_eq_false c2]; rfl)
      (fun rec => by
        unfold B_X12_none_95
        rw [if_neg (by rw [ltc (c := 65536) (n := 65536) rfl (by omega) (by omega)]; omega)]) 65535 1 N (by omega) (by omega)
    exact key
  have key := itr_first (B := B_X12_none_86 N mk c W fun _ M18 => some (-9, M18)) (M := M) (g := fun n => decide (lst (M1.1 2) (M1.1 1 0) W mk.toInt n = 0)) (R0 := fun n => if c = 0 then some (nI n, M) else some (nI (lst (M1.1 2) (M1.1 1 0) W mk.toInt n), M)) (R1 := some (-9, M)) (e := 4)
    (fun rec n hn => by
      unfold B_X12_none_86
      rw [if_pos (by rw [lt4 (by omega)]; exact hn), nI_1, inner n hn]
      unfold lst
      cases e : fgo (fun y => !PN (M1.1 2) (M1.1 1 0) W mk.toInt n y) 1 65535 with
      | none => rfl
      | some y =>
        have q := fgo_some _ _ _ e
        dsimp only
        rw [if_neg (show ¬ decide (y = 0) = true by simp; omega)])
    (fun rec => by
      unfold B_X12_none_86
      rw [if_neg (show ¬ nI 4 < 4 by decide)]) 3 1 N (by omega) (by omega)
  exact key
end None
