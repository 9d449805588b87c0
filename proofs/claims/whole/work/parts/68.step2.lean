/-! what the reference has found, with the set of some budget -/
def FS (M1 : Mm) (b : Int32) (M : Mm) : Prop := ToldR M1.1 M.1 ∧ M.1 0 2 = 1 ∧ (∀ w, w < 16 → M.1 21 w = b01 (letS M1 w)) ∧ (∀ w, w < 16 → M.1 19 w = b01 (setS M1 b w)) ∧ ∀ p, p < 256 → M.1 20 p = b01 (plS (M1.1 1 0) p) ∧ (plS (M1.1 1 0) p = true → ∀ w, w < 16 → (M.1 18 (16 * p + w)).toInt = if woS (M1.1 1 0) w then cstZ (M1.1 2) p w else 0)
theorem wv_fun {nu : Nat → Int32} {A A' : Nat → Bool} (h : ∀ w, w < 16 → A w = A' w) : wvZ nu A = wvZ nu A' := by
  funext p
  exact va_congr h (fun _ _ _ => rfl)
theorem emp_congr {A A' : Nat → Bool} (h : ∀ w, w < 16 → A w = A' w) : emp A = emp A' := al_congr 16 (fun w hw => by rw [h w hw])
theorem bp_congr {nu : Nat → Int32} {t : Int32} {A A' : Nat → Bool} (h : ∀ w, w < 16 → A w = A' w) : bpS nu t A = bpS nu t A' := by
  unfold bpS
  rw [emp_congr h, wv_fun h]
noncomputable def bvZ (nu : Nat → Int32) (t : Int32) (A : Nat → Bool) : Int := vaZ (wvZ nu A) (bpS nu t A)
theorem bv_congr {nu : Nat → Int32} {t : Int32} {A A' : Nat → Bool} (h : ∀ w, w < 16 → A w = A' w) : bvZ nu t A = bvZ nu t A' := by
  unfold bvZ
  rw [bp_congr h, wv_fun h]
theorem al00 (S : Nat → Bool) : ∀ w, w < 16 → (S w && alS 0 0 w) = S w := fun w _ => by unfold alS; simp
theorem bb_ex {g : Nat → Int} {P : Nat → Bool} : ∀ {n v : Nat}, v < n → P v = true → ∃ b, bbS g P n = some b := by
  intro n
  induction n with
  | zero => intro v h; omega
  | succ n ih =>
    intro v hv hP
    unfold bbS
    by_cases e : P n = true
    · rw [if_pos e]
      split
      · exact ⟨_, rfl⟩
      · split
        · exact ⟨_, rfl⟩
        · exact ⟨_, rfl⟩
    · rw [if_neg e]
      exact ih (v := v) (by
        by_cases q : v = n
        · subst q; exact absurd hP e
        · omega) hP
theorem pl_0 (t : Int32) : plS t 0 = true := by
  unfold plS
  rw [al_t]
  intro i _
  simp
theorem bv_emp {nu : Nat → Int32} {t : Int32} {A : Nat → Bool} (h : emp A = true) : bpS nu t A = none ∧ bvZ nu t A = -9 := by
  have : bpS nu t A = none := by unfold bpS; rw [h]; rfl
  exact ⟨this, by unfold bvZ; rw [this]; rfl⟩
theorem bv_some {nu : Nat → Int32} (hn : NumB nu) {t : Int32} {A : Nat → Bool} (h : emp A = false) : ∃ b, bpS nu t A = some b ∧ b < 256 ∧ plS t b = true ∧ bvZ nu t A = wvZ nu A b ∧ 0 ≤ bvZ nu t A ∧ bvZ nu t A ≤ 300100000 := by
  obtain ⟨b, hb⟩ := bb_ex (g := wvZ nu A) (P := plS t) (n := 256) (v := 0) (by omega) (pl_0 t)
  have e : bpS nu t A = some b := by unfold bpS; rw [h]; exact hb
  have b2 := bb_some hb
  have v : bvZ nu t A = wvZ nu A b := by unfold bvZ; rw [e]; rfl
  have w := wv_pos hn b2.1 h
  exact ⟨b, e, b2.1, b2.2, v, by rw [v]; exact w.1, by rw [v]; exact w.2⟩
theorem bv_9 {nu : Nat → Int32} (hn : NumB nu) {t : Int32} {A : Nat → Bool} : (bvZ nu t A = -9) = (emp A = true) := by
  cases h : emp A
  · obtain ⟨b, -, -, -, -, h1, -⟩ := bv_some hn (t := t) h
    exact propext ⟨fun q => by omega, fun q => by cases q⟩
  · exact propext ⟨fun _ => rfl, fun _ => (bv_emp h).2⟩
section FSs
variable {N : Nat} {M1 M : Mm} {b : Int32}
theorem Fnd.fs (h : Fnd M1 M) : FS M1 (M1.1 2 42) M := ⟨h.1, h.2.1, fun w hw => (h.i.1 w hw).1, fun w hw => (h.i.1 w hw).2, h.i.2⟩
theorem FS.fnd (h : FS M1 (M1.1 2 42) M) : Fnd M1 M := ⟨h.1, h.2.1, Or.inr ⟨h.2.1, fun w hw => ⟨h.2.2.1 w hw, h.2.2.2.1 w hw⟩, h.2.2.2.2⟩⟩
theorem FS.sl {L : List Nat} {M' : Mm} (h : FS M1 b M) (hs : Sl L M M') (hl : ∀ b ∈ L, b ∈ Lx) (h2 : 2 ∉ L) : FS M1 b M' := by
  obtain ⟨a1, a2, a3, a4, a5⟩ := h
  refine ⟨(hs.kb hl).told a1, by rw [hs.2 2 h2]; exact a2, ?_, ?_, ?_⟩
  · rw [hs.e (b := 21) (by omega)]; exact a3
  · rw [hs.e (b := 19) (by omega)]; exact a4
  · rw [hs.e (b := 20) (by omega), hs.e (b := 18) (by omega)]; exact a5
theorem FS.draw (hN : 100000 ≤ N) (h : FS M1 b M) (b' : Int32) : ∃ M', f_X12_draws N b' M = some (0, M') ∧ FS M1 b' M' ∧ Kb Lq M M' ∧ M'.1 0 = M.1 0 := by
  obtain ⟨a1, a2, a3, a4, a5⟩ := h
  obtain ⟨M', c1, c2, c3⟩ := draws_e hN a3 b'
  have e0 := c2.1 0 (by decide)
  have hK : Kb Lq M M' := ⟨c2.mono (by simp [Lq]), fun i _ => by rw [e0]⟩
  refine ⟨M', c1, ⟨hK.told a1, by rw [e0]; exact a2, ?_, c3, ?_⟩, hK, e0⟩
  · rw [c2.1 21 (by decide)]; exact a3
  · rw [c2.1 20 (by decide), c2.1 18 (by decide)]; exact a5
theorem FS.worst (hN : 100000 ≤ N) (h : FS M1 b M) {p : Nat} (hp : p < 256) (hP : plS (M1.1 1 0) p = true) (mask like : Int32) :
    ∃ x M', f_X12_worstOf N (nI p) mask like M = some (x, M') ∧ x.toInt = wvZ (M1.1 2) (fun w => setS M1 b w && alS like mask w) p ∧ M'.1 0 33 = enI (wwS (cstZ (M1.1 2) p) (fun w => setS M1 b w && alS like mask w) 16) ∧ Kb Lq M M' ∧ FS M1 b M' ∧ Sl [33] M M' := by
  obtain ⟨x, M', a1, a2, a3, a4⟩ := mworst_e hN h.1.num (M := M) (S := setS M1 b) h.2.2.2.1 hp (fun w hw hS => by rw [(h.2.2.2.2 p hp).2 hP w hw, setS_wo hS]; rfl) mask like
  exact ⟨x, M', a1, a2, a3, a4.kb (by decide), h.sl a4 (by decide) (by decide), a4⟩
theorem FS.best (hN : 100000 ≤ N) (h : FS M1 b M) (mask like : Int32) :
    ∃ x M', f_X12_bestOf N mask like M = some (x, M') ∧ x.toInt = bvZ (M1.1 2) (M1.1 1 0) (fun w => setS M1 b w && alS like mask w) ∧ M'.1 0 34 = enI (bpS (M1.1 2) (M1.1 1 0) (fun w => setS M1 b w && alS like mask w)) ∧ Kb Lq M M' ∧ FS M1 b M' := by
  obtain ⟨x, M', a1, a2, a3, a4⟩ := mbest_e hN h.1.num (M := M) (S := setS M1 b) (t := M1.1 1 0) h.2.2.2.1 (fun p hp => (h.2.2.2.2 p hp).1) (fun p hp hP w hw hS => by rw [(h.2.2.2.2 p hp).2 hP w hw, setS_wo hS]; rfl) mask like
  exact ⟨x, M', a1, a2, a3, a4.kb (by decide), h.sl a4 (by decide) (by decide)⟩
end FSs
section Step2
variable {N : Nat} {M1 M2 : Mm}
theorem step_best (hN : 100000 ≤ N) (H : Rel M1 M2) (a : Int32) : Ans (f_X11_best N a M1) (f_X12_best N a M2) := by
  unfold f_X11_best f_X12_best
  rw [bd_of (in01 a)]
  simp only [lt_eq]
  obtain ⟨n, hn, hnl⟩ := H.nl
  obtain ⟨W, w1, w2⟩ := set_e hN hn hnl
  obtain ⟨x, Ma, a1, a2, a3, a4⟩ := best_e hN H.num H.2.2.2.1 w2
  obtain ⟨Mb, b1, b2, b3⟩ := H.finds hN
  obtain ⟨y, Mc, c1, c2, c3, c4, c5⟩ := b3.fs.best hN 0 0
  rw [bv_congr (al00 _)] at c2
  rw [bp_congr (al00 _)] at c3
  have hm : Km M1 M2 Mc := (b2.tr c4).km c5.fnd.2.2
  by_cases h0 : a = 0
  · subst h0
    rw [if_pos rfl, if_neg (show ¬ (if (0 : Int32) = 0 ∨ (0 : Int32) = 1 then (1 : Int32) else 0) = 0 by decide), bd_of w1, bd_of a1, bd_of b1, bd_of c1, if_pos rfl, if_pos rfl]
    exact Ans.q H rfl rfl (by rw [a3, c3]) a4.kc hm
  · rw [if_neg h0]
    by_cases h1 : a = 1
    · subst h1
      rw [if_pos rfl, if_neg (show ¬ (if (1 : Int32) = 0 ∨ (1 : Int32) = 1 then (1 : Int32) else 0) = 0 by decide), bd_of w1, bd_of a1, bd_of b1, bd_of c1, if_neg h0, if_neg h0]
      exact Ans.q H rfl rfl (by rw [a2, c2]; rfl) a4.kc hm
    · rw [if_neg h1, if_pos (show (if a = 0 ∨ a = 1 then (1 : Int32) else 0) = 0 by rw [if_neg (by rintro (q | q) <;> contradiction)])]
      exact ref2 H
theorem step_inSet (hN : 100000 ≤ N) (H : Rel M1 M2) (a : Int32) : Ans (f_X11_inSet N a M1) (f_X12_inSet N a M2) := by
  unfold f_X11_inSet f_X12_inSet
  rcases i_cases a with hx | ⟨w, hw, rfl⟩
  · rw [if_pos hx, if_pos hx]; exact ref1 H
  · rw [if_neg (nI_pos hw), if_neg (nI_pos hw)]
    by_cases h16 : w < 16
    · rw [if_pos (by rw [lt16 hw]; exact h16), if_neg (by rw [gt15 hw]; omega)]
      obtain ⟨n, hn, hnl⟩ := H.nl
      obtain ⟨W, w1, w2⟩ := set_e hN hn hnl
      obtain ⟨Mb, b1, b2, b3⟩ := H.finds hN
      rw [bd_of w1, bd_of b1, bd_of (mWo hN b3.1.t _), isWo_n h16, bit_e _ (by omega), w2.at h16, inb_n (by omega) (by omega), ix_n (by omega), if_pos rfl, (b3.i.1 w h16).2]
      have hm : Km M1 M2 Mb := b2.km b3.2.2
      cases hS : setS M1 (M1.1 2 42) w
      · cases hW : woS (M1.1 1 0) w
        · rw [if_pos b01_f]; exact Ans.q H rfl rfl rfl (Kc.rf H.2.2.2.1) hm
        · rw [if_neg (show ¬ b01 true = 0 by decide), if_pos b01_f]; exact Ans.q H rfl rfl rfl (Kc.rf H.2.2.2.1) hm
      · rw [setS_wo hS, if_neg (show ¬ b01 true = 0 by decide), if_neg (show ¬ b01 true = 0 by decide)]; exact Ans.q H rfl rfl rfl (Kc.rf H.2.2.2.1) hm
    · rw [if_neg (by rw [lt16 hw]; exact h16), if_pos (by rw [gt15 hw]; omega)]; exact ref1 H
theorem out_lit (x b c : Int32) {M : Mm} : f_X12_outOf N x.toInt64 b.toInt64 c.toInt64 M = some (if x < b then -4 else if c < x then -6 else 0, M) := outOf_e N x b c M
theorem step_corner (hN : 100000 ≤ N) (H : Rel M1 M2) (a : Int32) : Ans (f_X11_corner N a M1) (f_X12_corner N a M2) := by
  unfold f_X11_corner f_X12_corner
  rw [show (0 : Int64) = (0 : Int32).toInt64 by rfl, show (4 : Int64) = (4 : Int32).toInt64 by rfl, bd_of (out_lit a 0 4)]
  by_cases h0 : a < 0
  · rw [if_pos h0, if_pos h0, if_neg (show ¬ (-4 : Int32) = 0 by decide)]; exact ref4 H
  · rw [if_neg h0, if_neg h0]
    by_cases h4 : 4 < a
    · rw [if_pos h4, if_pos h4, if_neg (show ¬ (-6 : Int32) = 0 by decide)]; exact ref6 H
    · rw [if_neg h4, if_neg h4, if_pos rfl]
      obtain ⟨n, hn, hnl⟩ := H.nl
      obtain ⟨W, w1, w2⟩ := with_e hN hn hnl a
      obtain ⟨x, Ma, a1, a2, a3, a4⟩ := best_e hN H.num H.2.2.2.1 w2
      obtain ⟨Mb, b1, b2, b3⟩ := H.finds hN
      obtain ⟨Mc, c1, c2, c3, -⟩ := b3.fs.draw hN a
      obtain ⟨y, Md, d1, d2, d3, d4, d5⟩ := c2.best hN 0 0
      rw [bv_congr (al00 _)] at d2
      obtain ⟨Me, e1, e2, e3, -⟩ := d5.draw hN (M1.1 2 42)
      have e42 : Md.1 2 (ix 42) = M1.1 2 42 := d5.1.nu 42 (by omega)
      rw [bd_of w1, bd_of a1, bd_of b1, bd_of c1, bd_of d1, e42, bd_of e1]
      exact Ans.q H rfl rfl (by rw [a2, d2]; rfl) a4.kc ((((b2.tr c3).tr d4).tr e3).km e2.fnd.2.2)
/-- the harbours of which it is seen by a day -/
def snB (M : Mm) (d : Int32) (i : Nat) : Bool := bt (M.1 1 0) i && !decide (d < M.1 2 (6 * i + 5))
theorem seen_e {M : Mm} (hN : 100000 ≤ N) (hT : ∀ i, 4 ≤ i → bt (M.1 1 0) i = false) (d : Int32) : ∃ V, f_X10_seenBy N d M = some (V, M) ∧ pre 4 V (snB M d) := by
  obtain ⟨s', M', rec, ⟨V, hs, hM, hV⟩, he⟩ := itr_go (B := B_X10_seenBy_4 N d fun z2 M3 => some (z2 &&& (M3.1 1 0), M3)) (fun j s M' => ∃ V, s = (V, nI j) ∧ M' = M ∧ pre j V (fun i => !decide (d < M.1 2 (6 * i + 5)))) 4
    (fun rec j s M1 hj ⟨V, hs, hM, hV⟩ => by
      subst hs; subst hM
      unfold B_X10_seenBy_4
      dsimp only
      rw [if_pos (by rw [lt4 (by omega)]; exact hj), mul6, add5, inb_n (by omega) (by omega), ix_n (by omega), if_pos rfl, nI_1]
      by_cases hb : d < M1.1 2 (6 * j + 5)
      · rw [if_pos hb]
        exact ⟨_, _, ⟨V, rfl, rfl, pre_f hV (by simp [hb])⟩, rfl⟩
      · rw [if_neg hb, lt_eq]
        exact ⟨_, _, ⟨_, rfl, rfl, pre_t hV (by omega) (by simp [hb])⟩, rfl⟩) N 0 (0, 0) M (by omega) (by omega) ⟨0, by rw [nI_0], rfl, pre_0⟩
  subst hs; subst hM
  unfold f_X10_seenBy
  rw [he]
  unfold B_X10_seenBy_4
  dsimp only
  rw [if_neg (show ¬ nI 4 < 4 by decide)]
  refine ⟨_, rfl, fun i => ?_⟩
  rw [b_and, hV i]
  unfold snB
  dsimp only
  generalize decide (i < 4) = x
  generalize bt (M'.1 1 0) i = y
  cases x <;> cases y <;> simp
theorem mseen_e (hN : 100000 ≤ N) {M : Mm} (H : ToldR M1.1 M.1) (p d w : Int32) (G : Int32 → Mm → Rs) : ∃ V, itr (B_X12_promise_55 N p d w G) N (0, 0) M = G V M ∧ pre 4 V (snB M1 d) := by
  obtain ⟨s', M', rec, ⟨V, hs, hM, hV⟩, he⟩ := itr_go (B := B_X12_promise_55 N p d w G) (fun j s M' => ∃ V, s = (V, nI j) ∧ M' = M ∧ pre j V (snB M1 d)) 4
    (fun rec j s Mx hj ⟨V, hs, hM, hV⟩ => by
      subst hs; subst hM
      unfold B_X12_promise_55
      dsimp only
      rw [if_pos (by rw [lt4 (by omega)]; exact hj), bd_of (mHa H.t _), isHa_n hj, lmul6, add5, inb_n (by omega) (by omega), ix_n (by omega), if_pos rfl, nI_1, H.nu _ (by omega)]
      simp only [lt_eq]
      have z : V ||| 0 = V := by
        apply b_ext
        intro i _
        rw [b_or, b_0, Bool.or_false]
      rw [z]
      cases ht : bt (M1.1 1 0) j
      · rw [if_pos b01_f]
        exact ⟨_, _, ⟨V, rfl, rfl, pre_f hV (by unfold snB; rw [ht]; rfl)⟩, rfl⟩
      · rw [if_neg (show ¬ b01 true = 0 by decide)]
        by_cases hb : d < M1.1 2 (6 * j + 5)
        · rw [if_pos hb]
          exact ⟨_, _, ⟨V, rfl, rfl, pre_f hV (by unfold snB; simp [hb])⟩, rfl⟩
        · rw [if_neg hb]
          exact ⟨_, _, ⟨_, rfl, rfl, pre_t hV (by omega) (by unfold snB; simp [hb, ht])⟩, rfl⟩) N 0 (0, 0) M (by omega) (by omega) ⟨0, by rw [nI_0], rfl, pre_0⟩
  subst hs; subst hM
  refine ⟨V, ?_, hV⟩
  rw [he]
  unfold B_X12_promise_55
  dsimp only
  rw [if_neg (show ¬ nI 4 < 4 by decide)]
theorem step_promise (hN : 100000 ≤ N) (H : Rel M1 M2) (a d b : Int32) : Ans (f_X11_promise N a d b M1) (f_X12_promise N a d b M2) := by
  unfold f_X11_promise f_X12_promise
  rw [bd_of (cPl hN a), bd_of (mPl hN H.1.t a)]
  cases hP : isPl (M1.1 1 0) a
  · rw [if_pos b01_f, if_pos b01_f]; exact ref1 H
  · rw [if_neg (show ¬ b01 true = 0 by decide), if_neg (show ¬ b01 true = 0 by decide), bd_of (cWo b), bd_of (mWo hN H.1.t b)]
    cases hW : isWo (M1.1 1 0) b
    · rw [if_pos b01_f, if_pos b01_f]; exact ref1 H
    · rw [if_neg (show ¬ b01 true = 0 by decide), if_neg (show ¬ b01 true = 0 by decide)]
      rw [show (0 : Int64) = (0 : Int32).toInt64 by rfl, show (9 : Int64) = (9 : Int32).toInt64 by rfl, bd_of (out_lit d 0 9)]
      by_cases h0 : d < 0
      · rw [if_pos h0, if_pos h0, if_neg (show ¬ (-4 : Int32) = 0 by decide)]; exact ref4 H
      · rw [if_neg h0, if_neg h0]
        by_cases h9 : 9 < d
        · rw [if_pos h9, if_pos h9, if_neg (show ¬ (-6 : Int32) = 0 by decide)]; exact ref6 H
        · rw [if_neg h9, if_neg h9, if_pos rfl]
          obtain ⟨p, hp, rfl, hp2⟩ := isPl_of hP
          obtain ⟨n, hn, hnl⟩ := H.nl
          obtain ⟨W, w1, w2⟩ := set_e hN hn hnl
          obtain ⟨V, v1, v2⟩ := seen_e hN H.1.1.2.1 d
          obtain ⟨U, u1, u2⟩ := alike_e (M := M1) hN W b V
          obtain ⟨x, Ma, a1, a2, a3, a4⟩ := worstO_e hN H.num hp H.2.2.2.1 u2
          obtain ⟨Mb, b1, b2, b3⟩ := H.finds hN
          obtain ⟨V', s1, s2⟩ := mseen_e hN b3.1 (nI p) d b (fun z16 M17 => (bd (f_X12_worstOf N (nI p) z16 b M17) fun r18 M19 => (some (r18, M19))))
          have eV : V' = V := b_ext (fun i _ => by rw [s2 i, v2 i])
          subst eV
          obtain ⟨y, Mc, c1, c2, c3, c4, c5, -⟩ := b3.fs.worst hN hp hp2 V' b
          rw [bd_of w1, bd_of v1, bd_of u1, bd_of a1, bd_of b1, s1, bd_of c1]
          refine Ans.q H rfl rfl ?_ a3.kc ((b2.tr c4).km c5.fnd.2.2)
          rw [a2, c2]
          exact va_congr (fun w hw => by rw [w2.at hw]) (fun _ _ _ => rfl)
end Step2
