/-! the reference reads a rule -/
def Ry (M0 : Mm) (i : Nat) (M : Mm) : Prop := Fr [0] M0 M ∧ (∀ k, k ≠ 16 → M.1 0 k = M0.1 0 k) ∧ M.1 0 16 = nI i
section Mrule
variable {N : Nat} {M0 M : Mm} {tx : Nat → Int32} {n i : Nat} {sn : Int32 → Bool} {d : Int32}
theorem Ry.go (h : Ry M0 i M) (j : Nat) : Ry M0 j (wI M 0 16 (nI j)) := by
  obtain ⟨h1, h2, h3⟩ := h
  exact ⟨h1.wI (by simp), fun k k1 => by rw [← h2 k k1]; simp [wI_g, upd_g, k1], by simp [wI_g, upd_g]⟩
theorem Ry.q (h : Ry M0 i M) : Rq M0 i M := ⟨h.1.mono (by simp), fun k k1 _ => h.2.1 k k1, h.2.2⟩
theorem munum (hn : n ≤ 40) (h14 : M0.1 0 14 = nI n) (h5 : M0.1 5 = tx) (G : Unit → Mm → Rs) : ∀ (f i : Nat) (acc : Int32) (cnt m : Nat) (M : Mm), cnt + f = 3 → f < m → i ≤ n → Ry M0 i M → ∃ Ma, itr (B_X12_unit_98 N G) m (nI cnt) M = G () Ma ∧ Ry M0 (numS tx n f i acc).1 Ma := by
  intro f
  induction f with
  | zero =>
    intro i acc cnt m M h1 h2 hi h
    obtain ⟨m, rfl⟩ : ∃ m', m = m' + 1 := ⟨m - 1, by omega⟩
    have : cnt = 3 := by omega
    subst this
    refine ⟨M, ?_, h⟩
    have eB : ∀ rec, B_X12_unit_98 N G rec (nI 3) M = G () M := fun rec => by
      unfold B_X12_unit_98
      rw [if_neg (show ¬ nI 3 < 3 by decide)]
    rw [itr_s, eB]
  | succ f ih =>
    intro i acc cnt m M h1 h2 hi h
    obtain ⟨m, rfl⟩ : ∃ m', m = m' + 1 := ⟨m - 1, by omega⟩
    have e := msign_e (N := N) h.q h14 h5 hn hi
    unfold numS
    by_cases hd : isDg (pk tx n i) = true
    · have eB : ∀ rec, B_X12_unit_98 N G rec (nI cnt) M = rec (nI (cnt + 1)) (wI M 0 16 (nI (i + 1))) := fun rec => by
        unfold B_X12_unit_98
        rw [if_pos (show nI cnt < 3 by rw [lt3 (by omega)]; omega), bd_of e, bd_of (isD_e _), hd, if_neg (show ¬ b01 true = 0 by decide), lt_eq, h.2.2, nI_1, nI_1]
      rw [itr_s, eB, if_pos hd]
      exact ih (i + 1) _ (cnt + 1) m _ (by omega) (by omega) (dg_le hd) (h.go (i + 1))
    · have hd' : isDg (pk tx n i) = false := by cases e : isDg (pk tx n i) <;> simp_all
      have eB : ∀ rec, B_X12_unit_98 N G rec (nI cnt) M = G () M := fun rec => by
        unfold B_X12_unit_98
        rw [if_pos (show nI cnt < 3 by rw [lt3 (by omega)]; omega), bd_of e, bd_of (isD_e _), hd', if_pos b01_f]
      rw [itr_s, eB, if_neg hd]
      exact ⟨M, rfl, h⟩
/-- which harbours may be asked of -/
def SnM (M0 : Mm) (d : Int32) (sn : Int32 → Bool) : Prop := ∃ t, (∀ h, h < 4 → M0.1 2 (43 + h) = b01 (bt t h)) ∧ ∀ x, sn x = (isHa t x && !decide (d < M0.1 2 (6 * ix x + 5)))
theorem munit_e (hN : 100000 ≤ N) (h : Ry M0 i M) (h14 : M0.1 0 14 = nI n) (h5 : M0.1 5 = tx) (hn : n ≤ 40) (hi : i ≤ n) (hm : SnM M0 d sn) (hsn : SnOk sn) (f dep : Nat) (a : Vl) (c40 : ¬ pk tx n i = 40) :
    match rwS tx n sn (f + 1) 0 dep i a with
    | .inl q => ∃ M', f_X12_unit N d M = some (0, M') ∧ Ry M0 q M'
    | .inr (j, _) => ∃ M', f_X12_unit N d M = some (1, M') ∧ Ry M0 j M' := by
  unfold rwS f_X12_unit
  rw [if_pos rfl, bd_of (msign_e h.q h14 h5 hn hi)]
  simp only [lt_eq]
  rw [h.2.2, nI_1]
  have h1 := h.go (i + 1)
  by_cases hd : isDg (pk tx n i) = true
  · have n120 : ¬ pk tx n i = 120 := fun q => by rw [q] at hd; exact absurd hd (by decide)
    have n115 : ¬ pk tx n i = 115 := fun q => by rw [q] at hd; exact absurd hd (by decide)
    rw [if_pos hd, if_neg n120, if_neg n115, bd_of (isD_e _), hd, if_neg (show ¬ b01 true = 0 by decide)]
    obtain ⟨Ma, a1, a2⟩ := munum (N := N) hn h14 h5 (fun _ M11 => some (1, M11)) 3 i 0 0 N M (by omega) (by omega) hi h
    exact ⟨Ma, a1, a2⟩
  · rw [if_neg hd]
    by_cases c120 : pk tx n i = 120
    · have hin := pkin c120 (by decide)
      rw [if_pos c120, if_pos c120, mdig_e h1.q h14 h5 hn hin]
      by_cases hd2 : isDg (pk tx n (i + 1)) = true
      · rw [if_pos hd2, if_pos hd2, bd_s, if_pos (by rfl)]
        exact ⟨_, rfl, h1.go (i + 2)⟩
      · rw [if_neg hd2, if_neg hd2, bd_s, if_pos (by rfl)]
        exact ⟨_, rfl, h1⟩
    · rw [if_neg c120, if_neg c120]
      by_cases c115 : pk tx n i = 115
      · have hin := pkin c115 (by decide)
        obtain ⟨t, t1, t2⟩ := hm
        have e2 : (wI M 0 16 (nI (i + 1))).1 2 = M0.1 2 := h1.1.1 2 (by decide)
        rw [if_pos c115, if_pos c115, bd_of (msign_e h1.q h14 h5 hn hin), bd_of (mHa (t := t) (by rw [e2]; exact t1) _), t2]
        cases hH : isHa t (pk tx n (i + 1) - 48)
        · rw [if_pos b01_f, Bool.false_and, if_neg (by decide)]
          exact ⟨_, rfl, h1⟩
        · obtain ⟨k, k1, k2, k3⟩ := isHa_of hH
          rw [if_neg (show ¬ b01 true = 0 by decide), k2, lmul6, add5, inb_n (by omega) (by omega), ix_n (by omega), ix_n (by omega), if_pos rfl, e2, h1.2.2, nI_1]
          by_cases hlt : d < M0.1 2 (6 * k + 5)
          · rw [if_pos hlt, if_neg (by simp [hlt])]
            exact ⟨_, rfl, h1⟩
          · rw [if_neg hlt, if_pos (by simp [hlt])]
            exact ⟨_, rfl, h1.go (i + 2)⟩
      · have hd' : isDg (pk tx n i) = false := by cases e : isDg (pk tx n i) <;> simp_all
        rw [if_neg c115, if_neg c115, if_neg c40, bd_of (isD_e _), hd', if_pos b01_f]
        exact ⟨_, rfl, h⟩
/-- what comes behind a unit and what it closes -/
def GR (N : Nat) (rec : Int32 → Mm → Rs) : Int32 → Mm → Rs := fun z10 M11 => bd (f_X12_sign N M11) fun r12 M13 =>
  if r12 = (-1) then
    (if z10 = 0 then (some (1, M13))
    else (bd (f_X12_sign N M13) fun r17 M18 => (if r17 = 43 then (rec z10 (wI M18 0 16 ((M18.1 0 16) + 1))) else (bd (f_X12_sign N M18) fun r20 M21 => (if r20 = 45 then (rec z10 (wI M21 0 16 ((M21.1 0 16) + 1))) else (bd (f_X12_sign N M21) fun r23 M24 => (if r23 = 42 then (rec z10 (wI M24 0 16 ((M24.1 0 16) + 1))) else (some (0, M24)))))))))
  else (bd (f_X12_sign N M13) fun r17 M18 => (if r17 = 43 then (rec z10 (wI M18 0 16 ((M18.1 0 16) + 1))) else (bd (f_X12_sign N M18) fun r20 M21 => (if r20 = 45 then (rec z10 (wI M21 0 16 ((M21.1 0 16) + 1))) else (bd (f_X12_sign N M21) fun r23 M24 => (if r23 = 42 then (rec z10 (wI M24 0 16 ((M24.1 0 16) + 1))) else (some (0, M24))))))))
abbrev TR (N : Nat) (d : Int32) (m dep : Nat) (M : Mm) : Rs := itr (B_X12_isRule_7 N d) m (nI dep) M
abbrev CR (N : Nat) (d : Int32) (m k dep : Nat) (M : Mm) : Rs := itr (B_X12_isRule_49 N d (GR N (itr (B_X12_isRule_7 N d) m))) k (nI dep) M
variable {dep : Nat}
theorem CR_x (h : Ry M0 i M) (h14 : M0.1 0 14 = nI n) (h5 : M0.1 5 = tx) (hn : n ≤ 40) (hi : i ≤ n) (hx : ¬ pk tx n i = 41 ∨ dep = 0) {m k : Nat} (hk : 0 < k) : CR N d m k dep M = GR N (itr (B_X12_isRule_7 N d) m) (nI dep) M := by
  obtain ⟨k, rfl⟩ : ∃ k', k = k' + 1 := ⟨k - 1, by omega⟩
  show itr _ (k + 1) (nI dep) M = _
  have eB : ∀ G rec, B_X12_isRule_49 N d G rec (nI dep) M = G (nI dep) M := fun G rec => by
    unfold B_X12_isRule_49
    rw [bd_of (msign_e h.q h14 h5 hn hi)]
    rcases hx with hx | hx
    · rw [if_neg hx]
    · subst hx
      rw [if_neg (show ¬ (0 : Int32) < nI 0 by decide)]
      split <;> rfl
  rw [itr_s, eB]
theorem CR_s (h : Ry M0 i M) (h14 : M0.1 0 14 = nI n) (h5 : M0.1 5 = tx) (hn : n ≤ 40) (hi : i ≤ n) (hd : dep < 4) (c41 : pk tx n i = 41) (G rec : Int32 → Mm → Rs) : B_X12_isRule_49 N d G rec (nI (dep + 1)) M = rec (nI dep) (wI M 0 16 (nI (i + 1))) := by
  unfold B_X12_isRule_49
  rw [bd_of (msign_e h.q h14 h5 hn hi), if_pos c41, if_pos (by rw [gt0 (by omega)]; omega)]
  simp only [lt_eq]
  rw [h.2.2, nI_1]
  have : nI (dep + 1) + -1 = nI dep := (Int32.sub_eq_add_neg _ _).symm.trans (dec1 dep)
  rw [this]
theorem GR_s (h : Ry M0 i M) (h14 : M0.1 0 14 = nI n) (h5 : M0.1 5 = tx) (hn : n ≤ 40) (hi : i ≤ n) {rec : Int32 → Mm → Rs} (hc : pk tx n i = 43 ∨ pk tx n i = 45 ∨ pk tx n i = 42) (s : Int32) : GR N rec s M = rec s (wI M 0 16 (nI (i + 1))) := by
  unfold GR
  have e := msign_e (N := N) h.q h14 h5 hn hi
  simp only [bd_of e, h.2.2, nI_1]
  rw [if_neg (by rcases hc with q | q | q <;> rw [q] <;> decide)]
  rcases hc with q | q | q
  · rw [if_pos q]
  · rw [if_neg (by rw [q]; decide), if_pos q]
  · rw [if_neg (by rw [q]; decide), if_neg (by rw [q]; decide), if_pos q]
theorem GR_n (h : Ry M0 i M) (h14 : M0.1 0 14 = nI n) (h5 : M0.1 5 = tx) (hn : n ≤ 40) (hi : i ≤ n) {rec : Int32 → Mm → Rs} (c1 : ¬ pk tx n i = 43) (c2 : ¬ pk tx n i = 45) (c3 : ¬ pk tx n i = 42) (hd : dep ≤ 4) (hx : ¬ pk tx n i = -1 ∨ 0 < dep) : GR N rec (nI dep) M = some (0, M) := by
  unfold GR
  have e := msign_e (N := N) h.q h14 h5 hn hi
  simp only [bd_of e, if_neg c1, if_neg c2, if_neg c3]
  rcases hx with hx | hx
  · rw [if_neg hx]
  · rw [if_neg (show ¬ nI dep = 0 by rw [eq0 (by omega)]; omega)]
    split <;> rfl
theorem isr_m (hN : 100000 ≤ N) (hn : n ≤ 40) (h14 : M0.1 0 14 = nI n) (h5 : M0.1 5 = tx) (hm : SnM M0 d sn) (hsn : SnOk sn) : ∀ f : Nat,
    (∀ md, md ≤ 2 → ∀ i dep M m a, i ≤ n → dep ≤ 4 → 3 * (n - i) + md + 1 ≤ f → Ry M0 i M → n - i < m → match rwS tx n sn f md dep i a with
      | .inl q => ∃ M', TR N d m dep M = some (0, M') ∧ Ry M0 q M'
      | .inr (j, _) => ∃ m' k M', n - j < m' ∧ n - j < k ∧ TR N d m dep M = CR N d m' k dep M' ∧ Ry M0 j M') ∧
    (∀ md, md = 3 ∨ md = 4 → ∀ i dep M m k a, i ≤ n → dep ≤ 4 → 3 * (n - i) + 1 ≤ f → Ry M0 i M → n - i < m → n - i < k → match rwS tx n sn f md dep i a with
      | .inl q => ∃ M', CR N d m k dep M = some (0, M') ∧ Ry M0 q M'
      | .inr (j, _) => ∃ m' k' M', n - j < m' ∧ n - j < k' ∧ CR N d m k dep M = CR N d m' k' dep M' ∧ Ry M0 j M') := by
  intro f
  induction f with
  | zero => exact ⟨fun md hmd i dep M m a h1 h2 h3 => by omega, fun md hmd i dep M m k a h1 h2 h3 => by omega⟩
  | succ f ih =>
    obtain ⟨ih0, ih3⟩ := ih
    refine ⟨?_, ?_⟩
    · intro md hmd i dep M m a hi hd hf h hm'
      have hcase : md = 0 ∨ md = 1 ∨ md = 2 := by omega
      -- what is read first, then its rest
      have seq : ∀ mf mr : Nat, mf ≤ 1 → (mr = 3 ∨ mr = 4) → 3 * (n - i) + mf + 1 ≤ f → match (match rwS tx n sn f mf dep i a with | .inl q => .inl q | .inr (j, v) => rwS tx n sn f mr dep j v : RR) with
          | .inl q => ∃ M', TR N d m dep M = some (0, M') ∧ Ry M0 q M'
          | .inr (j, _) => ∃ m' k M', n - j < m' ∧ n - j < k ∧ TR N d m dep M = CR N d m' k dep M' ∧ Ry M0 j M' := by
        intro mf mr h1 h2 h3
        have x := ih0 mf (by omega) i dep M m a hi hd h3 h hm'
        have hb := rw_b (tx := tx) (n := n) hsn f mf dep i a hi
        split at x
        · rename_i q he; (try rw [he]); exact x
        · rename_i j v he
          try rw [he]
          obtain ⟨m', k, M', x1, x2, x3, x4⟩ := x
          have hj := hb.2 j v he
          have y := ih3 mr h2 j dep M' m' k v hj.2.1 hd (by omega) x4 x1 x2
          try dsimp only
          split at y
          · rename_i q he2; (try rw [he2]); obtain ⟨M2, z1, z2⟩ := y; exact ⟨M2, x3.trans z1, z2⟩
          · rename_i j2 v2 he2
            try rw [he2]
            obtain ⟨m2, k2, M2, z1, z2, z3, z4⟩ := y
            exact ⟨m2, k2, M2, z1, z2, x3.trans z3, z4⟩
      rcases hcase with rfl | rfl | rfl
      · obtain ⟨m, rfl⟩ : ∃ m', m = m' + 1 := ⟨m - 1, by omega⟩
        have eT : TR N d (m + 1) dep M = B_X12_isRule_7 N d (itr (B_X12_isRule_7 N d) m) (nI dep) M := rfl
        rw [eT]
        have e := msign_e (N := N) h.q h14 h5 hn hi
        by_cases c40 : pk tx n i = 40
        · have hin := pkin c40 (by decide)
          unfold rwS
          rw [if_pos rfl, if_neg (by rw [c40]; decide), if_neg (by rw [c40]; decide), if_neg (by rw [c40]; decide), if_pos c40]
          by_cases h4 : dep < 4
          · have eB : ∀ rec, B_X12_isRule_7 N d rec (nI dep) M = rec (nI (dep + 1)) (wI M 0 16 (nI (i + 1))) := fun rec => by
              unfold B_X12_isRule_7
              rw [bd_of e, if_pos c40, if_neg (show ¬ nI dep = 4 by rw [eq4 (by omega)]; omega), lt_eq, h.2.2, nI_1, nI_1]
            rw [if_pos h4, eB]
            have x := ih0 2 (by omega) (i + 1) (dep + 1) _ m a hin (by omega) (by omega) (h.go (i + 1)) (by omega)
            have hb := rw_b (tx := tx) (n := n) hsn f 2 (dep + 1) (i + 1) a hin
            split at x
            · rename_i q he; (try rw [he]); exact x
            · rename_i j v he
              rw [he]
              obtain ⟨m', k, M', x1, x2, x3, x4⟩ := x
              have hj := hb.2 j v he
              dsimp only
              by_cases c41 : pk tx n j = 41
              · rw [if_pos c41]
                have hjn := pkin c41 (by decide)
                obtain ⟨k, rfl⟩ : ∃ k', k = k' + 1 := ⟨k - 1, by omega⟩
                refine ⟨m', k, _, by omega, by omega, ?_, x4.go (j + 1)⟩
                refine Eq.trans x3 ?_
                show itr _ (k + 1) (nI (dep + 1)) M' = _
                rw [itr_s, CR_s x4 h14 h5 hn hj.2.1 h4 c41]
              · rw [if_neg c41]
                refine ⟨M', Eq.trans x3 ?_, x4⟩
                have g1 := hj.2.2.2.2.1 (Or.inl rfl)
                rw [CR_x x4 h14 h5 hn hj.2.1 (Or.inl c41) (by omega), GR_n x4 h14 h5 hn hj.2.1 g1.1 g1.2 (hj.2.2.2.1 (by omega) (by omega)) (by omega) (Or.inr (by omega))]
          · have eB : ∀ rec, B_X12_isRule_7 N d rec (nI dep) M = some (0, M) := fun rec => by
              unfold B_X12_isRule_7
              rw [bd_of e, if_pos c40, if_pos (show nI dep = 4 by rw [eq4 (by omega)]; omega)]
            rw [if_neg h4, eB]
            exact ⟨M, rfl, h⟩
        · have eB : ∀ rec, B_X12_isRule_7 N d rec (nI dep) M = bd (f_X12_unit N d M) fun r4 M5 => if r4 = 0 then some (0, M5) else itr (B_X12_isRule_49 N d (GR N rec)) N (nI dep) M5 := fun rec => by
            unfold B_X12_isRule_7
            rw [bd_of e, if_neg c40]
            rfl
          rw [eB]
          have hp := munit_e (N := N) hN h h14 h5 hn hi hm hsn f dep a c40
          have hb := rw_b (tx := tx) (n := n) hsn (f + 1) 0 dep i a hi
          split at hp
          · rename_i q he
            obtain ⟨M', p1, p2⟩ := hp
            rw [bd_of p1, if_pos rfl]
            exact ⟨M', rfl, p2⟩
          · rename_i j v he
            obtain ⟨M', p1, p2⟩ := hp
            have hj := hb.2 j v he
            have hj1 := hj.2.2.1 (by omega)
            rw [bd_of p1, if_neg (show ¬ (1 : Int32) = 0 by decide)]
            exact ⟨m, N, M', by omega, by omega, rfl, p2⟩
      · unfold rwS
        rw [if_neg (by decide), if_pos rfl]
        exact seq 0 3 (by omega) (Or.inl rfl) (by omega)
      · unfold rwS
        rw [if_neg (by decide), if_neg (by decide), if_pos rfl]
        exact seq 1 4 (by omega) (Or.inr rfl) (by omega)
    · intro md hmd i dep M m k a hi hd hf h hm' hk
      -- a sign, what is read behind it, the rest
      have go : ∀ (mf mr : Nat) (op : Vl → Vl), mf ≤ 1 → (mr = 3 ∨ mr = 4) → (pk tx n i = 43 ∨ pk tx n i = 45 ∨ pk tx n i = 42) → match (match rwS tx n sn f mf dep (i + 1) a with | .inl q => .inl q | .inr (j, v) => rwS tx n sn f mr dep j (op v) : RR) with
          | .inl q => ∃ M', CR N d m k dep M = some (0, M') ∧ Ry M0 q M'
          | .inr (j, _) => ∃ m' k' M', n - j < m' ∧ n - j < k' ∧ CR N d m k dep M = CR N d m' k' dep M' ∧ Ry M0 j M' := by
        intro mf mr op h1 h2 hc
        have hin : i + 1 ≤ n := by rcases hc with h | h | h <;> exact pkin h (by decide)
        have x0 : CR N d m k dep M = TR N d m dep (wI M 0 16 (nI (i + 1))) := by
          rw [CR_x h h14 h5 hn hi (Or.inl (by rcases hc with q | q | q <;> rw [q] <;> decide)) (by omega), GR_s h h14 h5 hn hi hc]
        rw [x0]
        have x := ih0 mf (by omega) (i + 1) dep _ m a hin hd (by omega) (h.go (i + 1)) (by omega)
        have hb := rw_b (tx := tx) (n := n) hsn f mf dep (i + 1) a hin
        split at x
        · rename_i q he; (try rw [he]); exact x
        · rename_i j v he
          try rw [he]
          obtain ⟨m', k, M', x1, x2, x3, x4⟩ := x
          have hj := hb.2 j v he
          have y := ih3 mr h2 j dep M' m' k (op v) hj.2.1 hd (by omega) x4 x1 x2
          try dsimp only
          split at y
          · rename_i q he2; (try rw [he2]); obtain ⟨M2, z1, z2⟩ := y; exact ⟨M2, x3.trans z1, z2⟩
          · rename_i j2 v2 he2
            try rw [he2]
            obtain ⟨m2, k2, M2, z1, z2, z3, z4⟩ := y
            exact ⟨m2, k2, M2, z1, z2, x3.trans z3, z4⟩
      have stay : ∃ m' k' M', n - i < m' ∧ n - i < k' ∧ CR N d m k dep M = CR N d m' k' dep M' ∧ Ry M0 i M' := ⟨m, k, M, hm', hk, rfl, h⟩
      rcases hmd with rfl | rfl
      · unfold rwS
        rw [if_neg (by decide), if_neg (by decide), if_neg (by decide), if_pos rfl]
        by_cases c42 : pk tx n i = 42
        · rw [if_pos c42]
          exact go 0 3 (fun v p w => a p w * v p w) (by omega) (Or.inl rfl) (Or.inr (Or.inr c42))
        · rw [if_neg c42]; exact stay
      · unfold rwS
        rw [if_neg (by decide), if_neg (by decide), if_neg (by decide), if_neg (by decide)]
        by_cases c43 : pk tx n i = 43
        · rw [if_pos c43]
          exact go 1 4 (fun v p w => a p w + v p w) (by omega) (Or.inr rfl) (Or.inl c43)
        · rw [if_neg c43]
          by_cases c45 : pk tx n i = 45
          · rw [if_pos c45]
            exact go 1 4 (fun v p w => a p w - v p w) (by omega) (Or.inr rfl) (Or.inr (Or.inl c45))
          · rw [if_neg c45]; exact stay
theorem isr_e (hN : 100000 ≤ N) (hn : n ≤ 40) (h14 : M0.1 0 14 = nI n) (h5 : M0.1 5 = tx) (hm : SnM M0 d sn) (hsn : SnOk sn) (htx : ∀ i, i < n → 0 ≤ (tx i).toInt) : match rwS tx n sn 200 2 0 0 (fun _ _ => 0) with
    | .inl q => ∃ M', f_X12_isRule N d M0 = some (0, M') ∧ Ry M0 q M'
    | .inr (j, _) => ∃ M', f_X12_isRule N d M0 = some (if j = n then 1 else 0, M') ∧ Ry M0 j M' := by
  have h0 : Ry M0 0 (wI M0 0 16 0) := ⟨(Fr.rf _ _).wI (by simp), fun k k1 => by simp [wI_g, upd_g, k1], by simp [wI_g, upd_g]; rfl⟩
  have x := (isr_m hN hn h14 h5 hm hsn 200).1 2 (by omega) 0 0 _ N (fun _ _ => 0) (by omega) (by omega) (by omega) h0 (by omega)
  have hb := rw_b (tx := tx) (n := n) hsn 200 2 0 0 (fun _ _ => 0) (by omega)
  have ef : f_X12_isRule N d M0 = TR N d N 0 (wI M0 0 16 0) := rfl
  rw [ef]
  split at x
  · exact x
  · rename_i j v he
    obtain ⟨m', k, M', x1, x2, x3, x4⟩ := x
    have hj := hb.2 j v he
    rw [x3, CR_x x4 h14 h5 hn hj.2.1 (Or.inr rfl) (by omega)]
    by_cases hjn : j = n
    · rw [if_pos hjn]
      refine ⟨M', ?_, x4⟩
      unfold GR
      have ep : pk tx n j = -1 := by unfold pk; rw [if_neg (by omega)]
      rw [bd_of (msign_e x4.q h14 h5 hn hj.2.1), if_pos ep, if_pos (show nI 0 = 0 from rfl)]
    · rw [if_neg hjn]
      have g1 := hj.2.2.2.2.1 (Or.inl rfl)
      refine ⟨M', GR_n x4 h14 h5 hn hj.2.1 g1.1 g1.2 (hj.2.2.2.1 (by omega) (by omega)) (by omega) (Or.inl ?_), x4⟩
      unfold pk
      rw [if_pos (by omega)]
      intro q
      have := htx j (by omega)
      rw [q] at this
      exact absurd this (by decide)
end Mrule
