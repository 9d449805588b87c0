section Two
variable {N : Nat} {v : Int} {M0 M : Mm} {a b : Nat}
/-- two prices stand, the others are 0 -/
def P2 (a b : Nat) (x : Int) (M : Mm) : Prop := v17 M a = x ∧ ∀ h, h < 4 → h ≠ a → h ≠ b → v17 M h = 0
theorem p2_val {x y : Int} (hab : a ≠ b) (h : P2 a b x M) (hy : v17 M b = y) : ∀ h, h < 4 → v17 M h = p2Z a b x y h := by
  intro k hk
  unfold p2Z
  by_cases e : k = a
  · subst e; rw [if_pos rfl]; exact h.1
  · rw [if_neg e]
    by_cases e2 : k = b
    · subst e2; rw [if_pos rfl]; exact hy
    · rw [if_neg e2]; exact h.2 k hk e e2
theorem p2_set {x : Int} {i : Nat} {w : Int32} (hab : a ≠ b) (h : P2 a b x M) (hi : i = b) : P2 a b x (wI M 17 i w) ∧ v17 (wI M 17 i w) b = w.toInt := by
  subst hi
  refine ⟨⟨?_, fun k hk h1 h2 => ?_⟩, ?_⟩
  · rw [← h.1]; unfold v17; simp [wI_g, upd_g, hab]
  · rw [← h.2 k hk h1 h2]; unfold v17; simp [wI_g, upd_g, h2]
  · unfold v17; simp [wI_g, upd_g]
theorem two1 (hN : 100000 ≤ N) (hc : Cap v M0) (h : TI v M0 M) (ha : a < 4) (hb : b < 4) (hab : a ≠ b) {x : Int} (hp : P2 a b x M) (x1 x3 : Int32) (G : Unit → Mm → Rs) :
    ∃ M', itr (B_X12_triesTwo_23 N x1 (nI b) x3 G) N 0 M = G () M' ∧ TI v M0 M' ∧ P2 a b x M' ∧ (M.1 0 26).toInt ≤ (M'.1 0 26).toInt ∧ ∀ m, m < 9 → wZ (M0.1 2) (v15 M0) (v16 M0) (p2Z a b x (prZ (M0.1 2) (v16 M0) b m)) ≤ (M'.1 0 26).toInt := by
  obtain ⟨s', M', rec, ⟨hs, hT, hP, hm, hv⟩, he⟩ := itr_go (B := B_X12_triesTwo_23 N x1 (nI b) x3 G) (fun i s M' => s = nI i ∧ TI v M0 M' ∧ P2 a b x M' ∧ (M.1 0 26).toInt ≤ (M'.1 0 26).toInt ∧ ∀ m, m < i → wZ (M0.1 2) (v15 M0) (v16 M0) (p2Z a b x (prZ (M0.1 2) (v16 M0) b m)) ≤ (M'.1 0 26).toInt) 9
    (fun rec i s M1 hi ⟨hs, hT, hP, hm, hv⟩ => by
      subst hs
      obtain ⟨y, y1, y2, y3, y4⟩ := price_e (N := N) hc hT hb hi
      have hT2 := hT.set (i := b) (x := y) ⟨y3, by omega⟩
      obtain ⟨q1, q2⟩ := p2_set (i := b) (w := y) hab hP rfl
      obtain ⟨M2, t1, t2, t3, t4, t5⟩ := hT2.try hN hc
      have e17 : v17 M2 = v17 (wI M1 17 b y) := by unfold v17; rw [t3]
      have hb1 : ((wI M1 17 b y).1 0 26).toInt = (M1.1 0 26).toInt := by rw [wI_g, if_neg (by omega)]
      refine ⟨nI (i + 1), M2, ⟨rfl, t2, by unfold P2; rw [e17]; exact q1, by omega, fun m hmi => ?_⟩, ?_⟩
      · by_cases e : m = i
        · subst e
          rw [← y2, ← wZ_congr (fun i hi => (hc.1.2.1 i hi).1) (fun k hk _ => p2_val hab q1 q2 k hk)]
          exact t4
        · have := hv m (by omega); omega
      · unfold B_X12_triesTwo_23
        rw [if_pos (by rw [lt9 (by omega)]; exact hi), bd_of y1]
        simp (disch := omega) only [inb_n, ix_n, if_true, lt_eq]
        rw [bd_of t1, nI_1]) N 0 0 M (by omega) (by omega) ⟨nI_0.symm, h, hp, Int.le_refl _, fun m hm => absurd hm (by omega)⟩
  subst hs
  refine ⟨M', ?_, hT, hP, hm, hv⟩
  rw [he]
  simp (disch := omega) only [B_X12_triesTwo_23, lt9, Nat.lt_irrefl, if_false]
theorem two2 (hN : 100000 ≤ N) (hc : Cap v M0) (h : TI v M0 M) (ha : a < 4) (hb : b < 4) (hab : a ≠ b) {x : Int} (hx : 0 ≤ x ∧ x ≤ 999) (hp : P2 a b x M) (x3 : Int32) (G : Unit → Mm → Rs) :
    ∃ M', itr (B_X12_triesTwo_56 N (nI a) (nI b) x3 G) N 0 M = G () M' ∧ TI v M0 M' ∧ P2 a b x M' ∧ (M.1 0 26).toInt ≤ (M'.1 0 26).toInt ∧ ∀ j, j < 4 → 0 < v16 M0 j → wZ (M0.1 2) (v15 M0) (v16 M0) (p2Z a b x (cut0 (x + zz (M0.1 2) (24 + 4 * a + j) - zz (M0.1 2) (24 + 4 * b + j)))) ≤ (M'.1 0 26).toInt := by
  obtain ⟨s', M', rec, ⟨hs, hT, hP, hm, hv⟩, he⟩ := itr_go (B := B_X12_triesTwo_56 N (nI a) (nI b) x3 G) (fun i s M' => s = nI i ∧ TI v M0 M' ∧ P2 a b x M' ∧ (M.1 0 26).toInt ≤ (M'.1 0 26).toInt ∧ ∀ j, j < i → 0 < v16 M0 j → wZ (M0.1 2) (v15 M0) (v16 M0) (p2Z a b x (cut0 (x + zz (M0.1 2) (24 + 4 * a + j) - zz (M0.1 2) (24 + 4 * b + j)))) ≤ (M'.1 0 26).toInt) 4
    (fun rec i s M1 hi ⟨hs, hT, hP, hm, hv⟩ => by
      subst hs
      have e2 := hT.e2
      have za := hc.1.1.2 (24 + 4 * a + i) (by omega) (by omega)
      have za0 := (hc.1.1.1 (24 + 4 * a + i) (by omega)).1
      have zb := hc.1.1.1 (24 + 4 * b + i) (by omega)
      have e17 : (M1.1 17 a).toInt = x := hP.1
      have f1 : (M1.1 17 a + M0.1 2 (24 + 4 * a + i)).toInt = x + zz (M0.1 2) (24 + 4 * a + i) := by rw [i_add (by unfold zz at za za0; omega) (by unfold zz at za za0; omega), e17]; rfl
      have f2 : (M1.1 17 a + M0.1 2 (24 + 4 * a + i) - M0.1 2 (24 + 4 * b + i)).toInt = x + zz (M0.1 2) (24 + 4 * a + i) - zz (M0.1 2) (24 + 4 * b + i) := by rw [i_sub (by rw [f1]; unfold zz at *; omega) (by rw [f1]; unfold zz at *; omega), f1]; rfl
      have h16 : (M1.1 16 i).toInt = v16 M0 i := by rw [← hT.e16]; rfl
      have fin : ∀ y : Int32, y.toInt = cut0 (x + zz (M0.1 2) (24 + 4 * a + i) - zz (M0.1 2) (24 + 4 * b + i)) → ∃ s' M', (s' = nI (i + 1) ∧ TI v M0 M' ∧ P2 a b x M' ∧ (M.1 0 26).toInt ≤ (M'.1 0 26).toInt ∧ ∀ j, j < i + 1 → 0 < v16 M0 j → wZ (M0.1 2) (v15 M0) (v16 M0) (p2Z a b x (cut0 (x + zz (M0.1 2) (24 + 4 * a + j) - zz (M0.1 2) (24 + 4 * b + j)))) ≤ (M'.1 0 26).toInt) ∧ (if 0 < (wI M1 17 b y).1 16 i then bd (f_X12_tries N (wI M1 17 b y)) (fun _ M17 => rec (nI i + 1) M17) else rec (nI i + 1) (wI M1 17 b y)) = rec s' M' := by
        intro y hy
        have hyb : 0 ≤ y.toInt ∧ y.toInt ≤ 1200 := by rw [hy]; unfold cut0; split <;> omega
        have hT2 := hT.set (i := b) (x := y) hyb
        obtain ⟨q1, q2⟩ := p2_set (i := b) (w := y) hab hP rfl
        have hb1 : ((wI M1 17 b y).1 0 26).toInt = (M1.1 0 26).toInt := by rw [wI_g, if_neg (by omega)]
        have hg : (wI M1 17 b y).1 16 i = M1.1 16 i := by rw [wI_g, if_neg (by omega)]
        rw [hg]
        by_cases hl : 0 < v16 M0 i
        · rw [if_pos (by rw [zI, h16]; exact hl)]
          obtain ⟨M2, t1, t2, t3, t4, t5⟩ := hT2.try hN hc
          have e17' : v17 M2 = v17 (wI M1 17 b y) := by unfold v17; rw [t3]
          refine ⟨nI (i + 1), M2, ⟨rfl, t2, by unfold P2; rw [e17']; exact q1, by omega, fun j hji hlj => ?_⟩, by rw [bd_of t1, nI_1]⟩
          by_cases e : j = i
          · subst e
            rw [← hy, ← wZ_congr (fun i hi => (hc.1.2.1 i hi).1) (fun k hk _ => p2_val hab q1 q2 k hk)]
            exact t4
          · have := hv j (by omega) hlj; omega
        · rw [if_neg (by rw [zI, h16]; exact hl)]
          refine ⟨nI (i + 1), _, ⟨rfl, hT2, q1, by omega, fun j hji hlj => ?_⟩, by rw [nI_1]⟩
          by_cases e : j = i
          · subst e; exact absurd hlj hl
          · rw [hb1]; exact hv j (by omega) hlj
      unfold cut0 at fin
      unfold B_X12_triesTwo_56
      simp (disch := omega) only [lt4, hi, if_true, lmul4, ladd24, nI_add, inb_n, ix_n, lt_eq, e2]
      by_cases hpz : 0 < M1.1 17 a + M0.1 2 (24 + 4 * a + i) - M0.1 2 (24 + 4 * b + i)
      · rw [if_pos hpz]
        rw [zI, f2] at hpz
        have k := fin (M1.1 17 a + M0.1 2 (24 + 4 * a + i) - M0.1 2 (24 + 4 * b + i)) (by rw [if_pos hpz]; exact f2)
        exact k
      · rw [if_neg hpz]
        rw [zI, f2] at hpz
        have k := fin 0 (by rw [if_neg hpz]; rfl)
        exact k) N 0 0 M (by omega) (by omega) ⟨nI_0.symm, h, hp, Int.le_refl _, fun m hm => absurd hm (by omega)⟩
  subst hs
  refine ⟨M', ?_, hT, hP, hm, hv⟩
  rw [he]
  simp (disch := omega) only [B_X12_triesTwo_56, lt4, Nat.lt_irrefl, if_false]
/-- all pairs that were tried -/
def T2 (M0 : Mm) (a b n : Nat) (best : Int) : Prop := (∀ k m, k < n → m < 9 → wZ (M0.1 2) (v15 M0) (v16 M0) (p2Z a b (prZ (M0.1 2) (v16 M0) a k) (prZ (M0.1 2) (v16 M0) b m)) ≤ best) ∧ ∀ k j, k < n → j < 4 → 0 < v16 M0 j → wZ (M0.1 2) (v15 M0) (v16 M0) (p2Z a b (prZ (M0.1 2) (v16 M0) a k) (cut0 (prZ (M0.1 2) (v16 M0) a k + zz (M0.1 2) (24 + 4 * a + j) - zz (M0.1 2) (24 + 4 * b + j)))) ≤ best
theorem two_e (hN : 100000 ≤ N) (hc : Cap v M0) (h : TI v M0 M) (ha : a < 4) (hb : b < 4) (hab : a ≠ b) (h0 : ∀ h, h < 4 → h ≠ a → h ≠ b → v17 M h = 0) :
    ∃ M', f_X12_triesTwo N (nI a) (nI b) M = some (0, M') ∧ TI v M0 M' ∧ (∀ h, h < 4 → h ≠ a → h ≠ b → v17 M' h = 0) ∧ (M.1 0 26).toInt ≤ (M'.1 0 26).toInt ∧ T2 M0 a b 9 (M'.1 0 26).toInt := by
  obtain ⟨s', M', rec, ⟨hs, hT, hP, hm, hv⟩, he⟩ := itr_go (B := B_X12_triesTwo_2 N (nI a) (nI b) fun _ M21 => some (0, M21)) (fun i s M' => s = nI i ∧ TI v M0 M' ∧ (∀ h, h < 4 → h ≠ a → h ≠ b → v17 M' h = 0) ∧ (M.1 0 26).toInt ≤ (M'.1 0 26).toInt ∧ T2 M0 a b i (M'.1 0 26).toInt) 9
    (fun rec i s M1 hi ⟨hs, hT, hP, hm, hv1, hv2⟩ => by
      subst hs
      obtain ⟨y, y1, y2, y3, y4⟩ := price_e (N := N) hc hT ha hi
      have hT2 := hT.set (i := a) (x := y) ⟨y3, by omega⟩
      have hp : P2 a b (prZ (M0.1 2) (v16 M0) a i) (wI M1 17 a y) := by
        refine ⟨?_, fun k hk h1 h2 => ?_⟩
        · rw [← y2]; unfold v17; simp [wI_g, upd_g]
        · rw [← hP k hk h1 h2]; unfold v17; simp [wI_g, upd_g, h1]
      have hb1 : ((wI M1 17 a y).1 0 26).toInt = (M1.1 0 26).toInt := by rw [wI_g, if_neg (by omega)]
      -- the alike ones are tried behind the pairs
      obtain ⟨M2, t1, t2, t3, t4, t5⟩ := two1 hN hc hT2 ha hb hab hp (nI a) (nI i) (fun z9 M10 => (itr (B_X12_triesTwo_56 N (nI a) (nI b) (nI i) fun z18 M19 => (rec (nI i + 1) M19)) N 0 M10))
      obtain ⟨M3, u1, u2, u3, u4, u5⟩ := two2 hN hc t2 ha hb hab (x := prZ (M0.1 2) (v16 M0) a i) (by rw [← y2]; exact ⟨y3, y4⟩) t3 (nI i) (fun z18 M19 => (rec (nI i + 1) M19))
      refine ⟨nI (i + 1), M3, ⟨rfl, u2, u3.2, by omega, fun k m hk hm' => ?_, fun k j hk hj hl => ?_⟩, ?_⟩
      · by_cases e : k = i
        · subst e; have := t5 m hm'; omega
        · have := hv1 k m (by omega) hm'; omega
      · by_cases e : k = i
        · subst e; exact u5 j hj hl
        · have := hv2 k j (by omega) hj hl; omega
      · unfold B_X12_triesTwo_2
        rw [if_pos (by rw [lt9 (by omega)]; exact hi), bd_of y1]
        simp (disch := omega) only [inb_n, ix_n, if_true, lt_eq]
        rw [t1, u1, nI_1]) N 0 0 M (by omega) (by omega) ⟨nI_0.symm, h, h0, Int.le_refl _, fun k m hk => absurd hk (by omega), fun k j hk => absurd hk (by omega)⟩
  subst hs
  refine ⟨M', ?_, hT, hP, hm, hv⟩
  unfold f_X12_triesTwo
  rw [he]
  simp (disch := omega) only [B_X12_triesTwo_2, lt9, Nat.lt_irrefl, if_false]
end Two
