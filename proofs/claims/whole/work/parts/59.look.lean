theorem al_first {g : Nat → Bool} {e : Nat} (h : al g e = false) : ∃ k, k < e ∧ g k = false ∧ ∀ i, i < k → g i = true := by
  induction e with
  | zero => cases h
  | succ e ih =>
    rw [al_s] at h
    cases ha : al g e
    · obtain ⟨k, a, b, c⟩ := ih ha
      exact ⟨k, by omega, b, c⟩
    · rw [ha, Bool.true_and] at h
      exact ⟨e, by omega, h, fun i hi => al_t.mp ha i hi⟩
/-- a loop that goes on while something holds -/
theorem itr_al {B : (Int32 → Mm → Rs) → Int32 → Mm → Rs} {M : Mm} {g : Nat → Bool} {R0 R1 : Rs} {n : Nat} (e : Nat) (hs : ∀ rec j, j < e → B rec (nI j) M = if g j then rec (nI (j + 1)) M else R0) (he : ∀ rec, B rec (nI e) M = R1) (hn : e < n) : itr B n 0 M = if al g e then R1 else R0 := by
  cases ha : al g e
  · obtain ⟨k, k1, k2, k3⟩ := al_first ha
    rw [if_neg (by decide)]
    exact itr_for0 nI (fun _ => M) k nI_0 rfl (by omega) (fun rec j hj => by rw [hs rec j (by omega), if_pos (k3 j hj)]) (fun rec => by rw [hs rec k k1, if_neg (by rw [k2]; decide)])
  · rw [if_pos rfl]
    exact itr_for0 nI (fun _ => M) e nI_0 rfl hn (fun rec j hj => by rw [hs rec j (by omega), if_pos (al_t.mp ha j hj)]) he
section Look
variable {N : Nat} {M : Mm}
theorem cHa (x : Int32) : f_X10_isHarbour N x M = some (b01 (isHa (M.1 1 0) x), M) := by
  unfold f_X10_isHarbour
  rcases i_cases x with hx | ⟨p, hp, rfl⟩
  · rw [if_pos hx]
    unfold isHa
    simp [hx, b01_f]
  · rw [if_neg (nI_pos hp)]
    by_cases h4 : p < 4
    · rw [if_pos (by rw [lt4 hp]; exact h4), bit_e _ (by omega), isHa_n h4]
      cases bt (M.1 1 0) p <;> rfl
    · rw [if_neg (by rw [lt4 hp]; exact h4)]
      unfold isHa
      simp only [lt4 hp, h4, decide_false, Bool.and_false, Bool.false_and, b01_f]
theorem cPl (hN : 100000 ≤ N) (x : Int32) : f_X10_isPlan N x M = some (b01 (isPl (M.1 1 0) x), M) := by
  unfold f_X10_isPlan
  rcases i_cases x with hx | ⟨p, hp, rfl⟩
  · rw [if_pos hx]
    unfold isPl
    simp [hx, b01_f]
  · rw [if_neg (nI_pos hp)]
    by_cases h4 : p < 256
    · rw [if_pos (by rw [lt256 hp]; exact h4), isPl_n h4]
      rw [itr_al (g := fun h => decide (p / 4 ^ h % 4 = 0) || bt (M.1 1 0) h) (R0 := some (0, M)) (R1 := some (1, M)) 4 (fun rec j hj => ?_) (fun rec => ?_) (by omega)]
      · unfold plS
        split
        · rename_i h; rw [h]; rfl
        · rename_i h
          simp only [Bool.not_eq_true] at h
          rw [h]; rfl
      · unfold B_X10_isPlan_15
        rw [if_pos (by rw [lt4 (by omega)]; exact hj), fer_e p h4 j hj, bit_e _ (by omega), nI_1]
        have hm := Nat.mod_lt (p / 4 ^ j) (by omega : 4 > 0)
        by_cases h0 : p / 4 ^ j % 4 = 0
        · rw [if_neg (by rw [gt0 (by omega)]; omega), if_pos (by simp [h0])]
        · rw [if_pos (by rw [gt0 (by omega)]; omega)]
          simp only [h0, decide_false, Bool.false_or]
          cases bt (M.1 1 0) j <;> rfl
      · unfold B_X10_isPlan_15
        rw [if_neg (by decide)]
    · rw [if_neg (by rw [lt256 hp]; exact h4)]
      unfold isPl
      simp only [lt256 hp, h4, decide_false, Bool.and_false, Bool.false_and, b01_f]
theorem wo_bits {t : Int32} {w : Nat} (hw : w < 16) : (nI w &&& (t ^^^ (-1)) = 0) = (woS t w = true) := by
  refine propext ⟨fun h => ?_, fun h => ?_⟩
  · unfold woS
    rw [al_t]
    intro i hi
    have := congrArg (fun x => bt x i) h
    simp only [b_and, b_xor, b_m1 i (by omega), b_0, wbit w hw i (by omega), hi, decide_true, Bool.true_and] at this
    have hm := Nat.mod_lt (w / 2 ^ i) (by omega : 2 > 0)
    by_cases e : w / 2 ^ i % 2 = 0
    · simp [e]
    · have e1 : w / 2 ^ i % 2 = 1 := by omega
      simp [e1] at this
      simp [this]
  · apply b_ext
    intro i hi
    rw [b_and, b_xor, b_m1 i hi, b_0, wbit w hw i hi]
    by_cases h4 : i < 4
    · have := al_t.mp h i h4
      simp only [Bool.or_eq_true, decide_eq_true_eq] at this
      rcases this with e | e
      · simp [e]
      · simp [e]
    · simp [h4]
theorem cWo (x : Int32) : f_X10_isWorld N x M = some (b01 (isWo (M.1 1 0) x), M) := by
  unfold f_X10_isWorld
  rcases i_cases x with hx | ⟨p, hp, rfl⟩
  · rw [if_pos hx]
    unfold isWo
    simp [hx, b01_f]
  · rw [if_neg (nI_pos hp)]
    by_cases h4 : p < 16
    · rw [if_pos (by rw [lt16 hp]; exact h4), isWo_n h4]
      cases hb : woS (M.1 1 0) p
      · rw [if_neg (by rw [wo_bits h4, hb]; decide)]; rfl
      · rw [if_pos (by rw [wo_bits h4, hb])]; rfl
    · rw [if_neg (by rw [lt16 hp]; exact h4)]
      unfold isWo
      simp only [lt16 hp, h4, decide_false, Bool.and_false, Bool.false_and, b01_f]
/-- these bits are this set -/
def isM (W : Int32) (A : Nat → Bool) : Prop := ∀ i, bt W i = (decide (i < 16) && A i)
theorem isM.hi {W : Int32} {A : Nat → Bool} (h : isM W A) : ∀ i, 16 ≤ i → bt W i = false := fun i hi => by rw [h i]; simp; omega
theorem isM.at {W : Int32} {A : Nat → Bool} (h : isM W A) {i : Nat} (hi : i < 16) : bt W i = A i := by rw [h i]; simp [hi]
theorem isM.zero {W : Int32} {A : Nat → Bool} (h : isM W A) : (W = 0) = (∀ w, w < 16 → A w = false) := by
  refine propext ⟨fun e w hw => ?_, fun e => ?_⟩
  · rw [← h.at hw, e, b_0]
  · apply b_ext
    intro i hi
    rw [h i, b_0]
    by_cases hw : i < 16
    · simp [hw, e i hw]
    · simp [hw]
theorem or_bit {W : Int32} {j : Nat} (hj : j < 32) (i : Nat) : bt (W ||| ((1 : Int32) <<< (nI j &&& 31))) i = (bt W i || decide (i = j)) := by
  rw [b_or]
  rcases Nat.lt_or_ge i 32 with h | h
  · rw [sh1 hj h]
  · rw [b_big h, b_big h, decide_eq_false (by omega)]
    first | done | rfl
/-- a row of bits, one more -/
def pre (n : Nat) (W : Int32) (A : Nat → Bool) : Prop := ∀ i, bt W i = (decide (i < n) && A i)
theorem pre_0 {A : Nat → Bool} : pre 0 0 A := fun i => by rw [b_0]; simp
theorem pre_t {n : Nat} {W : Int32} {A : Nat → Bool} (h : pre n W A) (hn : n < 32) (ha : A n = true) : pre (n + 1) (W ||| ((1 : Int32) <<< (nI n &&& 31))) A := fun i => by
  rw [or_bit hn, h i]
  by_cases e : i = n
  · subst e; simp [ha]
  · have : decide (i < n + 1) = decide (i < n) := by simp; omega
    rw [this]; simp [e]
theorem pre_f {n : Nat} {W : Int32} {A : Nat → Bool} (h : pre n W A) (ha : A n = false) : pre (n + 1) W A := fun i => by
  rw [h i]
  by_cases e : i = n
  · subst e; simp [ha]
  · have : decide (i < n + 1) = decide (i < n) := by simp; omega
    rw [this]
/-- the worlds of a budget -/
theorem with_e (hN : 100000 ≤ N) {n : Nat} (hn : n ≤ 12) (h2 : M.1 1 2 = nI n) (b : Int32) : ∃ W, f_X10_worldsWith N b M = some (W, M) ∧ isM W (setS M b) := by
  obtain ⟨s', M', rec, ⟨W, hs, hM, hW⟩, he⟩ := itr_go (B := B_X10_worldsWith_4 N b fun z6 M7 => (itr (B_X10_worldsWith_40 N fun z9 M10 => (some (z9, M10))) N (z6, 0) M7)) (fun j s M' => ∃ W, s = (W, nI j) ∧ M' = M ∧ pre j W (fun w => woS (M.1 1 0) w && !decide (b < nI (popc w)))) 16
    (fun rec j s M1 hj ⟨W, hs, hM, hW⟩ => by
      subst hs; subst hM
      unfold B_X10_worldsWith_4
      rw [if_pos (by show nI j < 16; rw [lt16 (by omega)]; exact hj), bd_of (cWo _)]
      dsimp only
      rw [isWo_n hj]
      cases hw : woS (M1.1 1 0) j
      · rw [if_pos b01_f, nI_1]
        exact ⟨_, _, ⟨W, rfl, rfl, pre_f hW (by simp [hw])⟩, rfl⟩
      · rw [if_neg (show ¬ b01 true = 0 by decide), bd_of (bc_w hj), nI_1]
        by_cases hb : b < nI (popc j)
        · rw [if_pos hb]
          exact ⟨_, _, ⟨W, rfl, rfl, pre_f hW (by simp [hb])⟩, rfl⟩
        · rw [if_neg hb, lt_eq]
          exact ⟨_, _, ⟨_, rfl, rfl, pre_t hW (by omega) (by simp [hw, hb])⟩, rfl⟩) N 0 (0, 0) M (by omega) (by omega) ⟨0, by rw [nI_0], rfl, pre_0⟩
  subst hs; subst hM
  unfold f_X10_worldsWith
  rw [he]
  unfold B_X10_worldsWith_4
  dsimp only
  rw [if_neg (show ¬ nI 16 < 16 by decide)]
  obtain ⟨s', M', rec, ⟨V, hs, hM, hV⟩, he⟩ := itr_go (B := B_X10_worldsWith_40 N fun z9 M10 => (some (z9, M10))) (fun j s M1 => ∃ V, s = (V, nI j) ∧ M1 = M' ∧ pre 16 V (fun w => (woS (M'.1 1 0) w && !decide (b < nI (popc w))) && al (fun l => !bt (M'.1 1 3) l || bt (M'.1 3 l) w) j)) n
    (fun rec j s M1 hj ⟨V, hs, hM, hV⟩ => by
      subst hs; subst hM
      unfold B_X10_worldsWith_40
      dsimp only
      rw [h2, if_pos (by rw [nlt (by omega) (by omega)]; exact hj), bit_e _ (by omega), nI_1]
      cases hb : bt (M1.1 1 3) j
      · rw [if_neg (show ¬ b01 false = 1 by decide)]
        refine ⟨_, _, ⟨V, rfl, rfl, fun i => ?_⟩, rfl⟩
        rw [hV i]
        dsimp only
        rw [al_s, hb]
        simp
      · rw [if_pos b01_t, inb_n (by omega) (by omega), ix_n (by omega), if_pos rfl, lt_eq]
        refine ⟨_, _, ⟨_, rfl, rfl, fun i => ?_⟩, rfl⟩
        rw [b_and, hV i]
        dsimp only
        rw [al_s, hb]
        simp [Bool.and_assoc]) N 0 (W, 0) M' (by omega) (by omega) ⟨W, by rw [nI_0], rfl, fun i => by rw [hW i]; simp [al]⟩
  subst hs; subst hM
  rw [he]
  unfold B_X10_worldsWith_40
  dsimp only
  rw [h2, if_neg (by rw [nlt (by omega) (by omega)]; omega)]
  refine ⟨V, rfl, fun i => ?_⟩
  rw [hV i]
  dsimp only
  unfold setS letS
  rw [h2, ix_n (by omega)]
  cases woS (M'.1 1 0) i <;> cases decide (b < nI (popc i)) <;> simp
theorem set_e (hN : 100000 ≤ N) {n : Nat} (hn : n ≤ 12) (h2 : M.1 1 2 = nI n) : ∃ W, f_X11_theSet N M = some (W, M) ∧ isM W (setS M (M.1 2 42)) := by
  obtain ⟨W, h1, h2⟩ := with_e hN hn h2 (M.1 2 42)
  refine ⟨W, ?_, h2⟩
  unfold f_X11_theSet
  rw [show ix (42 : Int32) = 42 by rfl, bd_of h1]
/-- those that are as a world is at the shown harbours -/
def alS (x y : Int32) (w : Nat) : Bool := decide ((nI w ^^^ x) &&& y = 0)
theorem alike_e (hN : 100000 ≤ N) (W x y : Int32) : ∃ V, f_X11_alike N W x y M = some (V, M) ∧ isM V (fun w => bt W w && alS x y w) := by
  obtain ⟨s', M', rec, ⟨V, hs, hM, hV⟩, he⟩ := itr_go (B := B_X11_alike_5 N W x y fun z2 M3 => (some (W &&& z2, M3))) (fun j s M' => ∃ V, s = (V, nI j) ∧ M' = M ∧ pre j V (alS x y)) 16
    (fun rec j s M1 hj ⟨V, hs, hM, hV⟩ => by
      subst hs; subst hM
      unfold B_X11_alike_5
      dsimp only
      rw [if_pos (by rw [lt16 (by omega)]; exact hj), nI_1]
      by_cases hb : (nI j ^^^ x) &&& y = 0
      · rw [if_pos hb, lt_eq]
        exact ⟨_, _, ⟨_, rfl, rfl, pre_t hV (by omega) (by unfold alS; simp [hb])⟩, rfl⟩
      · rw [if_neg hb]
        exact ⟨_, _, ⟨V, rfl, rfl, pre_f hV (by unfold alS; simp [hb])⟩, rfl⟩) N 0 (0, 0) M (by omega) (by omega) ⟨0, by rw [nI_0], rfl, pre_0⟩
  subst hs; subst hM
  unfold f_X11_alike
  rw [he]
  unfold B_X11_alike_5
  dsimp only
  rw [if_neg (show ¬ nI 16 < 16 by decide)]
  refine ⟨W &&& V, rfl, fun i => ?_⟩
  rw [b_and, hV i]
  dsimp only
  generalize decide (i < 16) = a
  generalize alS x y i = c
  generalize bt W i = d
  cases a <;> cases c <;> cases d <;> rfl
end Look
