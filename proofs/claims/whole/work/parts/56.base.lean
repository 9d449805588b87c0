/-! COST hangs on the numbers alone -/
theorem Fin.nu {nu nu' : Nat → Int32} {sp lk : Nat → Int} {v : Int} (hz : ∀ k, k < 42 → nu k = nu' k) (h : Fin nu sp lk v) : Fin nu' sp lk v := by
  have hz' : ∀ k, k < 42 → zz nu k = zz nu' k := fun k hk => by unfold zz; rw [hz k hk]
  obtain ⟨F, d, c, s, l, S, X, H, Zl, ⟨r1, r2, r3⟩, h3⟩ := h
  rw [hz' 41 (by omega)] at h3
  refine ⟨F, d, c, s, l, S, X, H, Zl, ⟨fun i j hi hj a b => ?_, fun j hj a => ?_, r3⟩, h3⟩
  · rw [← hz' _ (by omega)]; exact r1 i j hi hj a b
  · rw [← hz' _ (by omega), ← hz' _ (by omega)]; exact r2 j hj a
theorem balZ_nu {nu nu' : Nat → Int32} (hz : ∀ k, k < 42 → nu k = nu' k) (p w : Nat) {h : Nat} (hh : h < 4) : balZ nu p w h = balZ nu' p w h := by
  unfold balZ zz
  rw [hz 40 (by omega), hz (6 * h) (by omega), hz (6 * h + 1) (by omega)]
theorem fareZ_nu {nu nu' : Nat → Int32} (hz : ∀ k, k < 42 → nu k = nu' k) (p : Nat) : fareZ nu p = fareZ nu' p := by
  have key : ∀ n, n ≤ 4 → sm n (fun h => fer p h * zz nu (6 * h + 2)) = sm n (fun h => fer p h * zz nu' (6 * h + 2)) := by
    intro n
    induction n with
    | zero => intro _; unfold sm; rfl
    | succ n ih =>
      intro h
      rw [sm_s, sm_s, ih (by omega)]
      unfold zz
      rw [hz (6 * n + 2) (by omega)]
  unfold fareZ
  exact key 4 (by omega)
theorem lat_fin {nu : Nat → Int32} (hn : NumB nu) {p w : Nat} (hp : p < 256) (hw : w < 16) : Fin nu (spZ nu p w) (lkZ nu p w) (latZ nu p w) ∧ 0 ≤ latZ nu p w ∧ latZ nu p w ≤ 300000000 := by
  obtain ⟨-, r, -, -, -, -, -, -, c1, c2, c3, c4⟩ := lat_of (N := 100000) (by omega) (M := (fun _ => nu, fun _ _ => 0)) hn hp hw
  rw [← c1]
  exact ⟨c4, c2, c3⟩
theorem latZ_nu {nu nu' : Nat → Int32} (hn : NumB nu) (hn' : NumB nu') (hz : ∀ k, k < 42 → nu k = nu' k) {p w : Nat} (hp : p < 256) (hw : w < 16) : latZ nu' p w = latZ nu p w := by
  refine latZ_eq hn' ?_
  refine Fin.lat hn' (fun i _ => sl_nn i) ?_
  refine ((lat_fin hn hp hw).1.nu hz).congr (fun i hi => ?_) (fun i hi => ?_)
  · unfold spZ; rw [balZ_nu hz p w hi]
  · unfold lkZ; rw [balZ_nu hz p w hi]
theorem cstZ_nu {nu nu' : Nat → Int32} (hn : NumB nu) (hn' : NumB nu') (hz : ∀ k, k < 42 → nu k = nu' k) {p w : Nat} (hp : p < 256) (hw : w < 16) : cstZ nu' p w = cstZ nu p w := by
  unfold cstZ
  rw [latZ_nu hn hn' hz hp hw, fareZ_nu hz]
theorem cstZ_b {nu : Nat → Int32} (hn : NumB nu) {p w : Nat} (hp : p < 256) (hw : w < 16) : 0 ≤ cstZ nu p w ∧ cstZ nu p w ≤ 300100000 ∧ fareZ nu p ≤ cstZ nu p w ∧ 0 ≤ fareZ nu p ∧ fareZ nu p ≤ 12000 := by
  have a := lat_fin hn hp hw
  have b := fare_b hn p 4 (by omega)
  unfold cstZ
  unfold fareZ
  omega
/-! small words: all, bits, ranges -/
def al (f : Nat → Bool) : Nat → Bool
  | 0 => true
  | n + 1 => al f n && f n
theorem al_s (f : Nat → Bool) (n : Nat) : al f (n + 1) = (al f n && f n) := rfl
theorem al_t {f : Nat → Bool} {n : Nat} : al f n = true ↔ ∀ i, i < n → f i = true := by
  induction n with
  | zero => exact ⟨fun _ i hi => absurd hi (by omega), fun _ => rfl⟩
  | succ n ih =>
    rw [al_s, Bool.and_eq_true, ih]
    constructor
    · intro h i hi
      by_cases e : i = n
      · subst e; exact h.2
      · exact h.1 i (by omega)
    · intro h
      exact ⟨fun i hi => h i (by omega), h n (by omega)⟩
theorem al_f {f : Nat → Bool} {n : Nat} (i : Nat) (hi : i < n) (h : f i = false) : al f n = false := by
  cases e : al f n
  · rfl
  · rw [al_t.mp e i hi] at h; cases h
theorem al_congr {f g : Nat → Bool} : ∀ n, (∀ i, i < n → f i = g i) → al f n = al g n := by
  intro n
  induction n with
  | zero => intro _; rfl
  | succ n ih => intro h; rw [al_s, al_s, ih (fun i hi => h i (by omega)), h n (by omega)]
theorem zn_0 : zn 0 = 0 := rfl
theorem zn_1 : zn 1 = 1 := rfl
theorem zn_b (b : Bool) : zn (b01 b) = b01 b := by cases b <;> rfl
theorem bz_b (b : Bool) : bz (b01 b) = true := by cases b <;> rfl
theorem lgc_lt (a b : Int32) : (lg_cmp a.toInt64 b.toInt64 < 0) = (a < b) := by
  unfold lg_cmp
  have h1 : (a.toInt64 > b.toInt64) = (b < a) := by
    show (b.toInt64 < a.toInt64) = _
    exact propext (by rw [Int64.lt_iff_toInt_lt, Int32.toInt_toInt64, Int32.toInt_toInt64, Int32.lt_iff_toInt_lt])
  have h2 : (a.toInt64 = b.toInt64) = (a = b) := propext ⟨fun h => by
    have := congrArg Int64.toInt h
    rw [Int32.toInt_toInt64, Int32.toInt_toInt64] at this
    exact Int32.toInt_inj.mp this, fun h => by rw [h]⟩
  simp only [h1, h2]
  by_cases c1 : b < a
  · rw [if_pos c1]
    rw [toI_lt] at c1 ⊢
    exact propext ⟨fun h => absurd h (by decide), fun h => by rw [toI_lt] at h; omega⟩
  · rw [if_neg c1]
    by_cases c2 : a = b
    · rw [if_pos c2]
      exact propext ⟨fun h => absurd h (by decide), fun h => absurd h (by rw [c2, toI_lt]; omega)⟩
    · rw [if_neg c2]
      refine propext ⟨fun _ => ?_, fun _ => by decide⟩
      rw [toI_lt] at c1 ⊢
      rw [toI_eq] at c2
      omega
theorem lgc_gt (a b : Int32) : (0 < lg_cmp a.toInt64 b.toInt64) = (b < a) := by
  unfold lg_cmp
  have h1 : (a.toInt64 > b.toInt64) = (b < a) := by
    show (b.toInt64 < a.toInt64) = _
    exact propext (by rw [Int64.lt_iff_toInt_lt, Int32.toInt_toInt64, Int32.toInt_toInt64, Int32.lt_iff_toInt_lt])
  simp only [h1]
  by_cases c1 : b < a
  · rw [if_pos c1]
    exact propext ⟨fun _ => c1, fun _ => by decide⟩
  · rw [if_neg c1]
    refine propext ⟨fun h => ?_, fun h => absurd h c1⟩
    split at h
    · exact absurd h (by decide)
    · exact absurd h (by decide)
theorem isIn_e (N : Nat) (a b c : Int32) (M : Mm) : f_X12_isIn N a.toInt64 b.toInt64 c.toInt64 M = some (if a < b then 0 else if c < a then 0 else 1, M) := by
  unfold f_X12_isIn
  simp only [lgc_lt, lgc_gt]
  split
  · rfl
  · split <;> rfl
theorem outOf_e (N : Nat) (a b c : Int32) (M : Mm) : f_X12_outOf N a.toInt64 b.toInt64 c.toInt64 M = some (if a < b then -4 else if c < a then -6 else 0, M) := by
  unfold f_X12_outOf
  simp only [lgc_lt, lgc_gt]
  split
  · rfl
  · split <;> rfl
/-! plans and worlds over the harbours that are there -/
def plS (t : Int32) (p : Nat) : Bool := al (fun h => decide (p / 4 ^ h % 4 = 0) || bt t h) 4
def woS (t : Int32) (w : Nat) : Bool := al (fun h => decide (w / 2 ^ h % 2 = 0) || bt t h) 4
def isPl (t x : Int32) : Bool := !decide (x < 0) && decide (x < 256) && plS t (ix x)
def isWo (t x : Int32) : Bool := !decide (x < 0) && decide (x < 16) && woS t (ix x)
def isHa (t x : Int32) : Bool := !decide (x < 0) && decide (x < 4) && bt t (ix x)
theorem isPl_of {t x : Int32} (h : isPl t x = true) : ∃ p, p < 256 ∧ x = nI p ∧ plS t p = true := by
  unfold isPl at h
  rcases i_cases x with hx | ⟨p, hp, rfl⟩
  · simp [hx] at h
  · simp only [Bool.and_eq_true, decide_eq_true_eq, lt256 hp, ix_n hp] at h
    exact ⟨p, h.1.2, rfl, h.2⟩
theorem isWo_of {t x : Int32} (h : isWo t x = true) : ∃ w, w < 16 ∧ x = nI w ∧ woS t w = true := by
  unfold isWo at h
  rcases i_cases x with hx | ⟨p, hp, rfl⟩
  · simp [hx] at h
  · simp only [Bool.and_eq_true, decide_eq_true_eq, lt16 hp, ix_n hp] at h
    exact ⟨p, h.1.2, rfl, h.2⟩
theorem isHa_of {t x : Int32} (h : isHa t x = true) : ∃ k, k < 4 ∧ x = nI k ∧ bt t k = true := by
  unfold isHa at h
  rcases i_cases x with hx | ⟨p, hp, rfl⟩
  · simp [hx] at h
  · simp only [Bool.and_eq_true, decide_eq_true_eq, lt4 hp, ix_n hp] at h
    exact ⟨p, h.1.2, rfl, h.2⟩
theorem isPl_n {t : Int32} {p : Nat} (hp : p < 256) : isPl t (nI p) = plS t p := by
  unfold isPl
  simp (disch := omega) only [nn0, lt256, ix_n, hp, decide_true, decide_false, Bool.not_false, Bool.true_and]
theorem isWo_n {t : Int32} {p : Nat} (hp : p < 16) : isWo t (nI p) = woS t p := by
  unfold isWo
  simp (disch := omega) only [nn0, lt16, ix_n, hp, decide_true, decide_false, Bool.not_false, Bool.true_and]
theorem isHa_n {t : Int32} {p : Nat} (hp : p < 4) : isHa t (nI p) = bt t p := by
  unfold isHa
  simp (disch := omega) only [nn0, lt4, ix_n, hp, decide_true, decide_false, Bool.not_false, Bool.true_and]
