/-! ===== Int32 by its bits: bt x i ===== -/
def bt (x : Int32) (i : Nat) : Bool := x.toBitVec.getLsbD i
theorem b_ext {x y : Int32} (h : ∀ i, i < 32 → bt x i = bt y i) : x = y := Int32.toBitVec_inj.mp (BitVec.eq_of_getLsbD_eq (fun i hi => h i hi))
theorem b_or (x y : Int32) (i : Nat) : bt (x ||| y) i = (bt x i || bt y i) := by unfold bt; rw [Int32.toBitVec_or, BitVec.getLsbD_or]
theorem b_and (x y : Int32) (i : Nat) : bt (x &&& y) i = (bt x i && bt y i) := by unfold bt; rw [Int32.toBitVec_and, BitVec.getLsbD_and]
theorem b_xor (x y : Int32) (i : Nat) : bt (x ^^^ y) i = (bt x i ^^ bt y i) := by unfold bt; rw [Int32.toBitVec_xor, BitVec.getLsbD_xor]
theorem b_big {x : Int32} {i : Nat} (h : 32 ≤ i) : bt x i = false := BitVec.getLsbD_of_ge _ _ h
theorem b_255 (i : Nat) : bt 255 i = decide (i < 8) := by
  rcases Nat.lt_or_ge i 32 with h | h
  · exact (by decide +kernel : ∀ i, i < 32 → bt 255 i = decide (i < 8)) i h
  · rw [b_big h, decide_eq_false (by omega)]
theorem b_65535 (i : Nat) : bt 65535 i = decide (i < 16) := by
  rcases Nat.lt_or_ge i 32 with h | h
  · exact (by decide +kernel : ∀ i, i < 32 → bt 65535 i = decide (i < 16)) i h
  · rw [b_big h, decide_eq_false (by omega)]
theorem b_m1 : ∀ i, i < 32 → bt (-1) i = true := by decide +kernel
theorem b_0 (i : Nat) : bt 0 i = false := BitVec.getLsbD_zero
theorem s_l : ∀ n, n < 32 → ((nI n &&& 31).toBitVec.smod 32).toNat = n := by decide +kernel
theorem s_u : ∀ n, n < 32 → (((nI n).toUInt32 &&& Int32.toUInt32 31).toBitVec % 32).toNat = n := by decide +kernel
theorem b_shl (n : Nat) (hn : n < 32) (x : Int32) {i : Nat} (hi : i < 32) : bt (x <<< (nI n &&& 31)) i = (decide (n ≤ i) && bt x (i - n)) := by
  unfold bt
  rw [Int32.toBitVec_shiftLeft]
  show (x.toBitVec <<< ((nI n &&& 31).toBitVec.smod 32).toNat).getLsbD i = _
  rw [s_l n hn, BitVec.getLsbD_shiftLeft]
  rcases Nat.lt_or_ge i n with h | h
  · simp [h, Nat.not_le.mpr h]
  · simp [hi, h, Nat.not_lt.mpr h]
theorem b_ushr (n : Nat) (hn : n < 32) (x : Int32) (i : Nat) : bt ((x.toUInt32 >>> ((nI n).toUInt32 &&& Int32.toUInt32 31)).toInt32) i = bt x (n + i) := by
  show (x.toUInt32 >>> ((nI n).toUInt32 &&& Int32.toUInt32 31)).toBitVec.getLsbD i = x.toUInt32.toBitVec.getLsbD (n + i)
  rw [UInt32.toBitVec_shiftRight]
  show (x.toUInt32.toBitVec >>> (((nI n).toUInt32 &&& Int32.toUInt32 31).toBitVec % 32).toNat).getLsbD i = _
  rw [s_u n hn, BitVec.getLsbD_ushiftRight]
theorem b_sshr (n : Nat) (hn : n < 32) (x : Int32) {i : Nat} (hi : i < 32) : bt (x >>> (nI n &&& 31)) i = if n + i < 32 then bt x (n + i) else bt x 31 := by
  unfold bt
  rw [Int32.toBitVec_shiftRight]
  show (x.toBitVec.sshiftRight ((nI n &&& 31).toBitVec.smod 32).toNat).getLsbD i = _
  rw [s_l n hn, BitVec.getLsbD_sshiftRight, BitVec.msb_eq_getLsbD_last]
  simp [hi]
theorem b_shl8 (x : Int32) {i : Nat} (hi : i < 32) : bt (x <<< ((8 : Int32) &&& 31)) i = (decide (8 ≤ i) && bt x (i - 8)) := b_shl 8 (by omega) x hi
theorem b_shl16 (x : Int32) {i : Nat} (hi : i < 32) : bt (x <<< ((16 : Int32) &&& 31)) i = (decide (16 ≤ i) && bt x (i - 16)) := b_shl 16 (by omega) x hi
theorem b_shl24 (x : Int32) {i : Nat} (hi : i < 32) : bt (x <<< ((24 : Int32) &&& 31)) i = (decide (24 ≤ i) && bt x (i - 24)) := b_shl 24 (by omega) x hi
theorem b_sshr8 (x : Int32) {i : Nat} (hi : i < 32) : bt (x >>> ((8 : Int32) &&& 31)) i = if 8 + i < 32 then bt x (8 + i) else bt x 31 := b_sshr 8 (by omega) x hi
/-! PURE ROWS: memories, numbers, loops -/
theorem lt_eq {α β : Type} (a : α) (k : α → β) : lt' a k = k a := rfl
theorem bd_s (r : Int32) (m : Mm) (G : Int32 → Mm → Rs) : bd (some (r, m)) G = G r m := rfl
theorem bd_n (G : Int32 → Mm → Rs) : bd none G = none := rfl
theorem bd_of {x : Rs} {r : Int32} {m : Mm} (h : x = some (r, m)) (G : Int32 → Mm → Rs) : bd x G = G r m := by rw [h]; rfl
theorem wI_g (M : Mm) (a i : Nat) (v : Int32) (b : Nat) : (wI M a i v).1 b = if b = a then upd (M.1 a) i v else M.1 b := rfl
theorem wI_s (M : Mm) (a i : Nat) (v : Int32) : (wI M a i v).2 = M.2 := rfl
theorem wR_g (M : Mm) (a : Nat) (f : Nat → Int32) (b : Nat) : (wR M a f).1 b = if b = a then f else M.1 b := rfl
theorem wR_s (M : Mm) (a : Nat) (f : Nat → Int32) : (wR M a f).2 = M.2 := rfl
theorem wL_g (M : Mm) (a i : Nat) (v : Int64) : (wL M a i v).1 = M.1 := rfl
theorem wL_s (M : Mm) (a i : Nat) (v : Int64) (b : Nat) : (wL M a i v).2 b = if b = a then vp_updL (M.2 a) i v else M.2 b := rfl
theorem upd_g (f : Nat → Int32) (k : Nat) (x : Int32) (j : Nat) : upd f k x j = if j = k then x else f j := rfl
theorem upd_at (f : Nat → Int32) (k : Nat) (x : Int32) : upd f k x k = x := if_pos rfl
theorem upd_ne {f : Nat → Int32} {k j : Nat} {x : Int32} (h : j ≠ k) : upd f k x j = f j := if_neg h
theorem upL_g (f : Nat → Int64) (k : Nat) (x : Int64) (j : Nat) : vp_updL f k x j = if j = k then x else f j := rfl
theorem ix_n {j : Nat} (h : j < 2 ^ 31) : ix (nI j) = j := nI_clamp h
theorem inb_n {j n : Nat} (h : j < n) (hn : n < 2 ^ 31) : inb (nI j) n = true := by
  unfold inb
  rw [nI_toInt (by omega)]
  simp [h]
theorem inb_ge {j n : Nat} (h : n ≤ j) (hj : j < 2 ^ 31) : inb (nI j) n = false := by
  unfold inb
  rw [nI_toInt hj]
  simp [h]
def b01 (b : Bool) : Int32 := if b then 1 else 0
theorem b01_t : b01 true = 1 := rfl
theorem b01_f : b01 false = 0 := rfl
theorem b01_0 {b : Bool} : b01 b = 0 ↔ b = false := by cases b <;> decide
theorem b01_1 {b : Bool} : b01 b = 1 ↔ b = true := by cases b <;> decide
theorem b_1 (i : Nat) : bt 1 i = decide (i = 0) := by
  rcases Nat.lt_or_ge i 32 with h | h
  · exact (by decide +kernel : ∀ i, i < 32 → bt 1 i = decide (i = 0)) i h
  · rw [b_big h, decide_eq_false (by omega)]
/-- one bit, as the code asks for it -/
theorem bit_e (x : Int32) {j : Nat} (hj : j < 32) : (x >>> (nI j &&& 31)) &&& 1 = b01 (bt x j) := by
  apply b_ext
  intro i hi
  rw [b_and, b_sshr j hj x hi, b_1]
  cases hb : bt x j
  · rw [b01_f, b_0]
    by_cases h0 : i = 0
    · subst h0; simp [hj, hb]
    · simp [h0]
  · rw [b01_t, b_1]
    by_cases h0 : i = 0
    · subst h0; simp [hj, hb]
    · simp [h0]
theorem sh1 {n : Nat} (hn : n < 32) {i : Nat} (hi : i < 32) : bt ((1 : Int32) <<< (nI n &&& 31)) i = decide (i = n) := by
  rw [b_shl n hn 1 hi, b_1]
  by_cases h : i = n
  · subst h; simp
  · by_cases h2 : n ≤ i
    · have : ¬ i - n = 0 := by omega
      simp [h, h2, this]
    · simp [h, h2]
/-- x < literal, for a number that is none below 0 -/
theorem i_cases (x : Int32) : x < 0 ∨ ∃ j : Nat, j < 2 ^ 31 ∧ x = nI j := by
  by_cases h : x < 0
  · exact Or.inl h
  · exact Or.inr (nI_of h)
theorem nlt {a b : Nat} (ha : a < 2 ^ 31) (hb : b < 2 ^ 31) : (nI a < nI b) = (a < b) := propext (nI_ltI ha hb)
theorem neq {a b : Nat} (ha : a < 2 ^ 31) (hb : b < 2 ^ 31) : (nI a = nI b) = (a = b) := propext (nI_eq ha hb)
theorem nn0 {a : Nat} (ha : a < 2 ^ 31) : (nI a < 0) = False := eq_false (nI_pos ha)
theorem toI_lt {a b : Int32} : (a < b) = (a.toInt < b.toInt) := propext Int32.lt_iff_toInt_lt
theorem toI_le {a b : Int32} : (a ≤ b) = (a.toInt ≤ b.toInt) := propext Int32.le_iff_toInt_le
theorem toI_eq {a b : Int32} : (a = b) = (a.toInt = b.toInt) := propext Int32.toInt_inj.symm
theorem itr_s {σ : Type} (B : (σ → Mm → Rs) → σ → Mm → Rs) (n : Nat) (s : σ) (M : Mm) : itr B (n + 1) s M = B (itr B n) s M := rfl
/-- a loop whose turns are told: turn j goes from (f j, Mf j) to the next, turn e leaves -/
theorem itr_for {σ : Type} {B : (σ → Mm → Rs) → σ → Mm → Rs} {f : Nat → σ} {Mf : Nat → Mm} {R : Rs} (e : Nat) (hs : ∀ rec j, j < e → B rec (f j) (Mf j) = rec (f (j + 1)) (Mf (j + 1))) (he : ∀ rec, B rec (f e) (Mf e) = R) : ∀ (n i : Nat), i ≤ e → e - i < n → itr B n (f i) (Mf i) = R := by
  intro n
  induction n with
  | zero => intro i _ h; omega
  | succ n ih =>
    intro i hi hn
    rw [itr_s]
    by_cases h : i = e
    · subst h; exact he _
    · rw [hs _ i (by omega)]
      exact ih (i + 1) (by omega) (by omega)
theorem itr_for0 {σ : Type} {B : (σ → Mm → Rs) → σ → Mm → Rs} (f : Nat → σ) (Mf : Nat → Mm) {R : Rs} {s : σ} {M : Mm} {n : Nat} (e : Nat) (h0 : f 0 = s) (h1 : Mf 0 = M) (hn : e < n) (hs : ∀ rec j, j < e → B rec (f j) (Mf j) = rec (f (j + 1)) (Mf (j + 1))) (he : ∀ rec, B rec (f e) (Mf e) = R) : itr B n s M = R := by
  rw [← h0, ← h1]
  exact itr_for e hs he n 0 (Nat.zero_le _) (by omega)
/-- a loop under an invariant: from a state with I at turn i, all goes to an end with I at turn e -/
theorem itr_inv {σ : Type} {B : (σ → Mm → Rs) → σ → Mm → Rs} {P : Rs → Prop} (I : Nat → σ → Mm → Prop) (e : Nat) (hs : ∀ rec j s M, j < e → I j s M → (∃ s' M', I (j + 1) s' M' ∧ B rec s M = rec s' M') ∨ P (B rec s M)) (he : ∀ rec s M, I e s M → P (B rec s M)) : ∀ (n i : Nat) (s : σ) (M : Mm), i ≤ e → e - i < n → I i s M → P (itr B n s M) := by
  intro n
  induction n with
  | zero => intro i s M _ h; omega
  | succ n ih =>
    intro i s M hi hn hI
    rw [itr_s]
    by_cases h : i = e
    · subst h; exact he _ s M hI
    · rcases hs (itr B n) i s M (by omega) hI with ⟨s', M', h1, h2⟩ | h1
      · rw [h2]; exact ih (i + 1) s' M' (by omega) (by omega) h1
      · exact h1
