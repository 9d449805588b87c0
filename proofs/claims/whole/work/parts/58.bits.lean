/-! sets of worlds as bits -/
def bcI (a0 : Int32) : Int32 :=
  lt' (a0 - ((ushr a0 1) &&& 1431655765)) fun x1 =>
  (lt' ((x1 &&& 858993459) + ((ushr x1 2) &&& 858993459)) fun x2 =>
  (lt' ((x2 + (ushr x2 4)) &&& 252645135) fun x3 =>
  (lt' (x3 + (ushr x3 8)) fun x4 =>
  (lt' (x4 + (ushr x4 16)) fun x5 => x5 &&& 63))))
theorem bc_f (N : Nat) (x : Int32) (M : Mm) : f_J6_bitCount_0f7a4 N x M = some (bcI x, M) := rfl
theorem b_nI (a i : Nat) : bt (nI a) i = (decide (i < 32) && a.testBit i) := by
  show (BitVec.ofNat 32 a).getLsbD i = _
  rw [BitVec.getLsbD_ofNat]
theorem nI_and (a b : Nat) : nI a &&& nI b = nI (a &&& b) := by
  apply b_ext
  intro i hi
  rw [b_and, b_nI, b_nI, b_nI, Nat.testBit_and]
  simp [hi]
theorem nI_ushr {a k : Nat} (ha : a < 2 ^ 32) (hk : k < 32) : ushr (nI a) (nI k) = nI (a >>> k) := by
  apply b_ext
  intro i hi
  unfold ushr
  rw [b_ushr k hk, b_nI, b_nI, Nat.testBit_shiftRight]
  by_cases h : k + i < 32
  · simp [hi, h]
  · have : a.testBit (k + i) = false := Nat.testBit_lt_two_pow (Nat.lt_of_lt_of_le ha (Nat.pow_le_pow_right (by omega) (by omega)))
    simp [h, this]
theorem lan {a b c d : Nat} (hb : b < 256) (hd : d < 256) : (256 * a + b) &&& (256 * c + d) = 256 * (a &&& c) + (b &&& d) := by
  have hbd : b &&& d < 256 := Nat.lt_of_le_of_lt Nat.and_le_left hb
  apply Nat.eq_of_testBit_eq
  intro i
  have e := fun (x y : Nat) (h : y < 256) => Nat.testBit_two_pow_mul_add x (i := 8) (b := y) h i
  rw [Nat.testBit_and, show (256 : Nat) = 2 ^ 8 by rfl, e a b hb, e c d hd, e (a &&& c) (b &&& d) hbd]
  split
  · rw [Nat.testBit_and]
  · rw [Nat.testBit_and]
def y1 (b : Nat) : Nat := b - ((b / 2) &&& 85)
def y2 (b : Nat) : Nat := (b &&& 51) + ((b / 4) &&& 51)
def y3 (b : Nat) : Nat := (b + b / 16) &&& 15
def c8 (b : Nat) : Nat := b % 2 + b / 2 % 2 + b / 4 % 2 + b / 8 % 2 + b / 16 % 2 + b / 32 % 2 + b / 64 % 2 + b / 128 % 2
theorem tb1 : ∀ r, r < 2 → ∀ b, b < 256 → (128 * r + b / 2) &&& 85 = (b / 2) &&& 85 := by decide +kernel
theorem tb2 : ∀ r, r < 4 → ∀ b, b < 256 → (64 * r + b / 4) &&& 51 = (b / 4) &&& 51 := by decide +kernel
theorem tb3 : ∀ r, r < 5 → ∀ b, b < 69 → (b + b / 16 + 16 * r) &&& 15 = y3 b := by decide +kernel
theorem tb4 : ∀ b, b < 256 → (b / 2) &&& 85 ≤ b ∧ (b / 2) &&& 5592405 = (b / 2) &&& 85 ∧ y1 b < 256 ∧ y1 b &&& 3355443 = y1 b &&& 51 ∧ (y1 b / 4) &&& 3355443 = (y1 b / 4) &&& 51 ∧ y2 (y1 b) < 69 ∧ y2 (y1 b) % 16 < 5 ∧ (y2 (y1 b) + y2 (y1 b) / 16) &&& 986895 = c8 b ∧ y3 (y2 (y1 b)) = c8 b ∧ c8 b < 9 := by decide +kernel
theorem tb5 : ∀ a, a < 9 → ∀ b, b < 9 → (256 * a + b + a) &&& 63 = a + b := by decide +kernel
theorem nI_subl {a b : Nat} (h : b ≤ a) : nI a - nI b = nI (a - b) := by
  have e : nI a = nI (a - b) + nI b := by rw [nI_add]; congr 1; omega
  rw [e, Int32.add_sub_cancel]
theorem bc_n {a b : Nat} (ha : a < 256) (hb : b < 256) : bcI (nI (256 * a + b)) = nI (c8 a + c8 b) := by
  obtain ⟨p1, p2, p3, p4, p5, p6, p7, p8, p9, p10⟩ := tb4 a ha
  obtain ⟨q1, q2, q3, q4, q5, q6, q7, q8, q9, q10⟩ := tb4 b hb
  have x1 : (256 * a + b) - ((256 * a + b) >>> 1 &&& 1431655765) = 256 * y1 a + y1 b := by
    have e1 : (256 * a + b) >>> 1 = 256 * (a / 2) + (128 * (a % 2) + b / 2) := by rw [Nat.shiftRight_eq_div_pow]; omega
    rw [e1, show (1431655765 : Nat) = 256 * 5592405 + 85 by rfl, lan (by omega) (by omega), tb1 _ (by omega) b hb, p2]
    unfold y1
    omega
  have x2 : ((256 * y1 a + y1 b) &&& 858993459) + ((256 * y1 a + y1 b) >>> 2 &&& 858993459) = 256 * y2 (y1 a) + y2 (y1 b) := by
    have e1 : (256 * y1 a + y1 b) >>> 2 = 256 * (y1 a / 4) + (64 * (y1 a % 4) + y1 b / 4) := by rw [Nat.shiftRight_eq_div_pow]; omega
    rw [e1, show (858993459 : Nat) = 256 * 3355443 + 51 by rfl, lan q3 (by omega), lan (by omega) (by omega), tb2 _ (by omega) _ q3, p4, p5]
    unfold y2
    omega
  have x3 : ((256 * y2 (y1 a) + y2 (y1 b)) + (256 * y2 (y1 a) + y2 (y1 b)) >>> 4) &&& 252645135 = 256 * c8 a + c8 b := by
    have e1 : (256 * y2 (y1 a) + y2 (y1 b)) + (256 * y2 (y1 a) + y2 (y1 b)) >>> 4 = 256 * (y2 (y1 a) + y2 (y1 a) / 16) + (y2 (y1 b) + y2 (y1 b) / 16 + 16 * (y2 (y1 a) % 16)) := by rw [Nat.shiftRight_eq_div_pow]; omega
    rw [e1, show (252645135 : Nat) = 256 * 986895 + 15 by rfl, lan (by omega) (by omega), tb3 _ p7 _ q6, q9, p8]
  unfold bcI
  simp only [lt_eq]
  rw [show (1 : Int32) = nI 1 by rfl, show (1431655765 : Int32) = nI 1431655765 by rfl, show (858993459 : Int32) = nI 858993459 by rfl, show (252645135 : Int32) = nI 252645135 by rfl, show (63 : Int32) = nI 63 by rfl, show (2 : Int32) = nI 2 by rfl, show (4 : Int32) = nI 4 by rfl, show (8 : Int32) = nI 8 by rfl, show (16 : Int32) = nI 16 by rfl]
  have k1 : (256 * a + b) >>> 1 &&& 1431655765 ≤ 256 * a + b := Nat.le_trans Nat.and_le_left (by rw [Nat.shiftRight_eq_div_pow]; omega)
  rw [nI_ushr (by omega) (by omega), nI_and, nI_subl k1, x1, nI_ushr (by omega) (by omega), nI_and, nI_and, nI_add, x2, nI_ushr (by omega) (by omega), nI_add, nI_and, x3, nI_ushr (by omega) (by omega), nI_add]
  have k2 : 256 * c8 a + c8 b + (256 * c8 a + c8 b) >>> 8 = 256 * c8 a + c8 b + c8 a := by rw [Nat.shiftRight_eq_div_pow]; omega
  rw [k2, nI_ushr (by omega) (by omega), nI_add]
  have k3 : (256 * c8 a + c8 b + c8 a) >>> 16 = 0 := by rw [Nat.shiftRight_eq_div_pow]; omega
  rw [k3, nI_and, Nat.add_zero, tb5 _ p10 _ q10]
theorem rk_16 {a b : Nat} (hb : b < 256) : rk (bt (nI (256 * a + b))) 16 = c8 a + c8 b := by
  have e : ∀ i, i < 16 → bt (nI (256 * a + b)) i = decide ((if i < 8 then b / 2 ^ i else a / 2 ^ (i - 8)) % 2 = 1) := by
    intro i hi
    rw [b_nI, show (256 : Nat) = 2 ^ 8 by rfl, Nat.testBit_two_pow_mul_add a (i := 8) (b := b) hb i]
    simp only [show i < 32 by omega, decide_true, Bool.true_and]
    split
    · rw [Nat.testBit_eq_decide_div_mod_eq]
    · rw [Nat.testBit_eq_decide_div_mod_eq]
  rw [rk_congr 16 e]
  unfold c8
  have m : ∀ x : Nat, (if decide (x % 2 = 1) then 1 else 0) = x % 2 := by
    intro x
    by_cases h : x % 2 = 1
    · simp [h]
    · have : x % 2 = 0 := by omega
      simp [this]
  simp only [rk, m]
  simp
  omega
/-- a row of 16 bits is a number -/
theorem i_mask {x : Int32} (h : ∀ i, 16 ≤ i → bt x i = false) : ∃ a b, a < 256 ∧ b < 256 ∧ x = nI (256 * a + b) := by
  have hx : x.toBitVec.toNat < 2 ^ 16 := by
    apply Nat.lt_pow_two_of_testBit
    intro i hi
    exact h i hi
  refine ⟨x.toBitVec.toNat / 256, x.toBitVec.toNat % 256, by omega, by omega, ?_⟩
  have : 256 * (x.toBitVec.toNat / 256) + x.toBitVec.toNat % 256 = x.toBitVec.toNat := by omega
  rw [this]
  apply b_ext
  intro i hi
  rw [b_nI]
  simp [hi]
  rfl
theorem bc_e {N : Nat} {M : Mm} {x : Int32} (h : ∀ i, 16 ≤ i → bt x i = false) : f_J6_bitCount_0f7a4 N x M = some (nI (rk (bt x) 16), M) := by
  obtain ⟨a, b, ha, hb, rfl⟩ := i_mask h
  rw [bc_f, bc_n ha hb, rk_16 hb]
theorem rk_far {q : Nat → Bool} {n m : Nat} (h : n ≤ m) (hf : ∀ i, n ≤ i → q i = false) : rk q m = rk q n := by
  induction m with
  | zero => have : n = 0 := by omega
            subst this; rfl
  | succ m ih =>
    by_cases e : n = m + 1
    · rw [e]
    · rw [rk_s, ih (by omega), hf m (by omega)]; rfl
theorem wbit : ∀ w, w < 16 → ∀ i, i < 32 → bt (nI w) i = (decide (i < 4) && decide (w / 2 ^ i % 2 = 1)) := by decide +kernel
theorem popc_rk : ∀ w, w < 16 → rk (bt (nI w)) 16 = popc w ∧ rk (bt (nI w)) 31 = popc w := by decide +kernel
theorem bc_w {N : Nat} {M : Mm} {w : Nat} (hw : w < 16) : f_J6_bitCount_0f7a4 N (nI w) M = some (nI (popc w), M) := by
  rw [bc_e, (popc_rk w hw).1]
  intro i hi
  rcases Nat.lt_or_ge i 32 with h | h
  · rw [wbit w hw i h]; simp; omega
  · exact b_big h
/-- the reference counts them one by one -/
theorem bits_e {N : Nat} (hN : 100000 ≤ N) {M : Mm} {x : Int32} : f_X12_bits N x M = some (nI (rk (bt x) 31), M) := by
  unfold f_X12_bits
  refine itr_for0 (fun j => (nI (rk (bt x) j), nI j)) (fun _ => M) 31 (by rw [nI_0]; rfl) rfl (by omega) (fun rec j hj => ?_) (fun rec => ?_)
  · unfold B_X12_bits_4
    rw [if_pos (by show nI j < 31; exact (ltc rfl (by omega) (by omega) : (nI j < nI 31) = (j < 31)) ▸ hj), bit_e x (by omega)]
    simp only [lt_eq, nI_1, rk_s]
    cases bt x j
    · simp [b01_f]
    · simp only [b01_t, nI_1]; rfl
  · unfold B_X12_bits_4
    rw [if_neg (by show ¬ nI 31 < 31; decide)]
