/-! whole numbers of 32 bits that stay in their bounds; frames; loops under an invariant -/
theorem bm {x : Int} (h1 : -2147483648 ≤ x) (h2 : x < 2147483648) : x.bmod (2 ^ 32) = x := by
  apply Int.bmod_eq_of_le <;> omega
theorem i_add {a b : Int32} (h1 : -2147483648 ≤ a.toInt + b.toInt) (h2 : a.toInt + b.toInt < 2147483648) : (a + b).toInt = a.toInt + b.toInt := by rw [Int32.toInt_add, bm h1 h2]
theorem i_sub {a b : Int32} (h1 : -2147483648 ≤ a.toInt - b.toInt) (h2 : a.toInt - b.toInt < 2147483648) : (a - b).toInt = a.toInt - b.toInt := by rw [Int32.toInt_sub, bm h1 h2]
theorem i_mul {a b : Int32} (h1 : -2147483648 ≤ a.toInt * b.toInt) (h2 : a.toInt * b.toInt < 2147483648) : (a * b).toInt = a.toInt * b.toInt := by rw [Int32.toInt_mul, bm h1 h2]
theorem i_neg {a : Int32} (h1 : -2147483648 < a.toInt) : (-a).toInt = -a.toInt := by
  have := a.toInt_lt
  rw [Int32.toInt_neg, bm (by omega) (by omega)]
theorem mul_b {x y a b : Int} (hx : 0 ≤ x) (hxa : x ≤ a) (hy : 0 ≤ y) (hyb : y ≤ b) : 0 ≤ x * y ∧ x * y ≤ a * b :=
  ⟨Int.mul_nonneg hx hy, Int.le_trans (Int.mul_le_mul_of_nonneg_right hxa hy) (Int.mul_le_mul_of_nonneg_left hyb (by omega))⟩
theorem zI (x : Int32) : (0 < x) = (0 < x.toInt) := by rw [toI_lt]; rfl
theorem zL (x : Int32) : (x < 0) = (x.toInt < 0) := by rw [toI_lt]; rfl
theorem fer_e : ∀ p, p < 256 → ∀ h, h < 4 → (nI p >>> ((2 * nI h) &&& 31)) &&& 3 = nI (p / 4 ^ h % 4) := by decide +kernel
theorem wbt_e : ∀ w, w < 16 → ∀ h, h < 4 → (nI w >>> (nI h &&& 31)) &&& 1 = nI (w / 2 ^ h % 2) := by decide +kernel
theorem fer_b {p h : Nat} : 0 ≤ fer p h ∧ fer p h ≤ 3 := by
  unfold fer
  have := Nat.mod_lt (p / 4 ^ h) (by omega : 4 > 0)
  omega
theorem wbt_b {w h : Nat} : 0 ≤ wbt w h ∧ wbt w h ≤ 1 := by
  unfold wbt
  have := Nat.mod_lt (w / 2 ^ h) (by omega : 2 > 0)
  omega
theorem fer_t {p h : Nat} : (nI (p / 4 ^ h % 4)).toInt = fer p h := by
  have := Nat.mod_lt (p / 4 ^ h) (by omega : 4 > 0)
  exact nI_toInt (by omega)
theorem wbt_t {w h : Nat} : (nI (w / 2 ^ h % 2)).toInt = wbt w h := by
  have := Nat.mod_lt (w / 2 ^ h) (by omega : 2 > 0)
  exact nI_toInt (by omega)
/-- which cells may differ -/
def Fr (L : List Nat) (M0 M : Mm) : Prop := (∀ b, b ∉ L → M.1 b = M0.1 b) ∧ ∀ b, b ∉ L → M.2 b = M0.2 b
theorem Fr.rf (L : List Nat) (M : Mm) : Fr L M M := ⟨fun _ _ => rfl, fun _ _ => rfl⟩
theorem Fr.wI {L : List Nat} {M0 M : Mm} {a i : Nat} {v : Int32} (h : Fr L M0 M) (ha : a ∈ L) : Fr L M0 (wI M a i v) :=
  ⟨fun b hb => by rw [wI_g, if_neg (fun e : b = a => hb (e ▸ ha))]; exact h.1 b hb, fun b hb => h.2 b hb⟩
theorem Fr.wR {L : List Nat} {M0 M : Mm} {a : Nat} {f : Nat → Int32} (h : Fr L M0 M) (ha : a ∈ L) : Fr L M0 (wR M a f) :=
  ⟨fun b hb => by rw [wR_g, if_neg (fun e : b = a => hb (e ▸ ha))]; exact h.1 b hb, fun b hb => h.2 b hb⟩
theorem Fr.wL {L : List Nat} {M0 M : Mm} {a i : Nat} {v : Int64} (h : Fr L M0 M) (ha : a ∈ L) : Fr L M0 (wL M a i v) :=
  ⟨fun b hb => h.1 b hb, fun b hb => by rw [wL_s, if_neg (fun e : b = a => hb (e ▸ ha))]; exact h.2 b hb⟩
theorem Fr.tr {L : List Nat} {M0 M1 M2 : Mm} (h1 : Fr L M0 M1) (h2 : Fr L M1 M2) : Fr L M0 M2 := ⟨fun b hb => (h2.1 b hb).trans (h1.1 b hb), fun b hb => (h2.2 b hb).trans (h1.2 b hb)⟩
theorem Fr.mono {L L' : List Nat} {M0 M : Mm} (h : Fr L M0 M) (hs : ∀ b ∈ L, b ∈ L') : Fr L' M0 M := ⟨fun b hb => h.1 b (fun q => hb (hs b q)), fun b hb => h.2 b (fun q => hb (hs b q))⟩
/-- a loop under an invariant comes to its last check -/
theorem itr_go {σ : Type} {B : (σ → Mm → Rs) → σ → Mm → Rs} (I : Nat → σ → Mm → Prop) (e : Nat) (hs : ∀ rec j s M, j < e → I j s M → ∃ s' M', I (j + 1) s' M' ∧ B rec s M = rec s' M') : ∀ (n i : Nat) (s : σ) (M : Mm), i ≤ e → e - i < n → I i s M → ∃ s' M' rec, I e s' M' ∧ itr B n s M = B rec s' M' := by
  intro n
  induction n with
  | zero => intro i s M _ h; omega
  | succ n ih =>
    intro i s M hi hn hI
    by_cases h : i = e
    · subst h; exact ⟨s, M, itr B n, hI, rfl⟩
    · obtain ⟨s', M', h1, h2⟩ := hs (itr B n) i s M (by omega) hI
      rw [itr_s, h2]
      exact ih (i + 1) s' M' (by omega) (by omega) h1
/-- the balance of a harbour -/
theorem balZ_b {nu : Nat → Int32} (hn : NumB nu) (p w : Nat) {h : Nat} (hh : h < 4) : -198 ≤ balZ nu p w h ∧ balZ nu p w h ≤ 2997 := by
  unfold balZ
  have a := mul_b (fer_b (p := p) (h := h)).1 (fer_b (p := p) (h := h)).2 (hn.1 40 (by omega)).1 (hn.1 40 (by omega)).2
  have b := mul_b (wbt_b (w := w) (h := h)).1 (wbt_b (w := w) (h := h)).2 (hn.1 (6 * h + 1) (by omega)).1 (hn.2 (6 * h + 1) (by omega) (by omega))
  have e := hn.2 (6 * h) (by omega) (by omega)
  have f := (hn.1 (6 * h) (by omega)).1
  omega
theorem bal_e {N : Nat} {M : Mm} {p w h : Nat} (hn : NumB (M.1 2)) (hp : p < 256) (hw : w < 16) (hh : h < 4) : ∃ x : Int32, f_X10_balance N (nI h) (nI p) (nI w) M = some (x, M) ∧ x.toInt = balZ (M.1 2) p w h := by
  have e6 : nI h * 6 = nI (6 * h) := by
    show nI h * nI 6 = _
    rw [pk_mul, Nat.mul_comm]
  have e1 : nI (6 * h) + 1 = nI (6 * h + 1) := nI_1 _
  have e0 : nI (6 * h) + 0 = nI (6 * h) := by
    show nI (6 * h) + nI 0 = _
    rw [nI_add]; rfl
  unfold f_X10_balance
  simp only [lt_eq]
  rw [fer_e p hp h hh, wbt_e w hw h hh, e6, e1, e0]
  simp (disch := omega) only [ix_n, inb_n, if_true]
  refine ⟨_, rfl, ?_⟩
  have z40 := hn.1 40 (by omega)
  have a := mul_b (fer_b (p := p) (h := h)).1 (fer_b (p := p) (h := h)).2 z40.1 z40.2
  have b := mul_b (wbt_b (w := w) (h := h)).1 (wbt_b (w := w) (h := h)).2 (hn.1 (6 * h + 1) (by omega)).1 (hn.2 (6 * h + 1) (by omega) (by omega))
  have e := hn.2 (6 * h) (by omega) (by omega)
  have f := (hn.1 (6 * h) (by omega)).1
  have i40 : ix (40 : Int32) = 40 := rfl
  rw [i40]
  unfold zz at a b e f
  have m1 : (nI (p / 4 ^ h % 4) * M.1 2 40).toInt = fer p h * (M.1 2 40).toInt := by rw [i_mul (by rw [fer_t]; omega) (by rw [fer_t]; omega), fer_t]
  have m2 : (nI (w / 2 ^ h % 2) * M.1 2 (6 * h + 1)).toInt = wbt w h * (M.1 2 (6 * h + 1)).toInt := by rw [i_mul (by rw [wbt_t]; omega) (by rw [wbt_t]; omega), wbt_t]
  have m3 : (nI (p / 4 ^ h % 4) * M.1 2 40 - M.1 2 (6 * h)).toInt = fer p h * (M.1 2 40).toInt - (M.1 2 (6 * h)).toInt := by rw [i_sub (by rw [m1]; omega) (by rw [m1]; omega), m1]
  rw [i_sub (by rw [m3, m2]; omega) (by rw [m3, m2]; omega), m3, m2]
  rfl
