/-! HOW THE TWO MEMORIES BELONG TOGETHER -/
def LawOk (tx : Nat → Int32) (sz mk : Int32) : Prop := ∃ n v, n ≤ 40 ∧ sz = nI n ∧ lwS tx n 200 2 0 0 = .inr (n, v) ∧ ∀ w, w < 16 → bt mk w = v w
/-- one part of a rule as it was read -/
def rpV (q p w : Int32) : Int32 := if q < 1000 then q else if q < 1010 then (p >>> ((2 * (q - 1000)) &&& 31)) &&& 3 else (w >>> ((q - 1010) &&& 31)) &&& 1
def rpJ (q x y : Int32) : Int32 := if q = 1022 then x * y else if q = 1020 then x + y else x - y
def stp (p w q : Int32) (st : List Int32) : Option (List Int32) := if q < 1020 then some (rpV q p w :: st) else match st with
  | y :: x :: r => some (rpJ q x y :: r)
  | _ => none
/-- k parts from a place on, over a stack -/
def rpR (pt : Nat → Int32) (p w : Int32) (a : Nat) : Nat → List Int32 → Option (List Int32)
  | 0, st => some st
  | k + 1, st => match rpR pt p w a k st with
    | none => none
    | some t => stp p w (pt (a + k)) t
def SnOk (sn : Int32 → Bool) : Prop := ∀ x, sn x = true → ∃ k, k < 4 ∧ x = nI k
def RuOk (len : Int32) (pt : Nat → Int32) (ha : Int32) (tx : Nat → Int32) (sz : Int32) : Prop :=
  (ha = 0 ∧ len = 0) ∨ (ha = 1 ∧ ∃ n m sn v, n ≤ 40 ∧ sz = nI n ∧ SnOk sn ∧ rwS tx n sn 200 2 0 0 (fun _ _ => 0) = .inr (n, v) ∧ 0 < m ∧ m ≤ 40 ∧ len = nI m ∧ ∀ p w, rpR pt p w 0 m [] = some [v p w])
def OkV (s : Nat) (v : Int32) : Prop := 0 ≤ v.toInt ∧ v.toInt ≤ 999 ∧ (s < 40 → ¬ (s < 24 ∧ s % 6 = 2) → v.toInt ≤ 99)
def TRn (th : Int32) (nu nw : Nat → Int32) : Prop := (∀ h, h < 4 → nw (43 + h) = b01 (bt th h)) ∧ (∀ i, 4 ≤ i → bt th i = false) ∧ (∀ i, i < 43 → nw i = nu i) ∧ (∀ s, s < 43 → OkV s (nu s)) ∧ ∀ h k, h < 4 → k < 6 → bt th h = false → nu (6 * h + k) = 0
def TRl (nl ho : Int32) (lw : Nat → Int32) (lm : Int32) (of la ls : Nat → Int32) : Prop := ∃ n, n ≤ 12 ∧ nl = nI n ∧ lm = nI n ∧ (∀ i, n ≤ i → bt ho i = false) ∧ ∀ l, l < n → of l = b01 (!bt ho l) ∧ LawOk (fun i => la (40 * l + i)) (ls l) (lw l)
def TRr (C : Nat → Nat → Int32) (b : Nat) (ha ru rs : Nat → Int32) : Prop := ∀ h, h < 4 → RuOk (C (b + 4 + 2 * h) 1) (C (b + 5 + 2 * h)) (ha h) (fun i => ru (40 * h + i)) (rs h)
def TRy (th ny : Int32) (yo : Nat → Int32) (ym : Int32) (ye : Nat → Int32) : Prop := ∃ n, n ≤ 60 ∧ ny = nI n ∧ ym = nI n ∧ (∀ y, y < n → ∃ w, w < 16 ∧ ye y = nI w ∧ woS th w = true) ∧ ∀ w, w < 16 → yo w = nI (rk (fun y => decide (ye y = nI w)) n)
def Chg (th nx sz : Int32) (sl be : Nat → Int32) (mz : Int32) (ch wa : Nat → Int32) : Prop := ∃ x z, x < 40 ∧ z ≤ 40 ∧ nx = nI x ∧ sz = nI z ∧ mz = nI z ∧ ∀ k, k < z → ∃ s, s < 43 ∧ sl ((x + 39 - k) % 40) = nI s ∧ ch (z - 1 - k) = nI s ∧ be ((x + 39 - k) % 40) = wa (z - 1 - k) ∧ OkV s (wa (z - 1 - k)) ∧ (s < 24 → bt th (s / 6) = true)
def Txt (tl : Int32) (tb : Nat → Int32) (ml : Int32) (mt : Nat → Int32) : Prop := ∃ n, n ≤ 40 ∧ tl = nI n ∧ ml = nI n ∧ ∀ i, i < n → tb i = mt i ∧ 0 ≤ (mt i).toInt ∧ (mt i).toInt ≤ 255
def Rw (rl : Int32) (rb : Nat → Int32) (ml : Int32) (mr : Nat → Int32) : Prop := ∃ n, n ≤ 12 ∧ rl = nI n ∧ ml = nI n ∧ ∀ i, i < n → rb i = mr i
def letS (M : Mm) (w : Nat) : Bool := woS (M.1 1 0) w && al (fun l => !bt (M.1 1 3) l || bt (M.1 3 l) w) (ix (M.1 1 2))
def setS (M : Mm) (b : Int32) (w : Nat) : Bool := letS M w && !decide (b < nI (popc w))
def CacheM (M1 M2 : Mm) : Prop := M2.1 0 2 = 0 ∨ (M2.1 0 2 = 1 ∧ (∀ w, w < 16 → M2.1 21 w = b01 (letS M1 w) ∧ M2.1 19 w = b01 (setS M1 (M1.1 2 42) w)) ∧ ∀ p, p < 256 → M2.1 20 p = b01 (plS (M1.1 1 0) p) ∧ (plS (M1.1 1 0) p = true → ∀ w, w < 16 → (M2.1 18 (16 * p + w)).toInt = if woS (M1.1 1 0) w then cstZ (M1.1 2) p w else 0))
def ToldR (C D : Nat → Nat → Int32) : Prop := TRn (C 1 0) (C 2) (D 2) ∧ TRl (C 1 2) (C 1 3) (C 3) (D 0 15) (D 11) (D 6) (D 7) ∧ TRr C 1 (D 12) (D 8) (D 9) ∧ TRy (C 1 0) (C 1 6) (C 13) (D 0 39) (D 24)
def KeptR (C D : Nat → Nat → Int32) : Prop := TRn (C 14 0) (C 15) (D 25) ∧ TRl (C 14 2) (C 14 3) (C 16) (D 0 48) (D 31) (D 26) (D 27) ∧ TRr C 14 (D 32) (D 28) (D 29) ∧ TRy (C 14 0) (C 14 6) (C 26) (D 0 49) (D 30)
def ImgR (C D : Nat → Nat → Int32) : Prop := (C 0 2 = 0 ∧ D 0 50 = 0) ∨ (C 0 2 = 1 ∧ D 0 50 = 1 ∧ KeptR C D)
def RestR (C D : Nat → Nat → Int32) : Prop := (∀ i, i < 7 → C 33 i = D 1 i) ∧ Chg (C 1 0) (C 27 2) (C 27 3) (C 28) (C 29) (D 0 5) (D 3) (D 4) ∧ Txt (C 30 1) (C 31) (D 0 14) (D 5) ∧ Rw (C 0 6) (C 32) (D 0 37) (D 23)
def Rel (M1 M2 : Mm) : Prop := ToldR M1.1 M2.1 ∧ ImgR M1.1 M2.1 ∧ RestR M1.1 M2.1 ∧ CacheC M1 ∧ CacheM M1 M2
/-! what a question leaves as it was -/
def Kc (M M' : Mm) : Prop := (∀ b, b < 34 → M'.1 b = M.1 b) ∧ CacheC M'
def Lm : List Nat := [0, 10, 13, 14, 15, 16, 17, 18, 19, 20, 21, 22]
def Ls : List Nat := [5, 14, 15, 37, 39, 48, 49, 50]
def Km (M1 M M' : Mm) : Prop := (∀ b, b ∉ Lm → M'.1 b = M.1 b) ∧ (∀ i, i ∈ Ls → M'.1 0 i = M.1 0 i) ∧ CacheM M1 M'
theorem TRr.congr {C C' : Nat → Nat → Int32} {b : Nat} {ha ru rs : Nat → Int32} (hb : b = 1 ∨ b = 14) (h : ∀ k, k < 34 → C' k = C k) (H : TRr C b ha ru rs) : TRr C' b ha ru rs := by
  intro k hk
  rw [h (b + 4 + 2 * k) (by omega), h (b + 5 + 2 * k) (by omega)]
  exact H k hk
theorem Rel.cls {M1 M1' M2 : Mm} (H : Rel M1 M2) (h : Kc M1 M1') : Rel M1' M2 := by
  obtain ⟨hc, hC⟩ := h
  obtain ⟨⟨a1, a2, a3, a4⟩, b, ⟨c1, c2, c3, c4⟩, -, e⟩ := H
  refine ⟨⟨?_, ?_, a3.congr (Or.inl rfl) hc, ?_⟩, ?_, ⟨?_, ?_, ?_, ?_⟩, hC, ?_⟩
  · rw [hc 1 (by omega), hc 2 (by omega)]; exact a1
  · rw [hc 1 (by omega), hc 3 (by omega)]; exact a2
  · rw [hc 1 (by omega), hc 13 (by omega)]; exact a4
  · unfold ImgR
    rw [hc 0 (by omega)]
    rcases b with b | ⟨b1, b2, b3, b4, b5, b6⟩
    · exact Or.inl b
    · refine Or.inr ⟨b1, b2, ?_, ?_, b5.congr (Or.inr rfl) hc, ?_⟩
      · rw [hc 14 (by omega), hc 15 (by omega)]; exact b3
      · rw [hc 14 (by omega), hc 16 (by omega)]; exact b4
      · rw [hc 14 (by omega), hc 26 (by omega)]; exact b6
  · rw [hc 33 (by omega)]; exact c1
  · rw [hc 1 (by omega), hc 27 (by omega), hc 28 (by omega), hc 29 (by omega)]; exact c2
  · rw [hc 30 (by omega), hc 31 (by omega)]; exact c3
  · rw [hc 0 (by omega), hc 32 (by omega)]; exact c4
  · unfold CacheM letS setS letS at *
    rw [hc 1 (by omega), hc 2 (by omega), hc 3 (by omega)]
    exact e
theorem Rel.mdl {M1 M2 M2' : Mm} (H : Rel M1 M2) (h : Km M1 M2 M2') : Rel M1 M2' := by
  obtain ⟨hc, hs, hC⟩ := h
  obtain ⟨⟨a1, a2, a3, a4⟩, b, ⟨c1, c2, c3, c4⟩, d, -⟩ := H
  have f : ∀ b, b ∈ [1, 2, 3, 4, 5, 6, 7, 8, 9, 11, 12, 23, 24, 25, 26, 27, 28, 29, 30, 31, 32] → M2'.1 b = M2.1 b := fun b hb => hc b (by unfold Lm; simp at hb ⊢; omega)
  refine ⟨⟨?_, ?_, ?_, ?_⟩, ?_, ⟨?_, ?_, ?_, ?_⟩, d, hC⟩
  · rw [f 2 (by simp)]; exact a1
  · rw [hs 15 (by simp [Ls]), f 11 (by simp), f 6 (by simp), f 7 (by simp)]; exact a2
  · rw [f 12 (by simp), f 8 (by simp), f 9 (by simp)]; exact a3
  · rw [hs 39 (by simp [Ls]), f 24 (by simp)]; exact a4
  · unfold ImgR KeptR
    rw [hs 50 (by simp [Ls]), hs 48 (by simp [Ls]), hs 49 (by simp [Ls]), f 25 (by simp), f 26 (by simp), f 27 (by simp), f 28 (by simp), f 29 (by simp), f 30 (by simp), f 31 (by simp), f 32 (by simp)]
    exact b
  · rw [f 1 (by simp)]; exact c1
  · rw [hs 5 (by simp [Ls]), f 3 (by simp), f 4 (by simp)]; exact c2
  · rw [hs 14 (by simp [Ls]), f 5 (by simp)]; exact c3
  · rw [hs 37 (by simp [Ls]), f 23 (by simp)]; exact c4
theorem Rel.num {M1 M2 : Mm} (H : Rel M1 M2) : NumB (M1.1 2) := by
  have h := H.1.1.2.2.2.1
  exact ⟨fun i hi => ⟨(h i hi).1, (h i hi).2.1⟩, fun i hi hx => (h i (by omega)).2.2 hi hx⟩
theorem Kc.rf {M : Mm} (h : CacheC M) : Kc M M := ⟨fun _ _ => rfl, h⟩
theorem Kc.tr {M M1 M2 : Mm} (h1 : Kc M M1) (h2 : Kc M1 M2) : Kc M M2 := ⟨fun b hb => (h2.1 b hb).trans (h1.1 b hb), h2.2⟩
theorem Km.rf {M1 M : Mm} (h : CacheM M1 M) : Km M1 M M := ⟨fun _ _ => rfl, fun _ _ => rfl, h⟩
theorem Km.tr {M0 M M1 M2 : Mm} (h1 : Km M0 M M1) (h2 : Km M0 M1 M2) : Km M0 M M2 := ⟨fun b hb => (h2.1 b hb).trans (h1.1 b hb), fun i hi => (h2.2.1 i hi).trans (h1.2.1 i hi), h2.2.2⟩
theorem Kc.let {M M' : Mm} (h : Kc M M') (w : Nat) : letS M' w = letS M w := by
  unfold letS
  rw [h.1 1 (by omega), h.1 3 (by omega)]
theorem Kc.set {M M' : Mm} (h : Kc M M') (b : Int32) (w : Nat) : setS M' b w = setS M b w := by
  unfold setS
  rw [h.let]
