/-! the reference reckons a law as it reads -/
def Rc {σ : Type} (B : (σ → Mm → Rs) → σ → Mm → Rs) (s : σ) (M : Mm) (s' : σ) (M' : Mm) (k : Nat) : Prop := ∀ m, itr B (m + k) s M = itr B m s' M'
theorem Rc.tr {σ : Type} {B : (σ → Mm → Rs) → σ → Mm → Rs} {s s1 s2 : σ} {M M1 M2 : Mm} {a b : Nat} (h1 : Rc B s M s1 M1 a) (h2 : Rc B s1 M1 s2 M2 b) : Rc B s M s2 M2 (a + b) := fun m => by
  rw [show m + (a + b) = (m + b) + a by omega, h1, h2]
theorem Rc.one {σ : Type} {B : (σ → Mm → Rs) → σ → Mm → Rs} {s s' : σ} {M M' : Mm} (h : ∀ rec, B rec s M = rec s' M') : Rc B s M s' M' 1 := fun m => by rw [itr_s, h]
theorem nI_m1 {b : Nat} (h : b < 2 ^ 31) : nI b ≠ -1 := fun q => by
  have := nI_pos h
  rw [q] at this
  exact absurd this (by decide)
theorem pkI {tx : Nat → Int32} {n i : Nat} {c : Int32} (h : pk tx n i = c) (hc : c ≠ -1) : i < n ∧ tx i = c := by
  unfold pk at h
  split at h
  · rename_i hi; exact ⟨hi, h⟩
  · exact absurd h.symm hc
theorem dg_of {c : Int32} (h : isDg c = true) : ∃ k, k < 10 ∧ c = nI (48 + k) ∧ c - 48 = nI k := by
  unfold isDg at h
  simp only [Bool.and_eq_true, Bool.not_eq_true', decide_eq_false_iff_not] at h
  rcases i_cases c with hx | ⟨p, hp, rfl⟩
  · exact absurd (show c < 48 by rw [toI_lt] at hx ⊢; have : (0 : Int32).toInt = 0 := rfl; have : (48 : Int32).toInt = 48 := rfl; omega) h.1
  · have h1 : ¬ p < 48 := by have := h.1; rw [ltc (c := 48) (n := 48) rfl hp (by omega)] at this; exact this
    have h2 : ¬ 57 < p := by have := h.2; rw [gtc (c := 57) (n := 57) rfl hp (by omega)] at this; exact this
    refine ⟨p - 48, by omega, by congr 1; omega, ?_⟩
    show nI p - nI 48 = _
    rw [nI_subl (by omega)]
theorem dg_m1 : isDg (-1) = false := by decide
def stp3 : List Int32 → List Int32
  | [] => []
  | b :: ws => if b = 33 then stp3 ws else b :: ws
def flp3 : List Int32 → Bool → Bool
  | [], x => x
  | b :: ws, x => if b = 33 then flp3 ws (!x) else x
def TK : List Int32 → Prop
  | [] => True
  | b :: ws => if b = 33 then TK ws else rkN b < 3
theorem b01_not (x : Bool) : 1 - b01 x = b01 (!x) := by cases x <;> rfl
theorem b01_and (x y : Bool) : b01 x &&& b01 y = b01 (x && y) := by cases x <;> cases y <;> rfl
theorem b01_or (x y : Bool) : b01 x ||| b01 y = b01 (x || y) := by cases x <;> cases y <;> rfl
theorem wk3 {vs : List Int32} : ∀ {ws : List Int32} (x : Bool), TK ws → wk 3 ws (b01 x :: vs) = some (stp3 ws, b01 (flp3 ws x) :: vs) := by
  intro ws
  induction ws with
  | nil => intro x _; rfl
  | cons b ws ih =>
    intro x h
    unfold TK at h
    unfold wk stp3 flp3
    by_cases e : b = 33
    · rw [if_pos e] at h
      rw [if_pos e, if_pos e, if_neg (by rw [e]; decide)]
      unfold apO
      rw [if_pos e]
      dsimp only
      rw [b01_not]
      exact ih (!x) h
    · rw [if_neg e] at h
      rw [if_neg e, if_neg e, if_pos h]
theorem wk_wk {a b : Nat} (hab : a ≤ b) : ∀ {ws vs W V : List Int32}, wk b ws vs = some (W, V) → wk a ws vs = wk a W V := by
  intro ws
  induction ws with
  | nil => intro vs W V h; cases h; rfl
  | cons c ws ih =>
    intro vs W V h
    unfold wk at h
    by_cases e : rkN c < b
    · rw [if_pos e] at h
      cases h; rfl
    · rw [if_neg e] at h
      rw [wk, if_neg (by omega)]
      split at h
      · cases h
      · rename_i vs' hv
        exact ih h
def base (ws : List Int32) : Prop := ws = [] ∨ ∃ W, ws = 40 :: W
def Q1 (ws vs W V : List Int32) (g : Bool → Bool) : Prop := base W ∧ ((ws = W ∧ vs = V ∧ g = id) ∨ ∃ a, ws = 124 :: W ∧ vs = b01 a :: V ∧ g = fun x => a || x)
def Q2 (ws vs W V : List Int32) (g : Bool → Bool) : Prop := (∃ W' V' g', Q1 W V W' V' g') ∧ ((ws = W ∧ vs = V ∧ g = id) ∨ ∃ a, ws = 38 :: W ∧ vs = b01 a :: V ∧ g = fun x => a && x)
theorem base_wk {le : Nat} {W V : List Int32} (h : base W) (hle : 0 < le) : wk le W V = some (W, V) := by
  rcases h with rfl | ⟨W', rfl⟩
  · rfl
  · rw [wk, if_pos (by show rkN 40 < le; exact hle)]
theorem Q1.go {ws vs W V : List Int32} {g : Bool → Bool} (h : Q1 ws vs W V g) (x : Bool) : wk 1 ws (b01 x :: vs) = some (W, b01 (g x) :: V) := by
  obtain ⟨hb, ⟨rfl, rfl, rfl⟩ | ⟨a, rfl, rfl, rfl⟩⟩ := h
  · exact base_wk hb (by omega)
  · show (if rkN 124 < 1 then _ else _) = _
    rw [if_neg (by decide)]
    show wk 1 W (opI 124 (b01 a) (b01 x) :: V) = _
    rw [base_wk hb (by omega)]
    show some (W, (b01 a ||| b01 x) :: V) = _
    rw [b01_or]
theorem Q1.lo {ws vs W V : List Int32} {g : Bool → Bool} (h : Q1 ws vs W V g) {V2 : List Int32} {le : Nat} (hle : 2 ≤ le) : wk le ws V2 = some (ws, V2) := by
  obtain ⟨hb, ⟨rfl, rfl, rfl⟩ | ⟨a, rfl, rfl, rfl⟩⟩ := h
  · exact base_wk hb (by omega)
  · show (if rkN 124 < le then _ else _) = _
    rw [if_pos (by show 1 < le; omega)]
theorem Q1.top {ws vs W V : List Int32} {g : Bool → Bool} (h : Q1 ws vs W V g) : TK ws ∧ stp3 ws = ws ∧ ∀ x, flp3 ws x = x := by
  obtain ⟨hb, ⟨rfl, rfl, rfl⟩ | ⟨a, rfl, rfl, rfl⟩⟩ := h
  · rcases hb with rfl | ⟨W', rfl⟩
    · exact ⟨True.intro, rfl, fun _ => rfl⟩
    · exact ⟨by unfold TK; rw [if_neg (by decide)]; decide, rfl, fun _ => rfl⟩
  · exact ⟨by unfold TK; rw [if_neg (by decide)]; decide, rfl, fun _ => rfl⟩
theorem Q2.go {ws vs W V : List Int32} {g : Bool → Bool} (h : Q2 ws vs W V g) (x : Bool) : wk 2 ws (b01 x :: vs) = some (W, b01 (g x) :: V) := by
  obtain ⟨⟨W', V', g', hq⟩, ⟨rfl, rfl, rfl⟩ | ⟨a, rfl, rfl, rfl⟩⟩ := h
  · exact hq.lo (by omega)
  · show (if rkN 38 < 2 then _ else _) = _
    rw [if_neg (by decide)]
    show wk 2 W (opI 38 (b01 a) (b01 x) :: V) = _
    rw [hq.lo (by omega)]
    show some (W, (b01 a &&& b01 x) :: V) = _
    rw [b01_and]
theorem Q2.top {ws vs W V : List Int32} {g : Bool → Bool} (h : Q2 ws vs W V g) : TK ws ∧ stp3 ws = ws ∧ ∀ x, flp3 ws x = x := by
  obtain ⟨⟨W', V', g', hq⟩, ⟨rfl, rfl, rfl⟩ | ⟨a, rfl, rfl, rfl⟩⟩ := h
  · exact hq.top
  · exact ⟨by unfold TK; rw [if_neg (by decide)]; decide, rfl, fun _ => rfl⟩
theorem Q2.g {ws vs W V : List Int32} {g : Bool → Bool} (h : Q2 ws vs W V g) (x y : Bool) : (g x && y) = g (x && y) := by
  obtain ⟨-, ⟨rfl, rfl, rfl⟩ | ⟨a, rfl, rfl, rfl⟩⟩ := h
  · rfl
  · exact Bool.and_assoc a x y
theorem Q1.g {ws vs W V : List Int32} {g : Bool → Bool} (h : Q1 ws vs W V g) (x y : Bool) : (g x || y) = g (x || y) := by
  obtain ⟨-, ⟨rfl, rfl, rfl⟩ | ⟨a, rfl, rfl, rfl⟩⟩ := h
  · rfl
  · exact Bool.or_assoc a x y
section Lets
variable {N : Nat} {M0 M : Mm} {l w n : Nat} {ws vs : List Int32} {i : Nat} {G : Unit → Mm → Rs}
theorem AS.e6 (h : AS M0 i ws vs M) : M.1 6 = M0.1 6 := h.1.1 6 (by simp)
theorem AS.e7 (h : AS M0 i ws vs M) : M.1 7 = M0.1 7 := h.1.1 7 (by simp)
theorem sign_e (h : AS M0 i ws vs M) (hl : l < 12) (hn : n ≤ 40) (h7 : M0.1 7 l = nI n) : f_X12_lawSign N (nI l) M = some (pk (fun i => M0.1 6 (40 * l + i)) n i, M) := by
  have hi := h.2.2.2.2.2.2.2.1
  unfold f_X12_lawSign pk
  rw [inb_n (by omega) (by omega), ix_n (by omega), h.e7, h7, h.2.2.1, if_pos rfl]
  by_cases hin : i < n
  · rw [if_pos (by rw [nlt (by omega) (by omega)]; exact hin), if_pos hin, lmul40, nI_add, inb_n (by omega) (by omega), ix_n (by omega), h.e6, if_pos rfl]
  · rw [if_neg (by rw [nlt (by omega) (by omega)]; exact hin), if_neg hin]
/-- what a part says, and where it ends: b and n -/
theorem comp_e (hN : 100000 ≤ N) (h : AS M0 i ws vs M) (hl : l < 12) (hw : w < 16) (hn : n ≤ 40) (h7 : M0.1 7 l = nI n) {f dep j : Nat} {v : Nat → Bool} (hp : pk (fun i => M0.1 6 (40 * l + i)) n i = 98 ∨ pk (fun i => M0.1 6 (40 * l + i)) n i = 110) (hs : lwS (fun i => M0.1 6 (40 * l + i)) n (f + 1) 0 dep i = .inr (j, v)) :
    i < j ∧ j ≤ n ∧ ∃ M', f_X12_compared N (nI l) (nI w) M = some (b01 (v w), M') ∧ AS M0 j ws vs M' := by
  have e0 := sign_e (N := N) h hl hn h7
  have hi := h.2.2.2.2.2.2.2.1
  generalize htx : (fun i => M0.1 6 (40 * l + i)) = tx at *
  have e22 := h.2.2.1
  unfold f_X12_compared
  rw [bd_of e0]
  simp only [lt_eq]
  rw [e22, nI_1]
  unfold lwS at hs
  rw [if_pos rfl] at hs
  by_cases h98 : pk tx n i = 98
  · rw [if_pos h98] at hs
    rw [if_pos h98]
    have hin := (pkI h98 (by decide)).1
    have hS := h.step (j := i + 1) (by omega) (by omega)
    have e1 := sign_e (N := N) hS hl hn h7
    rw [htx] at e1
    rw [bd_of e1]
    by_cases hd : isDg (pk tx n (i + 1)) = true
    · rw [if_pos hd] at hs
      cases hs
      obtain ⟨k, k1, k2, k3⟩ := dg_of hd
      have hin2 := (pkI k2 (nI_m1 (by omega))).1
      have q22 : (wI M 0 22 (nI (i + 1))).1 0 22 = nI (i + 1) := by simp [wI_g, upd_g]
      rw [k3, q22, nI_1]
      have hS2 := hS.step (j := i + 2) (by omega) (by omega)
      refine ⟨by omega, by omega, wI (wI M 0 22 (nI (i + 1))) 0 22 (nI (i + 2)), ?_, hS2⟩
      unfold badS
      rw [k3, ix_n (by omega), bit_e _ (by omega)]
      by_cases h4 : nI k < 4
      · rw [if_pos h4]; simp [h4]
      · rw [if_neg h4]; simp [h4, b01_f]
    · rw [if_neg hd] at hs; cases hs
  · rw [if_neg h98] at hs
    rw [if_neg h98]
    have h110 : pk tx n i = 110 := hp.resolve_left h98
    rw [if_pos h110] at hs
    have hin := (pkI h110 (by decide)).1
    have hS := h.step (j := i + 1) (by omega) (by omega)
    have e1 := sign_e (N := N) hS hl hn h7
    rw [htx] at e1
    rw [bd_of e1]
    have q22 : (wI M 0 22 (nI (i + 1))).1 0 22 = nI (i + 1) := by simp [wI_g, upd_g]
    split at hs
    · split at hs
      · rename_i hcmp hd
        cases hs
        obtain ⟨k, k1, k2, k3⟩ := dg_of hd
        have hin2 := pkI k2 (nI_m1 (by omega))
        rw [q22, lmul40, nI_add, nI_1, inb_n (by omega) (by omega), ix_n (by omega), if_pos rfl, hS.e6]
        have et : M0.1 6 (40 * l + (i + 1) + 1) = pk tx n (i + 2) := by
          rw [k2, ← hin2.2, ← htx]
          rfl
        rw [et, k3, add2]
        have hS2 := hS.step (j := i + 3) (by omega) (by omega)
        rw [show i + 1 + 2 = i + 3 by omega, bd_of (bits_e hN), (popc_rk w hw).2]
        refine ⟨by omega, by omega, _, ?_, hS2⟩
        unfold cntS
        rw [k3]
        by_cases c1 : pk tx n (i + 1) = 60
        · rw [if_pos c1, if_pos c1]
          by_cases c : nI (popc w) < nI k
          · rw [if_pos c]; simp [c, b01_t]
          · rw [if_neg c]; simp [c, b01_f]
        · rw [if_neg c1, if_neg c1]
          by_cases c2 : pk tx n (i + 1) = 62
          · rw [if_pos c2, if_pos c2]
            by_cases c : nI k < nI (popc w)
            · rw [if_pos c]; simp [c, b01_t]
            · rw [if_neg c]; simp [c, b01_f]
          · rw [if_neg c2, if_neg c2]
            by_cases c : nI (popc w) = nI k
            · rw [if_pos c]; simp [c, b01_t]
            · rw [if_neg c]; simp [c, b01_f]
      · cases hs
    · cases hs
end Lets
