/-! the worst world, and the best plan -/
def wwS (f : Nat → Int) (A : Nat → Bool) : Nat → Option Nat
  | 0 => none
  | n + 1 => if A n then (match wwS f A n with
    | none => some n
    | some b => if f b < f n then some n else some b) else wwS f A n
def bbS (g : Nat → Int) (P : Nat → Bool) : Nat → Option Nat
  | 0 => none
  | n + 1 => if P n then (match bbS g P n with
    | none => some n
    | some b => if g n < g b then some n else some b) else bbS g P n
def enI : Option Nat → Int32
  | none => -9
  | some w => nI w
def vaZ (f : Nat → Int) : Option Nat → Int
  | none => -9
  | some w => f w
def emp (A : Nat → Bool) : Bool := al (fun w => !A w) 16
theorem emp_t {A : Nat → Bool} : emp A = true ↔ ∀ w, w < 16 → A w = false := by
  unfold emp
  rw [al_t]
  simp
theorem emp_f {A : Nat → Bool} {w : Nat} (hw : w < 16) (h : A w = true) : emp A = false := al_f w hw (by simp [h])
theorem ww_sf {f : Nat → Int} {A : Nat → Bool} {n : Nat} (h : A n = false) : wwS f A (n + 1) = wwS f A n := by
  show (if A n then _ else _) = _
  rw [h]
  rfl
theorem ww_some {f : Nat → Int} {A : Nat → Bool} : ∀ {n b : Nat}, wwS f A n = some b → b < n ∧ A b = true := by
  intro n
  induction n with
  | zero => intro b h; cases h
  | succ n ih =>
    intro b h
    unfold wwS at h
    by_cases hA : A n = true
    · rw [if_pos hA] at h
      split at h
      · cases h; exact ⟨by omega, hA⟩
      · rename_i c hc
        split at h
        · cases h; exact ⟨by omega, hA⟩
        · cases h; have := ih hc; exact ⟨by omega, this.2⟩
    · rw [if_neg hA] at h
      have := ih h
      exact ⟨by omega, this.2⟩
theorem ww_ge {f : Nat → Int} {A : Nat → Bool} : ∀ {n v : Nat}, v < n → A v = true → ∃ b, wwS f A n = some b ∧ f v ≤ f b := by
  intro n
  induction n with
  | zero => intro v h; omega
  | succ n ih =>
    intro v hv hA
    unfold wwS
    by_cases e : v = n
    · subst e
      rw [if_pos hA]
      split
      · exact ⟨_, rfl, Int.le_refl _⟩
      · rename_i c hc
        split
        · exact ⟨_, rfl, Int.le_refl _⟩
        · exact ⟨_, rfl, by omega⟩
    · obtain ⟨b, h1, h2⟩ := ih (v := v) (by omega) hA
      rw [h1]
      split
      · dsimp only
        split
        · exact ⟨_, rfl, by omega⟩
        · exact ⟨_, rfl, h2⟩
      · exact ⟨b, rfl, h2⟩
theorem ww_none {f : Nat → Int} {A : Nat → Bool} {n : Nat} (h : ∀ w, w < n → A w = false) : wwS f A n = none := by
  cases e : wwS f A n with
  | none => rfl
  | some b => have := ww_some e; rw [h b this.1] at this; cases this.2
theorem ww_congr {f g : Nat → Int} {A A' : Nat → Bool} : ∀ n, (∀ w, w < n → A w = A' w) → (∀ w, w < n → A w = true → f w = g w) → wwS f A n = wwS g A' n := by
  intro n
  induction n with
  | zero => intro _ _; rfl
  | succ n ih =>
    intro h1 h2
    unfold wwS
    rw [← h1 n (by omega), ← ih (fun w hw => h1 w (by omega)) (fun w hw => h2 w (by omega))]
    by_cases hA : A n = true
    · rw [if_pos hA, if_pos hA]
      cases e : wwS f A n with
      | none => rfl
      | some b =>
        have := ww_some e
        dsimp only
        rw [h2 n (by omega) hA, h2 b (by omega) this.2]
    · rw [if_neg hA, if_neg hA]
theorem va_congr {f g : Nat → Int} {A A' : Nat → Bool} {n : Nat} (h1 : ∀ w, w < n → A w = A' w) (h2 : ∀ w, w < n → A w = true → f w = g w) : vaZ f (wwS f A n) = vaZ g (wwS g A' n) := by
  rw [← ww_congr n h1 h2]
  cases e : wwS f A n with
  | none => rfl
  | some b => have := ww_some e; exact h2 b this.1 this.2
theorem bb_some {g : Nat → Int} {P : Nat → Bool} : ∀ {n b : Nat}, bbS g P n = some b → b < n ∧ P b = true := by
  intro n
  induction n with
  | zero => intro b h; cases h
  | succ n ih =>
    intro b h
    unfold bbS at h
    by_cases hA : P n = true
    · rw [if_pos hA] at h
      split at h
      · cases h; exact ⟨by omega, hA⟩
      · rename_i c hc
        split at h
        · cases h; exact ⟨by omega, hA⟩
        · cases h; have := ih hc; exact ⟨by omega, this.2⟩
    · rw [if_neg hA] at h
      have := ih h
      exact ⟨by omega, this.2⟩
theorem bb_congr {f g : Nat → Int} {P P' : Nat → Bool} : ∀ n, (∀ w, w < n → P w = P' w) → (∀ w, w < n → P w = true → f w = g w) → bbS f P n = bbS g P' n := by
  intro n
  induction n with
  | zero => intro _ _; rfl
  | succ n ih =>
    intro h1 h2
    unfold bbS
    rw [← h1 n (by omega), ← ih (fun w hw => h1 w (by omega)) (fun w hw => h2 w (by omega))]
    by_cases hA : P n = true
    · rw [if_pos hA, if_pos hA]
      cases e : bbS f P n with
      | none => rfl
      | some b =>
        have := bb_some e
        dsimp only
        rw [h2 n (by omega) hA, h2 b (by omega) this.2]
    · rw [if_neg hA, if_neg hA]
/-- what asking for costs may change -/
def LA : List Nat := [38, 39, 40, 41, 42, 43, 44, 45, 46, 47, 48, 49]
def Ka (M M' : Mm) : Prop := Fr LA M M' ∧ CacheC M'
theorem Ka.kc {M M' : Mm} (h : Ka M M') : Kc M M' := ⟨fun b hb => h.1.1 b (by unfold LA; simp; omega), h.2⟩
theorem Ka.rf {M : Mm} (h : CacheC M) : Ka M M := ⟨Fr.rf _ _, h⟩
theorem Ka.tr {M M1 M2 : Mm} (h1 : Ka M M1) (h2 : Ka M1 M2) : Ka M M2 := ⟨h1.1.tr h2.1, h2.2⟩
theorem Ka.e2 {M M' : Mm} (h : Ka M M') : M'.1 2 = M.1 2 := h.1.1 2 (by unfold LA; simp)
theorem Ka.e1 {M M' : Mm} (h : Ka M M') : M'.1 1 = M.1 1 := h.1.1 1 (by unfold LA; simp)
theorem enI_n : (enI none) = -9 := rfl
theorem en_neg {o : Option Nat} (h : ∀ w, o = some w → w < 2 ^ 31) : (enI o = -9) = (o = none) := by
  cases o with
  | none => exact propext ⟨fun _ => rfl, fun _ => rfl⟩
  | some w => exact propext ⟨fun e => by
      have e' : nI w = -9 := e
      have := nI_pos (h w rfl)
      rw [e'] at this
      exact absurd this (by decide), fun e => by cases e⟩
theorem en_lt {o : Option Nat} (h : ∀ w, o = some w → w < 2 ^ 31) : (enI o < 0) = (o = none) := by
  cases o with
  | none => exact propext ⟨fun _ => rfl, fun _ => by decide⟩
  | some w => exact propext ⟨fun e => absurd e (nI_pos (h w rfl)), fun e => by cases e⟩
theorem nI_n9 {b : Nat} (h : b < 2 ^ 31) : ¬ nI b = -9 := fun q => by
  have := nI_pos h
  rw [q] at this
  exact absurd this (by decide)
section Worst
variable {N : Nat} {M : Mm} {A : Nat → Bool} {W : Int32}
theorem ask_e (hN : 100000 ≤ N) {p w : Nat} (hn : NumB (M.1 2)) (hp : p < 256) (hw : w < 16) (hc : CacheC M) :
    ∃ x M', f_X3_of N (nI p) (nI w) M = some (x, M') ∧ x.toInt = cstZ (M.1 2) p w ∧ Ka M M' ∧ M'.1 38 4 = M.1 38 4 := by
  obtain ⟨x, M', a, b, c, d, e⟩ := of_e hN hn hp hw hc
  exact ⟨x, M', a, b, ⟨c, e⟩, d⟩
theorem worst_e (hN : 100000 ≤ N) {p : Nat} (hn : NumB (M.1 2)) (hp : p < 256) (hc : CacheC M) (hW : isM W A) :
    ∃ M', f_X3_worstWorld N (nI p) W M = some (enI (wwS (cstZ (M.1 2) p) A 16), M') ∧ Ka M M' ∧ M'.1 38 4 = M.1 38 4 := by
  obtain ⟨s', M', rec, ⟨y, hs, hy, hK, h4⟩, he⟩ := itr_go (B := B_X3_worstWorld_10 N (nI p) W fun z3 M4 => some (z3, M4)) (fun j s M' => ∃ y : Int32, s = (enI (wwS (cstZ (M.1 2) p) A j), y, nI j) ∧ y.toInt = vaZ (cstZ (M.1 2) p) (wwS (cstZ (M.1 2) p) A j) ∧ Ka M M' ∧ M'.1 38 4 = M.1 38 4) 16
    (fun rec j s M1 hj ⟨y, hs, hy, hK, h4⟩ => by
      subst hs
      unfold B_X3_worstWorld_10
      dsimp only
      rw [if_pos (by rw [lt16 (by omega)]; exact hj), bit_e W (by omega), hW.at hj, nI_1]
      cases hA : A j
      · rw [if_pos b01_f]
        refine ⟨_, _, ⟨y, rfl, ?_, hK, h4⟩, ?_⟩
        · unfold wwS; rw [hA]; exact hy
        · rw [ww_sf hA]
      · rw [if_neg (show ¬ b01 true = 0 by decide)]
        obtain ⟨x, M2, a1, a2, a3, a4⟩ := ask_e hN (M := M1) (p := p) (w := j) (by rw [hK.e2]; exact hn) hp hj hK.2
        rw [hK.e2] at a2
        rw [bd_of a1]
        have b0 := (cstZ_b hn hp hj).1
        cases e : wwS (cstZ (M.1 2) p) A j with
        | none =>
          rw [e] at hy
          rw [if_pos (by rw [toI_lt, hy, a2]; show (-9 : Int) < _; omega)]
          refine ⟨_, _, ⟨x, rfl, ?_, hK.tr a3, a4.trans h4⟩, ?_⟩
          · unfold wwS; rw [hA, e]; exact a2
          · unfold wwS; rw [hA, e]; rfl
        | some b =>
          rw [e] at hy
          by_cases hlt : cstZ (M.1 2) p b < cstZ (M.1 2) p j
          · rw [if_pos (by rw [toI_lt, hy, a2]; exact hlt)]
            refine ⟨_, _, ⟨x, rfl, ?_, hK.tr a3, a4.trans h4⟩, ?_⟩
            · unfold wwS; rw [hA, e]; dsimp only; rw [if_pos rfl, if_pos hlt]; exact a2
            · unfold wwS; rw [hA, e]; dsimp only; rw [if_pos rfl, if_pos hlt]; rfl
          · rw [if_neg (by rw [toI_lt, hy, a2]; exact hlt)]
            refine ⟨_, _, ⟨y, rfl, ?_, hK.tr a3, a4.trans h4⟩, ?_⟩
            · unfold wwS; rw [hA, e]; dsimp only; rw [if_pos rfl, if_neg hlt]; exact hy
            · unfold wwS; rw [hA, e]; dsimp only; rw [if_pos rfl, if_neg hlt]) N 0 ((-9), (-9), 0) M (by omega) (by omega) ⟨-9, by rw [nI_0]; rfl, rfl, Ka.rf hc, rfl⟩
  subst hs
  unfold f_X3_worstWorld
  rw [he]
  unfold B_X3_worstWorld_10
  dsimp only
  rw [if_neg (show ¬ nI 16 < 16 by decide)]
  exact ⟨M', rfl, hK, h4⟩
/-- what a plan costs in a world that may be none -/
theorem askO_e (hN : 100000 ≤ N) {p : Nat} (hn : NumB (M.1 2)) (hp : p < 256) (hc : CacheC M) {o : Option Nat} (ho : ∀ w, o = some w → w < 16) :
    ∃ x M', f_X3_of N (nI p) (enI o) M = some (x, M') ∧ x.toInt = vaZ (cstZ (M.1 2) p) o ∧ Ka M M' ∧ M'.1 38 4 = M.1 38 4 := by
  cases o with
  | none =>
    refine ⟨-9, M, ?_, rfl, Ka.rf hc, rfl⟩
    unfold f_X3_of
    rw [if_neg (nI_pos (by omega)), if_pos (by rw [lt256 (by omega)]; exact hp), if_pos (by decide)]
  | some w => exact ask_e hN hn hp (ho w rfl) hc
theorem worstO_e (hN : 100000 ≤ N) {p : Nat} (hn : NumB (M.1 2)) (hp : p < 256) (hc : CacheC M) (hW : isM W A) :
    ∃ x M', f_X3_worstOver N (nI p) W M = some (x, M') ∧ x.toInt = vaZ (cstZ (M.1 2) p) (wwS (cstZ (M.1 2) p) A 16) ∧ Ka M M' ∧ M'.1 38 4 = M.1 38 4 := by
  obtain ⟨M1, a1, a2, a3⟩ := worst_e hN hn hp hc hW
  obtain ⟨x, M2, b1, b2, b3, b4⟩ := askO_e hN (M := M1) (p := p) (o := wwS (cstZ (M.1 2) p) A 16) (by rw [a2.e2]; exact hn) hp a2.2 (fun w h => (ww_some h).1)
  rw [a2.e2] at b2
  refine ⟨x, M2, ?_, b2, a2.tr b3, b4.trans a3⟩
  unfold f_X3_worstOver
  rw [bd_of a1, bd_of b1]
/-- the worst of a plan over a set -/
noncomputable def wvZ (nu : Nat → Int32) (A : Nat → Bool) (p : Nat) : Int := vaZ (cstZ nu p) (wwS (cstZ nu p) A 16)
noncomputable def bpS (nu : Nat → Int32) (t : Int32) (A : Nat → Bool) : Option Nat := if emp A then none else bbS (wvZ nu A) (plS t) 256
theorem bp_some {nu : Nat → Int32} {t : Int32} {A : Nat → Bool} {b : Nat} (h : bpS nu t A = some b) : b < 256 ∧ plS t b = true := by
  unfold bpS at h
  split at h
  · cases h
  · exact bb_some h
theorem best_e (hN : 100000 ≤ N) (hn : NumB (M.1 2)) (hc : CacheC M) (hW : isM W A) :
    ∃ x M', f_X3_bestOver N W M = some (x, M') ∧ x.toInt = vaZ (wvZ (M.1 2) A) (bpS (M.1 2) (M.1 1 0) A) ∧ M'.1 38 4 = enI (bpS (M.1 2) (M.1 1 0) A) ∧ Ka M M' := by
  have hwi : ∀ (Mx : Mm) (x : Int32), CacheC Mx → CacheC (wI Mx 38 4 x) := by
    intro Mx x h h3
    have e : (wI Mx 38 4 x).1 38 3 = Mx.1 38 3 := by simp [wI_g, upd_g]
    rw [e] at h3
    have := h h3
    intro p w hp hw
    have e2 : (wI Mx 38 4 x).1 39 = Mx.1 39 := by rw [wI_g, if_neg (by omega)]
    have e3 : (wI Mx 38 4 x).1 2 = Mx.1 2 := by rw [wI_g, if_neg (by omega)]
    rw [e2, e3]
    exact this p w hp hw
  have hwk : ∀ (Mx : Mm) (x : Int32), Ka M Mx → Ka M (wI Mx 38 4 x) := fun Mx x h => ⟨h.1.wI (by unfold LA; simp), hwi Mx x h.2⟩
  unfold f_X3_bestOver
  simp only [lt_eq]
  cases hE : emp A
  · -- there are some
    obtain ⟨w0, hw0, hA0⟩ : ∃ w, w < 16 ∧ A w = true := by
      obtain ⟨k, a, b, -⟩ := al_first hE
      exact ⟨k, a, by simpa using b⟩
    have hW0 : ¬ W = 0 := by
      rw [hW.zero]
      intro h
      rw [h w0 hw0] at hA0; cases hA0
    obtain ⟨s', M', rec, ⟨x, h, hs, hx, h4, hh, hK⟩, he⟩ := itr_go (B := B_X3_bestOver_15 N W fun z19 M20 => some (z19, M20)) (fun j s M' => ∃ x h : Int32, s = (x, h, nI j) ∧ x.toInt = vaZ (wvZ (M.1 2) A) (bbS (wvZ (M.1 2) A) (plS (M.1 1 0)) j) ∧ M'.1 38 4 = enI (bbS (wvZ (M.1 2) A) (plS (M.1 1 0)) j) ∧ (∀ b, bbS (wvZ (M.1 2) A) (plS (M.1 1 0)) j = some b → ∃ w, w < 16 ∧ A w = true ∧ h = nI w) ∧ Ka M M') 256
      (fun rec j s M1 hj ⟨x, h, hs, hx, h4, hh, hK⟩ => by
        subst hs
        unfold B_X3_bestOver_15
        dsimp only
        rw [if_pos (by rw [lt256 (by omega)]; exact hj), if_neg hW0, bd_of (cPl hN _), isPl_n hj, hK.e1, nI_1]
        cases hP : plS (M.1 1 0) j
        · rw [if_pos b01_f]
          refine ⟨_, _, ⟨x, h, rfl, ?_, ?_, ?_, hK⟩, rfl⟩
          · unfold bbS; rw [hP]; exact hx
          · unfold bbS; rw [hP]; exact h4
          · unfold bbS; rw [hP]; exact hh
        · rw [if_neg (show ¬ b01 true = 0 by decide)]
          simp only [lt_eq]
          -- how the plan is weighed
          have key : ∀ Mx : Mm, Ka M Mx → Mx.1 38 4 = M1.1 38 4 → ∃ s' M', (∃ x h : Int32, s' = (x, h, nI (j + 1)) ∧ x.toInt = vaZ (wvZ (M.1 2) A) (bbS (wvZ (M.1 2) A) (plS (M.1 1 0)) (j + 1)) ∧ M'.1 38 4 = enI (bbS (wvZ (M.1 2) A) (plS (M.1 1 0)) (j + 1)) ∧ (∀ b, bbS (wvZ (M.1 2) A) (plS (M.1 1 0)) (j + 1) = some b → ∃ w, w < 16 ∧ A w = true ∧ h = nI w) ∧ Ka M M') ∧
              (bd (f_X3_worstWorld N (nI j) W Mx) fun r7 M8 => bd (f_X3_of N (nI j) r7 M8) fun r9 M10 =>
                if M10.1 38 4 = -9 then rec (r9, r7, nI (j + 1)) (wI M10 38 4 (nI j)) else if r9 < x then rec (r9, r7, nI (j + 1)) (wI M10 38 4 (nI j)) else rec (x, h, nI (j + 1)) M10) = rec s' M' := by
            intro Mx hKx h4x
            obtain ⟨Ma, a1, a2, a3⟩ := worst_e hN (M := Mx) (p := j) (by rw [hKx.e2]; exact hn) hj hKx.2 hW
            obtain ⟨y, Mb, b1, b2, b3, b4⟩ := askO_e hN (M := Ma) (p := j) (o := wwS (cstZ (Mx.1 2) j) A 16) (by rw [a2.e2, hKx.e2]; exact hn) hj a2.2 (fun w h => (ww_some h).1)
            have hKb := hKx.tr (a2.tr b3)
            rw [a2.e2, hKx.e2] at b2
            rw [bd_of a1, bd_of b1, b4, a3, h4x]
            obtain ⟨v, hv1, hv2⟩ := ww_ge (f := cstZ (M.1 2) j) hw0 hA0
            have hv3 := ww_some hv1
            have hy : y.toInt = wvZ (M.1 2) A j := b2
            have e4 : ∀ z : Int32, (wI Mb 38 4 z).1 38 4 = z := fun z => by simp [wI_g, upd_g]
            have take : (bbS (wvZ (M.1 2) A) (plS (M.1 1 0)) (j + 1) = some j) → ∃ s' M', (∃ x h : Int32, s' = (x, h, nI (j + 1)) ∧ x.toInt = vaZ (wvZ (M.1 2) A) (bbS (wvZ (M.1 2) A) (plS (M.1 1 0)) (j + 1)) ∧ M'.1 38 4 = enI (bbS (wvZ (M.1 2) A) (plS (M.1 1 0)) (j + 1)) ∧ (∀ b, bbS (wvZ (M.1 2) A) (plS (M.1 1 0)) (j + 1) = some b → ∃ w, w < 16 ∧ A w = true ∧ h = nI w) ∧ Ka M M') ∧ rec (y, enI (wwS (cstZ (Mx.1 2) j) A 16), nI (j + 1)) (wI Mb 38 4 (nI j)) = rec s' M' := by
              intro hb
              refine ⟨_, _, ⟨y, _, rfl, ?_, ?_, fun b _ => ⟨v, hv3.1, hv3.2, ?_⟩, hwk _ _ hKb⟩, rfl⟩
              · rw [hb]; exact hy
              · rw [hb, e4]; rfl
              · rw [hKx.e2, hv1]; rfl
            cases e : bbS (wvZ (M.1 2) A) (plS (M.1 1 0)) j with
            | none =>
              rw [if_pos (by rw [h4, e]; rfl)]
              exact take (by unfold bbS; rw [hP, e]; rfl)
            | some b =>
              have hb := bb_some e
              rw [if_neg (by rw [h4, e]; exact nI_n9 (by omega))]
              rw [e] at hx
              by_cases hlt : wvZ (M.1 2) A j < wvZ (M.1 2) A b
              · rw [if_pos (by rw [toI_lt, hy, hx]; exact hlt)]
                exact take (by unfold bbS; rw [hP, e]; dsimp only; rw [if_pos rfl, if_pos hlt])
              · rw [if_neg (by rw [toI_lt, hy, hx]; exact hlt)]
                have eb : bbS (wvZ (M.1 2) A) (plS (M.1 1 0)) (j + 1) = some b := by unfold bbS; rw [hP, e]; dsimp only; rw [if_pos rfl, if_neg hlt]
                refine ⟨_, _, ⟨x, h, rfl, ?_, ?_, ?_, hKb⟩, rfl⟩
                · rw [eb]; exact hx
                · rw [eb, b4, a3, h4x, h4, e]
                · rw [eb, ← e]; exact hh
          -- a plan that is no better at one of the worlds is no better
          have skip : ∀ b, bbS (wvZ (M.1 2) A) (plS (M.1 1 0)) j = some b → wvZ (M.1 2) A b ≤ wvZ (M.1 2) A j → ∀ Mx : Mm, Ka M Mx → Mx.1 38 4 = M1.1 38 4 → ∃ s' M', (∃ x h : Int32, s' = (x, h, nI (j + 1)) ∧ x.toInt = vaZ (wvZ (M.1 2) A) (bbS (wvZ (M.1 2) A) (plS (M.1 1 0)) (j + 1)) ∧ M'.1 38 4 = enI (bbS (wvZ (M.1 2) A) (plS (M.1 1 0)) (j + 1)) ∧ (∀ b, bbS (wvZ (M.1 2) A) (plS (M.1 1 0)) (j + 1) = some b → ∃ w, w < 16 ∧ A w = true ∧ h = nI w) ∧ Ka M M') ∧ rec (x, h, nI (j + 1)) Mx = rec s' M' := by
            intro b e hle Mx hKx h4x
            have eb : bbS (wvZ (M.1 2) A) (plS (M.1 1 0)) (j + 1) = some b := by unfold bbS; rw [hP, e]; dsimp only; rw [if_pos rfl, if_neg (by omega)]
            refine ⟨_, _, ⟨x, h, rfl, ?_, ?_, ?_, hKx⟩, rfl⟩
            · rw [eb, ← e]; exact hx
            · rw [eb, h4x, h4, e]
            · rw [eb, ← e]; exact hh
          cases e : bbS (wvZ (M.1 2) A) (plS (M.1 1 0)) j with
          | none =>
            rw [if_pos (by rw [h4, e]; rfl)]
            exact key M1 hK rfl
          | some b =>
            have hb := bb_some e
            rw [if_neg (by rw [h4, e]; exact nI_n9 (by omega))]
            obtain ⟨y, y1, y2⟩ := fare_e hN (M := M1) (p := j) (by rw [hK.e2]; exact hn) hj
            rw [hK.e2] at y2
            rw [bd_of y1]
            obtain ⟨w, hw, hAw, rfl⟩ := hh b e
            have hx' : x.toInt = wvZ (M.1 2) A b := by rw [e] at hx; exact hx
            obtain ⟨v, hv1, hv2⟩ := ww_ge (f := cstZ (M.1 2) j) hw hAw
            have hvj : wvZ (M.1 2) A j = cstZ (M.1 2) j v := by unfold wvZ; rw [hv1]; rfl
            have cb := cstZ_b hn hj hw
            by_cases hf : y < x
            · rw [if_pos hf]
              obtain ⟨z, Mz, z1, z2, z3, z4⟩ := ask_e hN (M := M1) (p := j) (w := w) (by rw [hK.e2]; exact hn) hj hw hK.2
              rw [hK.e2] at z2
              rw [bd_of z1]
              by_cases hz : z < x
              · rw [if_pos hz]
                exact key Mz (hK.tr z3) z4
              · rw [if_neg hz]
                rw [toI_lt] at hz
                exact skip b e (by omega) Mz (hK.tr z3) z4
            · rw [if_neg hf]
              rw [toI_lt] at hf
              exact skip b e (by omega) M1 hK rfl) N 0 ((-9), (-9), 0) (wI M 38 4 (-9)) (by omega) (by omega) ⟨-9, -9, by rw [nI_0], rfl, by simp [wI_g, upd_g, bbS, enI], fun b hb => (nomatch hb), hwk _ _ (Ka.rf hc)⟩
    subst hs
    rw [he]
    unfold B_X3_bestOver_15
    dsimp only
    rw [if_neg (show ¬ nI 256 < 256 by decide)]
    have eb : bpS (M.1 2) (M.1 1 0) A = bbS (wvZ (M.1 2) A) (plS (M.1 1 0)) 256 := by unfold bpS; rw [hE]; rfl
    exact ⟨x, M', rfl, by rw [eb]; exact hx, by rw [eb]; exact h4, hK⟩
  · have hW0 : W = 0 := by
      rw [hW.zero]
      exact emp_t.mp hE
    have eb : bpS (M.1 2) (M.1 1 0) A = none := by unfold bpS; rw [hE]; rfl
    obtain ⟨N', rfl⟩ : ∃ N', N = N' + 1 := ⟨N - 1, by omega⟩
    rw [itr_s]
    unfold B_X3_bestOver_15
    dsimp only
    rw [if_pos (by decide), if_pos hW0, eb]
    exact ⟨-9, _, rfl, rfl, by simp [wI_g, upd_g, enI], hwk _ _ (Ka.rf hc)⟩
end Worst
