theorem itr_firstl {B : (Int32 → Mm → Rs) → Int32 → Mm → Rs} {M : Mm} {g : Nat → Bool} {R0 : Nat → Rs} {R1 : Rs} {e lo : Nat} (hs : ∀ rec j, lo ≤ j → j < e → B rec (nI j) M = if g j then rec (nI (j + 1)) M else R0 j) (he : ∀ rec, B rec (nI e) M = R1) : ∀ (d i n : Nat), lo ≤ i → i + d = e → d < n → itr B n (nI i) M = match fgo g i d with | none => R1 | some k => R0 k := by
  intro d
  induction d with
  | zero =>
    intro i n hl h hn
    obtain ⟨n, rfl⟩ : ∃ n', n = n' + 1 := ⟨n - 1, by omega⟩
    have : i = e := by omega
    subst this
    rw [itr_s, he]
    rfl
  | succ d ih =>
    intro i n hl h hn
    obtain ⟨n, rfl⟩ : ∃ n', n = n' + 1 := ⟨n - 1, by omega⟩
    rw [itr_s, hs _ i hl (by omega)]
    unfold fgo
    cases g i
    · rfl
    · exact ih (i + 1) n (by omega) (by omega) (by omega)
section None2
variable {N : Nat} {M M1 M2 : Mm}
theorem lst_lt {nu : Nat → Int32} {t W : Int32} {mk : Int} {n : Nat} : lst nu t W mk n < 65536 ∧ (lst nu t W mk n ≠ 0 → PN nu t W mk n (lst nu t W mk n) = true) := by
  unfold lst
  cases e : fgo (fun y => !PN nu t W mk n y) 1 65535 with
  | none => exact ⟨by decide, fun h => absurd rfl h⟩
  | some y =>
    have q := fgo_some _ _ _ e
    exact ⟨by dsimp only; omega, fun _ => by simpa using q.2.2⟩
theorem lst_0 {nu : Nat → Int32} {t W : Int32} {mk : Int} {n : Nat} (h : ∀ y, 1 ≤ y → y < 65536 → PN nu t W mk n y = false) : lst nu t W mk n = 0 := by
  unfold lst
  cases e : fgo (fun y => !PN nu t W mk n y) 1 65535 with
  | none => rfl
  | some y =>
    have q := fgo_some _ _ _ e
    have := h y (by omega) (by omega)
    rw [this] at q
    simp at q
theorem fgo_all {g : Nat → Bool} (h : ∀ n, g n = true) : ∀ d i, fgo g i d = none := by
  intro d
  induction d with
  | zero => intro i; rfl
  | succ d ih => intro i; unfold fgo; rw [h i]; exact ih (i + 1)
theorem step_none (hN : 100000 ≤ N) (H : Rel M1 M2) (a c : Int32) : Ans (f_X11_none N a c M1) (f_X12_none N a c M2) := by
  unfold f_X11_none f_X12_none
  rw [bd_of (in01 c)]
  simp only [lt_eq]
  by_cases hc : c = 0 ∨ c = 1
  · have ej : ∀ R : Rs, (if c = 0 then R else if c = 1 then R else bd (f_X11_refuse N (-2) M1) fun r14 M15 => some (r14, M15)) = R := fun R => by
      by_cases c0 : c = 0
      · rw [if_pos c0]
      · rw [if_neg c0, if_pos (hc.resolve_left c0)]
    rw [ej, if_pos hc, if_neg (show ¬ (1 : Int32) = 0 by decide)]
    rw [show (f_X12_outOf N a.toInt64 0 99999 M2) = some (if a < 0 then -4 else if 99999 < a then -6 else 0, M2) from out_lit a 0 99999, bd_s]
    by_cases a0 : a < 0
    · rw [if_pos a0, if_pos a0, if_neg (show ¬ (-4 : Int32) = 0 by decide)]; exact ref4 H
    rw [if_neg a0, if_neg a0]
    by_cases a9 : 99999 < a
    · rw [if_pos a9, if_pos a9, if_neg (show ¬ (-6 : Int32) = 0 by decide)]; exact ref6 H
    rw [if_neg a9, if_neg a9, if_pos rfl]
    obtain ⟨n, hn, hnl⟩ := H.nl
    obtain ⟨W, w1, w2⟩ := set_e hN hn hnl
    obtain ⟨Mb, b1, b2, b3⟩ := H.finds hN
    have hnu := H.num
    rw [bd_of w1, bd_of b1, mall_e hN w2 (fun w hw => (b3.i.1 w hw).2), mnone_e hN b3.fs w2]
    have km : Km M1 M2 Mb := b2.km b3.2.2
    -- where the class sees at once that there are none
    have early : (∀ n, lst (M1.1 2) (M1.1 1 0) W a.toInt n = 0) → ∀ Mx : Mm, Kc M1 Mx → Ans (some (-9, Mx)) (match fgo (fun n => decide (lst (M1.1 2) (M1.1 1 0) W a.toInt n = 0)) 1 3 with | none => some (-9, Mb) | some n => if c = 0 then some (nI n, Mb) else some (nI (lst (M1.1 2) (M1.1 1 0) W a.toInt n), Mb)) := by
      intro h Mx kc
      rw [fgo_all (fun n => by rw [h n]; rfl)]
      exact Ans.q H rfl rfl rfl kc km
    unfold f_X0_fewest
    by_cases hW : W = 0
    · rw [if_pos hW, bd_s, if_pos rfl]
      refine early (fun n => lst_0 (fun y h1 h2 => ?_)) M1 (Kc.rf H.2.2.2.1)
      unfold PN
      have : ¬ nI y &&& (W ^^^ (-1)) = 0 := by
        rw [hW]
        intro q
        have e : nI y = 0 := b_ext (fun i hi => by
          rw [b_0]
          cases hb : bt (nI y) i
          · rfl
          · have := sub_e.mp q i hi hb
            rw [b_0] at this
            cases this)
        rw [eq0 (by omega)] at e
        omega
      rw [decide_eq_false this]; rfl
    · rw [if_neg hW]
      obtain ⟨x, Ma, x1, x2, x3, x4⟩ := best_e hN hnu H.2.2.2.1 w2
      rw [bd_of x1]
      have Sne : emp (setS M1 (M1.1 2 42)) = false := by
        cases q : emp (setS M1 (M1.1 2 42))
        · rfl
        · rw [w2.zero] at hW
          exact absurd (emp_t.mp q) hW
      obtain ⟨k, kb, kp, kP, kv, -, -⟩ := bv_some hnu (t := M1.1 1 0) Sne
      rw [kb] at x2
      have x2' : x.toInt = wvZ (M1.1 2) (setS M1 (M1.1 2 42)) k := x2
      by_cases hm : a < x
      · rw [if_pos hm]
        have e2 : Ma.1 2 = M1.1 2 := x4.e2
        have e1 : Ma.1 1 = M1.1 1 := x4.e1
        obtain ⟨Mc, f1, f2, f3, f4⟩ := find_e hN (M := Ma) (mk := a) (by rw [e2]; exact hnu) w2 x4.2
        rw [e2, e1] at f4
        rw [bd_of f1]
        have key := itr_firstl (lo := 1) (B := B_X0_fewest_26 N W fun _ M8 => some (0, M8)) (M := Mc) (g := fun n => decide (lst (M1.1 2) (M1.1 1 0) W a.toInt n = 0)) (R0 := fun n => some (nI (lst (M1.1 2) (M1.1 1 0) W a.toInt n), Mc)) (R1 := some (0, Mc)) (e := 4)
          (fun rec n hn0 hn => by
            unfold B_X0_fewest_26
            · have l := (lst_lt (nu := M1.1 2) (t := M1.1 1 0) (W := W) (mk := a.toInt) (n := n)).1
              rw [if_neg (show ¬ 3 < nI n by rw [gt3 (by omega)]; omega), bd_of (fewl_e hN w2 f4 (show 1 ≤ n by omega) (show n ≤ 3 by omega)), nI_1]
              by_cases q : lst (M1.1 2) (M1.1 1 0) W a.toInt n = 0
              · rw [if_pos (by rw [eq0 (by omega)]; exact q), if_pos (by simp [q])]
              · rw [if_neg (by rw [eq0 (by omega)]; exact q), if_neg (by simp [q])])
          (fun rec => by
            unfold B_X0_fewest_26
            rw [if_pos (show (3 : Int32) < nI 4 by decide)]) 3 1 N (by omega) (by omega) (by omega)
        have key' : itr (B_X0_fewest_26 N W fun _ M8 => some (0, M8)) N 1 Mc = _ := key
        rw [key']
        have kc : Kc M1 Mc := by
          refine ⟨fun b hb => ?_, f3⟩
          rw [f2.1 b (by unfold LA; simp; omega), x4.1.1 b (by unfold LA; simp; omega)]
        cases e : fgo (fun n => decide (lst (M1.1 2) (M1.1 1 0) W a.toInt n = 0)) 1 3 with
        | none =>
          dsimp only
          rw [bd_s, if_pos rfl]
          exact Ans.q H rfl rfl rfl kc km
        | some j =>
          have q := fgo_some _ _ _ e
          have l := lst_lt (nu := M1.1 2) (t := M1.1 1 0) (W := W) (mk := a.toInt) (n := j)
          have hne : lst (M1.1 2) (M1.1 1 0) W a.toInt j ≠ 0 := by simpa using q.2.2
          have hP := l.2 hne
          unfold PN at hP
          simp only [Bool.and_eq_true, decide_eq_true_eq] at hP
          have pr := pc_rk l.1
          dsimp only
          rw [bd_s, if_neg (by rw [eq0 (by omega)]; exact hne)]
          by_cases c0 : c = 0
          · rw [if_pos c0, if_pos c0, bd_of (bc_e pr.2.2), pr.1, hP.1.2]
            exact Ans.q H rfl rfl rfl kc km
          · rw [if_neg c0, if_neg c0]
            exact Ans.q H rfl rfl rfl kc km
      · rw [if_neg hm, bd_s, if_pos rfl]
        refine early (fun n => lst_0 (fun y h1 h2 => ?_)) Ma x4.kc
        -- the best plan bears them all
        unfold PN
        by_cases hs : nI y &&& (W ^^^ (-1)) = 0
        · have : NF (M1.1 2) (M1.1 1 0) a.toInt y = false := by
            unfold NF
            refine al_f k kp ?_
            have : al (fun w => !bt (nI y) w || decide (cstZ (M1.1 2) k w ≤ a.toInt)) 16 = true := by
              rw [al_t]
              intro w hw
              cases hb : bt (nI y) w
              · rfl
              · have hS : setS M1 (M1.1 2 42) w = true := by rw [← w2.at hw]; exact sub_e.mp hs w (by omega) hb
                obtain ⟨v, v1, v2⟩ := ww_ge (f := cstZ (M1.1 2) k) (n := 16) hw hS
                have : wvZ (M1.1 2) (setS M1 (M1.1 2 42)) k = cstZ (M1.1 2) k v := by unfold wvZ; rw [v1]; rfl
                rw [toI_lt, x2', this] at hm
                have : cstZ (M1.1 2) k w ≤ a.toInt := by omega
                simp [this]
            rw [this, kP]; rfl
          rw [this, Bool.and_false]
        · rw [decide_eq_false hs]; rfl
  · rw [if_neg (fun q => hc (Or.inl q)), if_neg (fun q => hc (Or.inr q)), if_neg hc, if_pos rfl]
    exact ref2 H
end None2
