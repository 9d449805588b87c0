/-! flat -/
def lb (q : Nat → Bool) : Nat → Nat
  | 0 => 0
  | n + 1 => if q n then n else lb q n
theorem lb_le (q : Nat → Bool) : ∀ n, lb q n ≤ n := by
  intro n
  induction n with
  | zero => exact Nat.le_refl _
  | succ n ih => unfold lb; split <;> omega
def lbI (q : Nat → Bool) (j : Nat) : Int32 := if j = 0 then -9 else nI (lb q j)
theorem lbI_s (q : Nat → Bool) (j : Nat) : lbI q (j + 1) = nI (lb q (j + 1)) := if_neg (by omega)
theorem lbI_n {q : Nat → Bool} {j : Nat} (h : ¬ j = 0) : lbI q j = nI (lb q j) := if_neg h
section Flat
variable {N : Nat} {M1 M2 : Mm}
theorem step_flat (hN : 100000 ≤ N) (H : Rel M1 M2) : Ans (f_X11_flat N M1) (f_X12_flat N M2) := by
  unfold f_X11_flat f_X12_flat
  obtain ⟨n, hn, hnl⟩ := H.nl
  obtain ⟨V, v1, v2⟩ := with_e hN hn hnl 0
  obtain ⟨W, w1, w2⟩ := set_e hN hn hnl
  obtain ⟨x, Ma, a1, a2, a3, a4⟩ := best_e hN H.num H.2.2.2.1 w2
  obtain ⟨Mb, b1, b2, b3⟩ := H.finds hN
  obtain ⟨y, Mc, c1, c2, c3, c4, c5⟩ := b3.fs.best hN 0 0
  rw [bv_congr (al00 _)] at c2
  rw [bp_congr (al00 _)] at c3
  have exy : x = y := Int32.toInt_inj.mp (by rw [a2, c2]; rfl)
  subst exy
  rw [bd_of v1, bd_of w1, bd_of a1, bd_of b1, bd_of c1]
  by_cases h9 : x = -9
  · rw [if_pos h9, if_pos h9]
    exact Ans.q H rfl rfl rfl a4.kc ((b2.tr c4).km c5.fnd.2.2)
  · rw [if_neg h9, if_neg h9]
    have hE : emp (setS M1 (M1.1 2 42)) = false := by
      cases hE : emp (setS M1 (M1.1 2 42))
      · rfl
      · refine absurd ?_ h9
        rw [toI_eq, c2, (bv_emp hE).2]; rfl
    obtain ⟨p, p1, p2, p3, -⟩ := bv_some H.num (t := M1.1 1 0) hE
    rw [p1] at a3 c3
    have a3' : Ma.1 38 4 = nI p := a3
    have c3' : Mc.1 0 34 = nI p := c3
    rw [a3', c3']
    obtain ⟨Md, d1, d2, d3, d4⟩ := c5.draw hN 0
    obtain ⟨z, Me, e1, e2, e3, e4, e5, -⟩ := d2.worst hN p2 p3 0 0
    rw [wv_fun (al00 _)] at e2
    rw [bd_of d1, bd_of e1]
    have hKe : Kb Lq M2 Me := ((b2.tr c4).tr d3).tr e4
    cases hE0 : emp (setS M1 0)
    · -- some world is calm
      have hV0 : ¬ V = 0 := by rw [v2.zero, ← emp_t, hE0]; decide
      have hz9 : ¬ z = -9 := by
        have := wv_pos H.num p2 hE0
        rw [toI_eq, e2]
        have : ((-9 : Int32)).toInt = -9 := rfl
        omega
      rw [if_neg hV0]
      obtain ⟨u, Mf, f1, f2, f3, f4⟩ := worstO_e hN (M := Ma) (p := p) (by rw [a4.e2]; exact H.num) p2 a4.2 v2
      rw [a4.e2] at f2
      have euz : u = z := Int32.toInt_inj.mp (by rw [f2, e2]; rfl)
      subst euz
      rw [bd_of f1]
      generalize hq : (fun b => decide (wvZ (M1.1 2) (setS M1 (nI b)) p = wvZ (M1.1 2) (setS M1 0) p)) = q
      have hq0 : q 0 = true := by rw [← hq]; simp [nI_0]
      obtain ⟨s', Mg, rec, ⟨hs, hK⟩, he⟩ := itr_go (B := B_X11_flat_56 N (nI p) u fun z13 M14 => some (z13, M14)) (fun j s M' => s = (nI (lb q j), nI j) ∧ Ka M1 M') 5
        (fun rec j s Mx hj ⟨hs, hK⟩ => by
          subst hs
          have hnx : Mx.1 1 2 = nI n := by rw [hK.e1]; exact hnl
          obtain ⟨V', g1, g2⟩ := with_e (M := Mx) hN hn hnx (nI j)
          obtain ⟨r, Mr, r1, r2, r3, r4⟩ := worstO_e hN (M := Mx) (p := p) (by rw [hK.e2]; exact H.num) p2 hK.2 g2
          rw [hK.e2] at r2
          have er : r.toInt = wvZ (M1.1 2) (setS M1 (nI j)) p := r2.trans (va_congr (fun w _ => hK.kc.set _ w) (fun _ _ _ => rfl))
          have et : (r = u) = (q j = true) := by
            rw [toI_eq, er, e2, ← hq]
            exact propext (by simp)
          unfold B_X11_flat_56
          dsimp only
          rw [if_neg (by rw [gt4 (by omega)]; omega), bd_of g1, bd_of r1, nI_1]
          by_cases hqj : q j = true
          · rw [if_pos (by rw [et]; exact hqj)]
            exact ⟨_, _, ⟨by unfold lb; rw [if_pos hqj], hK.tr r3⟩, rfl⟩
          · rw [if_neg (by rw [et]; exact hqj)]
            exact ⟨_, _, ⟨by rw [show lb q (j + 1) = lb q j by rw [lb, if_neg hqj]], hK.tr r3⟩, rfl⟩) N 1 (0, 1) Mf (by omega) (by omega) ⟨by rw [show lb q 1 = 0 by rw [lb, if_pos hq0]]; rfl, a4.tr f3⟩
      subst hs
      rw [he]
      obtain ⟨s', Mh, rec', ⟨b', hs, hK2, hF⟩, he2⟩ := itr_go (B := B_X12_flat_42 N (nI p) u fun z13 M14 => (bd (f_X12_draws N (M14.1 2 (ix 42)) M14) fun r15 M16 => (some (z13, M16)))) (fun j s M' => ∃ b', s = (lbI q j, nI j) ∧ Kb Lq M2 M' ∧ FS M1 b' M') 5
        (fun rec j s Mx hj ⟨b', hs, hK, hF⟩ => by
          subst hs
          obtain ⟨My, y1, y2, y3, y4⟩ := hF.draw hN (nI j)
          obtain ⟨r, Mr, r1, r2, r3, r4, r5, -⟩ := y2.worst hN p2 p3 0 0
          rw [wv_fun (al00 _)] at r2
          have et : (r = u) = (q j = true) := by
            rw [toI_eq, r2, e2, ← hq]
            exact propext (by simp)
          unfold B_X12_flat_42
          dsimp only
          rw [if_pos (by rw [lt5 (by omega)]; exact hj), if_neg hz9, bd_of y1, bd_of r1, nI_1]
          have hne : ¬ j + 1 = 0 := by omega
          by_cases hqj : q j = true
          · rw [if_pos (by rw [et]; exact hqj)]
            exact ⟨_, _, ⟨nI j, by rw [lbI_s, show lb q (j + 1) = j by rw [lb, if_pos hqj]], (hK.tr y3).tr r4, r5⟩, rfl⟩
          · rw [if_neg (by rw [et]; exact hqj)]
            have hj0 : ¬ j = 0 := fun e => hqj (by rw [e]; exact hq0)
            exact ⟨_, _, ⟨nI j, by rw [lbI_s, lbI_n hj0, show lb q (j + 1) = lb q j by rw [lb, if_neg hqj]], (hK.tr y3).tr r4, r5⟩, rfl⟩) N 0 ((-9), 0) Me (by omega) (by omega) ⟨0, by rw [nI_0]; rfl, hKe, e5⟩
      subst hs
      rw [he2]
      unfold B_X11_flat_56 B_X12_flat_42
      dsimp only
      rw [if_pos (show (4 : Int32) < nI 5 by decide), if_neg (show ¬ nI 5 < 5 by decide)]
      have e42 : Mh.1 2 (ix 42) = M1.1 2 42 := hF.1.nu 42 (by omega)
      obtain ⟨Mi, i1, i2, i3, i4⟩ := hF.draw hN (M1.1 2 42)
      rw [e42, bd_of i1, lbI_s q 4]
      exact Ans.q H rfl rfl rfl hK.kc ((hK2.tr i3).km i2.fnd.2.2)
    · have hV0 : V = 0 := by rw [v2.zero]; exact emp_t.mp hE0
      have hz9 : z = -9 := by rw [toI_eq, e2, wv_none hE0]; rfl
      rw [if_pos hV0]
      obtain ⟨N', hN'⟩ : ∃ N', N = N' + 1 := ⟨N - 1, by omega⟩
      have e42 : Me.1 2 (ix 42) = M1.1 2 42 := e5.1.nu 42 (by omega)
      obtain ⟨Mi, i1, i2, i3, i4⟩ := e5.draw hN (M1.1 2 42)
      have el : itr (B_X12_flat_42 N (nI p) z fun z13 M14 => (bd (f_X12_draws N (M14.1 2 (ix 42)) M14) fun r15 M16 => (some (z13, M16)))) N ((-9), 0) Me = itr (B_X12_flat_42 N (nI p) z fun z13 M14 => (bd (f_X12_draws N (M14.1 2 (ix 42)) M14) fun r15 M16 => (some (z13, M16)))) (N' + 1) ((-9), 0) Me := by rw [hN']
      rw [el, itr_s]
      unfold B_X12_flat_42
      dsimp only
      rw [if_pos (show (0 : Int32) < 5 by decide), if_pos hz9, e42, bd_of i1]
      exact Ans.q H rfl rfl rfl a4.kc ((hKe.tr i3).km i2.fnd.2.2)
end Flat
/-! years -/
def sN (f : Nat → Nat) : Nat → Nat
  | 0 => 0
  | n + 1 => sN f n + f n
theorem sN_add (f g : Nat → Nat) : ∀ n, sN (fun w => f w + g w) n = sN f n + sN g n := by
  intro n
  induction n with
  | zero => rfl
  | succ n ih => show sN _ n + (f n + g n) = (sN f n + f n) + (sN g n + g n); rw [ih]; omega
theorem sN_congr {f g : Nat → Nat} : ∀ n, (∀ w, w < n → f w = g w) → sN f n = sN g n := by
  intro n
  induction n with
  | zero => intro _; rfl
  | succ n ih => intro h; show sN f n + f n = sN g n + g n; rw [ih (fun w hw => h w (by omega)), h n (by omega)]
theorem sN_one {Q : Nat → Bool} {v : Nat} : ∀ n, sN (fun w => if Q w then (if v = w then 1 else 0) else 0) n = if v < n then (if Q v then 1 else 0) else 0 := by
  intro n
  induction n with
  | zero => rfl
  | succ n ih =>
    show sN _ n + (if Q n then (if v = n then 1 else 0) else 0) = _
    rw [ih]
    by_cases e : v = n
    · subst e; simp
    · have h : (v < n + 1) = (v < n) := propext (by omega)
      simp only [h, e, if_false]
      split <;> simp
/-- years by worlds, and one by one -/
theorem yr_sum {ye : Nat → Int32} {Q : Nat → Bool} : ∀ n, (∀ y, y < n → ∃ w, w < 16 ∧ ye y = nI w) → sN (fun w => if Q w then rk (fun y => decide (ye y = nI w)) n else 0) 16 = rk (fun y => Q (ix (ye y))) n := by
  intro n
  induction n with
  | zero => intro _; show sN (fun w => if Q w then 0 else 0) 16 = 0; rw [sN_congr (g := fun _ => 0) 16 (fun w _ => by split <;> rfl)]; rfl
  | succ n ih =>
    intro h
    obtain ⟨v, v1, v2⟩ := h n (by omega)
    rw [rk_s, ← ih (fun y hy => h y (by omega)), v2, ix_n (by omega)]
    have : (if Q v then 1 else 0) = sN (fun w => if Q w then (if v = w then 1 else 0) else 0) 16 := by rw [sN_one, if_pos v1]
    rw [this, ← sN_add]
    apply sN_congr
    intro w hw
    rw [rk_s, v2]
    have e : (nI v = nI w) = (v = w) := neq (by omega) (by omega)
    simp only [e, decide_eq_true_eq]
    split <;> omega
theorem rk_not (q : Nat → Bool) : ∀ n, rk (fun y => !q y) n + rk q n = n := by
  intro n
  induction n with
  | zero => rfl
  | succ n ih =>
    rw [rk_s, rk_s]
    cases q n
    · simp; omega
    · simp; omega
theorem sN_le {f : Nat → Nat} {c : Nat} : ∀ n, (∀ w, w < n → f w ≤ c) → sN f n ≤ c * n := by
  intro n
  induction n with
  | zero => intro _; exact Nat.zero_le _
  | succ n ih =>
    intro h
    have := ih (fun w hw => h w (by omega))
    have := h n (by omega)
    show sN f n + f n ≤ _
    rw [Nat.mul_succ]
    omega
