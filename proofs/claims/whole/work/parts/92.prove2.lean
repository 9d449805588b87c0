/-! what a proving row is worth -/
def wt1 (r nu : Nat → Int32) (p w h : Nat) : Int := zz r h * lkZ nu p w h - zz r (4 + h) * spZ nu p w h - (if 0 < lkZ nu p w h then zz r (8 + h) * zz nu (6 * h + 4) else 0)
section Prove2
variable {N : Nat} {M : Mm} {p w : Nat} {r nu : Nat → Int32}
theorem sl_b (hn : NumB nu) {h : Nat} (hh : h < 4) : 0 ≤ spZ nu p w h ∧ spZ nu p w h ≤ 2997 ∧ 0 ≤ lkZ nu p w h ∧ lkZ nu p w h ≤ 198 := by
  have b := balZ_b hn p w hh
  unfold spZ lkZ
  split <;> split <;> omega
theorem wt1_b (hn : NumB nu) (hr : ∀ k, k < 12 → 0 ≤ zz r k ∧ zz r k ≤ 9999) {h : Nat} (hh : h < 4) : -40000000 ≤ wt1 r nu p w h ∧ wt1 r nu p w h ≤ 2000000 := by
  have s := sl_b hn (p := p) (w := w) hh
  have a := mul_b (hr h (by omega)).1 (hr h (by omega)).2 s.2.2.1 s.2.2.2
  have b := mul_b (hr (4 + h) (by omega)).1 (hr (4 + h) (by omega)).2 s.1 s.2.1
  have c := mul_b (hr (8 + h) (by omega)).1 (hr (8 + h) (by omega)).2 (hn.1 (6 * h + 4) (by omega)).1 (hn.2 (6 * h + 4) (by omega) (by omega))
  unfold wt1
  split <;> omega
theorem wt_b (hn : NumB nu) (hr : ∀ k, k < 12 → 0 ≤ zz r k ∧ zz r k ≤ 9999) : ∀ j : Nat, j ≤ 4 → -40000000 * (j : Int) ≤ sm j (wt1 r nu p w) ∧ sm j (wt1 r nu p w) ≤ 2000000 * (j : Int) := by
  intro j
  induction j with
  | zero => intro _; unfold sm; omega
  | succ j ih =>
    intro hj
    have a := ih (by omega)
    have b := wt1_b hn hr (p := p) (w := w) (h := j) (by omega)
    rw [sm_s]
    omega
theorem cworth_e (hN : 100000 ≤ N) (hn : NumB (M.1 2)) (hr : ∀ k, k < 12 → 0 ≤ zz (M.1 32) k ∧ zz (M.1 32) k ≤ 9999) (hp : p < 256) (hw : w < 16) : ∃ x, f_X6_worthOf N (nI p) (nI w) M = some (x, M) ∧ x.toInt = cut0 (sm 4 (wt1 (M.1 32) (M.1 2) p w)) := by
  obtain ⟨s', Ma, rec, ⟨x, hs, hx, hM⟩, he⟩ := itr_go (B := B_X6_worthOf_15 N (nI p) (nI w) fun z8 M9 => some (if 0 < z8 then z8 else 0, M9)) (fun j s M' => ∃ x : Int32, s = (x, nI j) ∧ x.toInt = sm j (wt1 (M.1 32) (M.1 2) p w) ∧ M' = M) 4
    (fun rec j s Mx hj ⟨x, hs, hx, hM⟩ => by
      subst hs; subst hM
      obtain ⟨y, b1, b2⟩ := bal_e (N := N) hn hp hw hj
      have bb := balZ_b hn p w hj
      have sb := wt_b hn hr (p := p) (w := w) j (by omega)
      have s := sl_b hn (p := p) (w := w) hj
      have a := mul_b (hr j (by omega)).1 (hr j (by omega)).2 s.2.2.1 s.2.2.2
      have b := mul_b (hr (4 + j) (by omega)).1 (hr (4 + j) (by omega)).2 s.1 s.2.1
      have c := mul_b (hr (8 + j) (by omega)).1 (hr (8 + j) (by omega)).2 (hn.1 (6 * j + 4) (by omega)).1 (hn.2 (6 * j + 4) (by omega) (by omega))
      have zy : (y < 0) = (balZ (Mx.1 2) p w j < 0) := by rw [zL, b2]
      have zp : (0 < y) = (0 < balZ (Mx.1 2) p w j) := by rw [zI, b2]
      unfold B_X6_worthOf_15
      dsimp only
      rw [if_pos (by rw [lt4 (by omega)]; exact hj), bd_of b1]
      simp only [lt_eq]
      rw [ladd4, i_8, mul6, add4, inb_n (by omega) (by omega), inb_n (by omega) (by omega), inb_n (by omega) (by omega), inb_n (by omega) (by omega), ix_n (by omega), ix_n (by omega), ix_n (by omega), ix_n (by omega), nI_1]
      simp only [if_true]
      have e1 : sm (j + 1) (wt1 (Mx.1 32) (Mx.1 2) p w) = sm j (wt1 (Mx.1 32) (Mx.1 2) p w) + wt1 (Mx.1 32) (Mx.1 2) p w j := sm_s _ _
      unfold wt1 at e1
      unfold spZ at b e1
      unfold lkZ at a e1
      unfold zz at *
      by_cases c1 : 0 < balZ (Mx.1 2) p w j
      · have c2 : ¬ balZ (Mx.1 2) p w j < 0 := by omega
        rw [if_pos (by rw [zp]; exact c1), if_neg (by rw [zy]; exact c2)]
        rw [if_pos c1] at b e1
        rw [if_neg c2, if_neg (by omega)] at e1
        have m1 : (Mx.1 32 (4 + j) * y).toInt = (Mx.1 32 (4 + j)).toInt * balZ (Mx.1 2) p w j := by rw [i_mul (by rw [b2]; omega) (by rw [b2]; omega), b2]
        refine ⟨_, _, ⟨_, rfl, ?_, rfl⟩, rfl⟩
        rw [i_sub (by rw [m1, hx]; unfold wt1 zz spZ lkZ at *; omega) (by rw [m1, hx]; unfold wt1 zz spZ lkZ at *; omega), m1, hx]
        unfold wt1 zz spZ lkZ at *
        omega
      · rw [if_neg (by rw [zp]; exact c1)]
        by_cases c2 : balZ (Mx.1 2) p w j < 0
        · rw [if_pos (by rw [zy]; exact c2)]
          rw [if_pos c2] at a
          rw [if_neg c1, if_pos c2, if_pos (by omega)] at e1
          have m1 : (Mx.1 32 j * y).toInt = -((Mx.1 32 j).toInt * -balZ (Mx.1 2) p w j) := by
            rw [Int.mul_neg, Int.neg_neg]
            rw [Int.mul_neg] at a
            rw [i_mul (by rw [b2]; omega) (by rw [b2]; omega), b2]
          have m2 : (Mx.1 32 (8 + j) * Mx.1 2 (6 * j + 4)).toInt = (Mx.1 32 (8 + j)).toInt * (Mx.1 2 (6 * j + 4)).toInt := i_mul (by omega) (by omega)
          have m3 : (Mx.1 32 j * y + Mx.1 32 (8 + j) * Mx.1 2 (6 * j + 4)).toInt = -((Mx.1 32 j).toInt * -balZ (Mx.1 2) p w j) + (Mx.1 32 (8 + j)).toInt * (Mx.1 2 (6 * j + 4)).toInt := by rw [i_add (by rw [m1, m2]; omega) (by rw [m1, m2]; omega), m1, m2]
          refine ⟨_, _, ⟨_, rfl, ?_, rfl⟩, rfl⟩
          rw [i_sub (by rw [m3, hx]; unfold wt1 zz spZ lkZ at *; omega) (by rw [m3, hx]; unfold wt1 zz spZ lkZ at *; omega), m3, hx]
          unfold wt1 zz spZ lkZ at *
          omega
        · rw [if_neg (by rw [zy]; exact c2)]
          rw [if_neg c1, if_neg c2, if_neg (by omega)] at e1
          refine ⟨_, _, ⟨x, rfl, ?_, rfl⟩, rfl⟩
          rw [hx]
          unfold wt1 zz spZ lkZ at *
          omega) N 0 (0, 0) M (by omega) (by omega) ⟨0, by rw [nI_0], rfl, rfl⟩
  subst hs; subst hM
  unfold f_X6_worthOf
  rw [he]
  have eB : ∀ G rec, B_X6_worthOf_15 N (nI p) (nI w) G rec (x, nI 4) Ma = G x Ma := fun G rec => by
    unfold B_X6_worthOf_15
    dsimp only
    rw [if_neg (show ¬ nI 4 < 4 by decide)]
  rw [eB]
  refine ⟨_, rfl, ?_⟩
  rw [← hx]
  unfold cut0
  by_cases q : 0 < x
  · rw [if_pos q]; rw [zI] at q; rw [if_pos q]
  · rw [if_neg q]; rw [zI] at q; rw [if_neg q]; rfl
theorem mworth_p (hN : 100000 ≤ N) (hn : NumB nu) (hr : ∀ k, k < 12 → 0 ≤ zz r k ∧ zz r k ≤ 9999) (h23 : ∀ k, k < 12 → M.1 23 k = r k) (hu : ∀ k, k < 43 → M.1 2 k = nu k) (hl : ∀ h, h < 4 → (M.1 16 h).toInt = lkZ nu p w h ∧ (M.1 15 h).toInt = spZ nu p w h) : ∃ x, (itr (B_X12_prove_70 N fun z14 M15 => if z14 < 0 then some (0, M15) else some (z14, M15)) N (0, 0) M) = some (x, M) ∧ x.toInt = cut0 (sm 4 (wt1 r nu p w)) := by
  obtain ⟨s', Ma, rec, ⟨x, hs, hx, hM⟩, he⟩ := itr_go (B := B_X12_prove_70 N fun z14 M15 => if z14 < 0 then some (0, M15) else some (z14, M15)) (fun j s M' => ∃ x : Int32, s = (x, nI j) ∧ x.toInt = sm j (wt1 r nu p w) ∧ M' = M) 4
    (fun rec j s Mx hj ⟨x, hs, hx, hM⟩ => by
      subst hs; subst hM
      have sb := wt_b hn hr (p := p) (w := w) j (by omega)
      have s := sl_b hn (p := p) (w := w) hj
      have a := mul_b (hr j (by omega)).1 (hr j (by omega)).2 s.2.2.1 s.2.2.2
      have b := mul_b (hr (4 + j) (by omega)).1 (hr (4 + j) (by omega)).2 s.1 s.2.1
      have c := mul_b (hr (8 + j) (by omega)).1 (hr (8 + j) (by omega)).2 (hn.1 (6 * j + 4) (by omega)).1 (hn.2 (6 * j + 4) (by omega) (by omega))
      have zl : (0 < Mx.1 16 j) = (0 < lkZ nu p w j) := by rw [zI, (hl j hj).1]
      unfold B_X12_prove_70
      dsimp only
      rw [if_pos (by rw [lt4 (by omega)]; exact hj)]
      simp only [lt_eq]
      rw [ladd4, i_8, lmul6, add4, inb_n (by omega) (by omega), inb_n (by omega) (by omega), inb_n (by omega) (by omega), inb_n (by omega) (by omega), inb_n (by omega) (by omega), ix_n (by omega), ix_n (by omega), ix_n (by omega), ix_n (by omega), nI_1, h23 j (by omega), h23 (4 + j) (by omega), h23 (8 + j) (by omega), hu (6 * j + 4) (by omega)]
      simp only [if_true]
      have e1 : sm (j + 1) (wt1 r nu p w) = sm j (wt1 r nu p w) + wt1 r nu p w j := sm_s _ _
      unfold zz at a b c
      have m1 : (r j * Mx.1 16 j).toInt = (r j).toInt * lkZ nu p w j := by rw [i_mul (by rw [(hl j hj).1]; omega) (by rw [(hl j hj).1]; omega), (hl j hj).1]
      have m2 : (r (4 + j) * Mx.1 15 j).toInt = (r (4 + j)).toInt * spZ nu p w j := by rw [i_mul (by rw [(hl j hj).2]; omega) (by rw [(hl j hj).2]; omega), (hl j hj).2]
      have m3 : (r j * Mx.1 16 j - r (4 + j) * Mx.1 15 j).toInt = (r j).toInt * lkZ nu p w j - (r (4 + j)).toInt * spZ nu p w j := by rw [i_sub (by rw [m1, m2]; omega) (by rw [m1, m2]; omega), m1, m2]
      have m4 : (r (8 + j) * nu (6 * j + 4)).toInt = (r (8 + j)).toInt * (nu (6 * j + 4)).toInt := i_mul (by omega) (by omega)
      have ew : wt1 r nu p w j = (r j).toInt * lkZ nu p w j - (r (4 + j)).toInt * spZ nu p w j - (if 0 < lkZ nu p w j then (r (8 + j)).toInt * (nu (6 * j + 4)).toInt else 0) := rfl
      by_cases c1 : 0 < lkZ nu p w j
      · rw [if_pos (by rw [zl]; exact c1)]
        rw [if_pos c1] at ew
        have m5 : (r j * Mx.1 16 j - r (4 + j) * Mx.1 15 j - r (8 + j) * nu (6 * j + 4)).toInt = wt1 r nu p w j := by rw [i_sub (by rw [m3, m4]; omega) (by rw [m3, m4]; omega), m3, m4, ew]
        refine ⟨_, _, ⟨_, rfl, ?_, rfl⟩, rfl⟩
        rw [i_add (by rw [m5, hx]; omega) (by rw [m5, hx]; omega), m5, hx, e1]
      · rw [if_neg (by rw [zl]; exact c1)]
        rw [if_neg c1] at ew
        have z0 : (0 : Int32).toInt = 0 := rfl
        have m5 : (r j * Mx.1 16 j - r (4 + j) * Mx.1 15 j - 0).toInt = wt1 r nu p w j := by rw [i_sub (by rw [m3, z0]; omega) (by rw [m3, z0]; omega), m3, z0, ew]
        refine ⟨_, _, ⟨_, rfl, ?_, rfl⟩, rfl⟩
        rw [i_add (by rw [m5, hx]; omega) (by rw [m5, hx]; omega), m5, hx, e1]) N 0 (0, 0) M (by omega) (by omega) ⟨0, by rw [nI_0], rfl, rfl⟩
  subst hs; subst hM
  rw [he]
  have eB : ∀ G rec, B_X12_prove_70 N G rec (x, nI 4) Ma = G x Ma := fun G rec => by
    unfold B_X12_prove_70
    dsimp only
    rw [if_neg (show ¬ nI 4 < 4 by decide)]
  rw [eB, ← hx]
  unfold cut0
  have z0 : (0 : Int32).toInt = 0 := rfl
  by_cases q : x < 0
  · rw [if_pos q]; rw [zL] at q; exact ⟨0, rfl, by rw [if_neg (by omega)]; rfl⟩
  · rw [if_neg q]; rw [zL] at q; exact ⟨x, rfl, by split <;> omega⟩
theorem fail_pos (k : Nat) (hk : k < 2 ^ 31) : ¬ nI k < 0 := nI_pos hk
theorem step_prove {M1 M2 : Mm} (hN : 100000 ≤ N) (H : Rel M1 M2) (a b : Int32) : Ans (f_X11_prove N a b M1) (f_X12_prove N a b M2) := by
  unfold f_X11_prove f_X12_prove
  rw [bd_of (cPl hN a), bd_of (mPl hN H.1.t a)]
  cases hP : isPl (M1.1 1 0) a
  · rw [if_pos b01_f, if_pos b01_f]; exact ref1 H
  · rw [if_neg (show ¬ b01 true = 0 by decide), if_neg (show ¬ b01 true = 0 by decide), bd_of (cWo b), bd_of (mWo hN H.1.t b)]
    cases hW : isWo (M1.1 1 0) b
    · rw [if_pos b01_f, if_pos b01_f]; exact ref1 H
    · rw [if_neg (show ¬ b01 true = 0 by decide), if_neg (show ¬ b01 true = 0 by decide)]
      obtain ⟨p, hp, rfl, hp2⟩ := isPl_of hP
      obtain ⟨w, hw, rfl, hw2⟩ := isWo_of hW
      have H0 := H
      obtain ⟨t, im, ⟨c1, c2, c3, ⟨n, r1, r2, r3, r4⟩⟩, d, e⟩ := H
      rw [r2, r3]
      by_cases h12 : n = 12
      · rw [if_pos (show nI n = 12 by rw [eq12 (by omega)]; exact h12), if_neg (show ¬ nI n < 12 by rw [lt12 (by omega)]; omega)]
        subst h12
        simp only [lt_eq]
        have F1 : Fr [0] M1 (wI M1 0 6 0) := (Fr.rf _ _).wI (by simp)
        have F2 : Fr [0] M2 (wI M2 0 37 0) := (Fr.rf _ _).wI (by simp)
        have s1 : ∀ k, k ≠ 6 → (wI M1 0 6 0).1 0 k = M1.1 0 k := fun k hk => by simp [wI_g, upd_g, hk]
        have s2 : ∀ k, k ≠ 37 → (wI M2 0 37 0).1 0 k = M2.1 0 k := fun k hk => by simp [wI_g, upd_g, hk]
        have H1 : Rel (wI M1 0 6 0) (wI M2 0 37 0) := by
          refine ⟨t.fr (F1.on (by decide)) (F2.on (by decide)) (s2 15 (by omega)) (s2 39 (by omega)), im.fr (s1 2 (by omega)) (F1.on (by decide)) (F2.on (by decide)) (s2 48 (by omega)) (s2 49 (by omega)) (s2 50 (by omega)), ⟨?_, ?_, ?_, ⟨0, by omega, by simp [wI_g, upd_g]; rfl, by simp [wI_g, upd_g]; rfl, fun i hi => by omega⟩⟩, d.fr (F1.on (by decide)), e.fr (F1.on (by decide)) (F2.on (by decide)) (s2 2 (by omega))⟩
          · rw [F1.1 33 (by decide), F2.1 1 (by decide)]; exact c1
          · rw [F1.1 1 (by decide), F1.1 27 (by decide), F1.1 28 (by decide), F1.1 29 (by decide), s2 5 (by omega), F2.1 3 (by decide), F2.1 4 (by decide)]; exact c2
          · rw [F1.1 30 (by decide), F1.1 31 (by decide), s2 14 (by omega), F2.1 5 (by decide)]; exact c3
        have q32 : (wI M1 0 6 0).1 32 = M1.1 32 := F1.1 32 (by decide)
        have q2 : (wI M1 0 6 0).1 2 = M1.1 2 := F1.1 2 (by decide)
        have q1 : (wI M1 0 6 0).1 1 = M1.1 1 := F1.1 1 (by decide)
        have cf := cfail_e (M := wI M1 0 6 0) (p := p) (w := w) hN (by rw [q2]; exact t.num) hp hw
        rw [q32, q2] at cf
        obtain ⟨Mc, k1, k2, k3⟩ := lacks_m (M1 := wI M1 0 6 0) (M := wI M2 0 37 0) hN H1.1 hp hw (by rw [q1]; exact hp2)
        rw [q2] at k3
        have h23 : ∀ k, k < 12 → Mc.1 23 k = M1.1 32 k := fun k hk => by rw [k2.1 23 (by decide), F2.1 23 (by decide)]; exact (r4 k hk).symm
        have hu : ∀ k, k < 43 → Mc.1 2 k = M1.1 2 k := fun k hk => by rw [k2.1 2 (by decide), F2.1 2 (by decide)]; exact t.nu k hk
        have mf := mfail_e (M := Mc) (p := p) (w := w) hN h23 hu k3
        rw [bd_of cf, bd_of k1, bd_of mf]
        have km : Km (wI M1 0 6 0) (wI M2 0 37 0) Mc := by
          have kb : Kb [13, 14, 15, 16] (wI M2 0 37 0) Mc := fr_kb k2 (by simp) (by simp)
          exact kb.lq.km (H1.2.2.2.2.fr (fun _ _ => rfl) (k2.on (by decide)) (by rw [k2.1 0 (by decide)]))
        by_cases hf : failI (M1.1 32) (M1.1 2) p w < 0
        · rw [if_pos hf, if_pos hf]
          have hr : ∀ k, k < 12 → 0 ≤ zz (M1.1 32) k ∧ zz (M1.1 32) k ≤ 9999 := by
            intro k hk
            unfold failI at hf
            cases hg : fgo (g1P (M1.1 32)) 0 12 with
            | some j =>
              rw [hg] at hf
              have := fgo_some _ _ _ hg
              exact absurd hf (nI_pos (by omega))
            | none =>
              have g := fgo_none _ _ hg k (by omega) (by omega)
              unfold g1P at g
              simp only [Bool.and_eq_true, Bool.not_eq_true', decide_eq_false_iff_not] at g
              have z0 : (0 : Int32).toInt = 0 := rfl
              have z9 : (9999 : Int32).toInt = 9999 := rfl
              rw [toI_lt, toI_lt] at g
              unfold zz
              omega
          obtain ⟨x, x1, x2⟩ := cworth_e (M := wI M1 0 6 0) (p := p) (w := w) hN (by rw [q2]; exact t.num) (by rw [q32]; exact hr) hp hw
          obtain ⟨y, y1, y2⟩ := mworth_p (M := Mc) (p := p) (w := w) hN t.num hr h23 hu k3
          rw [bd_of x1, y1]
          rw [q32, q2] at x2
          exact Ans.q H1 rfl rfl (by rw [x2, y2]) (Kc.rf H1.2.2.2.1) km
        · rw [if_neg hf, if_neg hf]
          exact Ans.q H1 rfl rfl rfl (Kc.rf H1.2.2.2.1) km
      · rw [if_neg (show ¬ nI n = 12 by rw [eq12 (by omega)]; exact h12), if_pos (show nI n < 12 by rw [lt12 (by omega)]; omega)]
        exact ref3 H0
end Prove2
