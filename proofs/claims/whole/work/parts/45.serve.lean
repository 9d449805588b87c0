/-- what stands still while takers are served -/
def St (M : Mm) (nu : Nat → Int32) (ng nt : Nat) (TH : Nat → Nat) : Prop := M.1 2 = nu ∧ M.1 40 1 = nI ng ∧ M.1 40 4 = nI nt ∧ ng ≤ 4 ∧ nt ≤ 4 ∧ ∀ k, k < nt → TH k < 4 ∧ M.1 43 k = nI (TH k)
theorem inv_SB {M : Mm} {ng nt t : Nat} {la : Int} {F : Nat → Nat → Int} {d c s l Zl : Nat → Int} {lk C : Int} (hI : Inv ng nt t la F d c s l (vS M) (vX M) (vH M) Zl lk C) (hs : ∀ g, g < ng → s g ≤ 3000) (hc : ∀ k, k < nt → c k ≤ 999) : SB M ng nt := by
  obtain ⟨-, i2, i3, i4, -⟩ := hI
  refine ⟨fun g hg => ?_, fun g k hg hk => ?_, fun k hk => ?_⟩
  · have h1 := i2 g hg
    have h2 := sm_nonneg (f := vX M g) (n := nt) (fun j hj => i3 g j hg hj)
    have := hs g hg
    omega
  · have h1 := i2 g hg
    have h2 := sm_ge (f := vX M g) (n := nt) (fun j hj => i3 g j hg hj) hk
    have := hs g hg
    have := i3 g k hg hk
    omega
  · have := i4 k hk
    have := hc k hk
    omega
theorem turn {N : Nat} (hN : 100000 ≤ N) {M : Mm} {nu : Nat → Int32} {ng nt t : Nat} {TH : Nat → Nat} {d c s l Zl : Nat → Int} {C : Int} (hSt : St M nu ng nt TH) (ht : t < nt) (hsz : t ≤ 1 ∨ ng ≤ 1) (hs : ∀ g, g < ng → 0 < s g ∧ s g ≤ 3000) (hc : ∀ k, k < nt → c k ≤ 999) (hd : ∀ k, k < nt → d k = zz nu (6 * TH k + 3))
    (hFB : FB M ng nt (t + 1)) (hW : ∀ k, k < t + 1 → WayP ng (zz nu 41) (vF M) (d k) (vS M) (vH M) k (M.1 48 k) (M.1 49 k)) (hlk : 0 < (M.1 44 t).toInt) (hlk2 : (M.1 44 t).toInt ≤ 198) (hI : Inv ng nt t (zz nu 41) (vF M) d c s l (vS M) (vX M) (vH M) Zl (M.1 44 t).toInt C) :
    ∃ M' r Zl', f_X4_serve N (nI t) M = some (r, M') ∧ Inv ng nt t (zz nu 41) (vF M) d c s l (vS M') (vX M') (vH M') Zl' (M'.1 44 t).toInt (C + r.toInt) ∧ (M'.1 44 t).toInt < (M.1 44 t).toInt ∧ -300000 ≤ r.toInt ∧ r.toInt ≤ 300000 ∧ Fr [42, 44, 45, 47] M M' ∧ ∀ k, k ≠ t → M'.1 44 k = M.1 44 k := by
  obtain ⟨s2, s40, s44, hng, hnt, hth⟩ := hSt
  have hSB := inv_SB hI (fun g hg => (hs g hg).2) hc
  obtain ⟨ls, ot, fr, hch, c1, c2, c3⟩ := choose2 hN hng hnt ht s40 hFB (fun z4 M5 =>
    (if inb (nI t) 4 then
  (bd (f_X4_roomOf N z4.2.1 M5) fun r6 M7 =>
  (lt' (if r6 < (M5.1 44 (ix (nI t))) then r6 else (M5.1 44 (ix (nI t)))) fun x8 =>
  (lt' (fun (s9 : Int32) (M10 : Mm) =>
    ((bd (f_X4_goOwnWay N z4.2.1 s9 M10) fun r12 M13 =>
    (if inb (nI t) 4 then
    (if inb (nI t) 4 then
    (lt' (wI M13 44 (ix (nI t)) ((M13.1 44 (ix (nI t))) - s9)) fun M14 =>
    (some (s9 * z4.1, M14))) else none) else none)) : Rs)) fun jn11 =>
  (if z4.2.1 = nI t then
    (jn11 x8 M7)
  else
    (if inb ((z4.2.2 * 4) + z4.2.1) 16 then
    (lt' (if (M7.1 47 (ix ((z4.2.2 * 4) + z4.2.1))) < x8 then (M7.1 47 (ix ((z4.2.2 * 4) + z4.2.1))) else x8) fun x15 =>
    (lt' ((z4.2.2 * 4) + z4.2.1) fun x16 =>
    (if inb x16 16 then
    (if inb x16 16 then
    (lt' (wI M7 47 (ix x16) ((M7.1 47 (ix x16)) - x15)) fun M17 =>
    (lt' ((z4.2.2 * 4) + nI t) fun x18 =>
    (if inb x18 16 then
    (if inb x18 16 then
    (lt' (wI M17 47 (ix x18) ((M17.1 47 (ix x18)) + x15)) fun M19 =>
    (jn11 x15 M19)) else none) else none))) else none) else none))) else none))))) else none))
  have hP : IsP ng (t + 1) (zz nu 41) (vF M) d (vS M) (vH M) (vP M) := by
    intro k hk
    obtain ⟨w1, w2, w3, w4⟩ := hW k hk
    refine ⟨w1, w2, w3, ?_⟩
    rcases w4 with ⟨-, h⟩ | ⟨-, h⟩ | ⟨g, h1, -, h2⟩
    · exact Or.inl h
    · exact Or.inr (Or.inl h)
    · exact Or.inr (Or.inr ⟨g, h1, h2⟩)
  have hls : -1200 ≤ ls.toInt ∧ ls.toInt ≤ 1200 := by
    rcases c3 with ⟨-, h⟩ | ⟨g, k, h1, h2, -, -, -, h⟩
    · have := hFB.2 t (by omega); omega
    · have := hFB.2 k (by omega)
      have := hFB.1 g k (by omega) (by omega)
      have := hFB.1 g t (by omega) ht
      omega
  have e0 : f_X4_serve N (nI t) M = itr (B_X4_serve_15 N (nI t) (fun z4 M5 =>
    (if inb (nI t) 4 then
  (bd (f_X4_roomOf N z4.2.1 M5) fun r6 M7 =>
  (lt' (if r6 < (M5.1 44 (ix (nI t))) then r6 else (M5.1 44 (ix (nI t)))) fun x8 =>
  (lt' (fun (s9 : Int32) (M10 : Mm) =>
    ((bd (f_X4_goOwnWay N z4.2.1 s9 M10) fun r12 M13 =>
    (if inb (nI t) 4 then
    (if inb (nI t) 4 then
    (lt' (wI M13 44 (ix (nI t)) ((M13.1 44 (ix (nI t))) - s9)) fun M14 =>
    (some (s9 * z4.1, M14))) else none) else none)) : Rs)) fun jn11 =>
  (if z4.2.1 = nI t then
    (jn11 x8 M7)
  else
    (if inb ((z4.2.2 * 4) + z4.2.1) 16 then
    (lt' (if (M7.1 47 (ix ((z4.2.2 * 4) + z4.2.1))) < x8 then (M7.1 47 (ix ((z4.2.2 * 4) + z4.2.1))) else x8) fun x15 =>
    (lt' ((z4.2.2 * 4) + z4.2.1) fun x16 =>
    (if inb x16 16 then
    (if inb x16 16 then
    (lt' (wI M7 47 (ix x16) ((M7.1 47 (ix x16)) - x15)) fun M17 =>
    (lt' ((z4.2.2 * 4) + nI t) fun x18 =>
    (if inb x18 16 then
    (if inb x18 16 then
    (lt' (wI M17 47 (ix x18) ((M17.1 47 (ix x18)) + x15)) fun M19 =>
    (jn11 x15 M19)) else none) else none))) else none) else none))) else none))))) else none))) N (M.1 48 t, nI t, 0, 0) M := by
    unfold f_X4_serve
    simp (disch := omega) only [inb_n, if_true, ix_n]
  rw [e0, hch]
  clear e0 hch
  simp (disch := omega) only [inb_n, if_true, ix_n]
  -- the last rows, for any memory that the units have come to
  have fin : ∀ (n : Int32) (Ma Mb : Mm), 0 < n.toInt → n.toInt ≤ (M.1 44 t).toInt → (∀ k, Mb.1 44 k = M.1 44 k) → Fr [42, 44, 45, 47] M Mb → ∃ r M', (some (n * ls, wI Mb 44 t (Mb.1 44 t - n)) : Rs) = some (r, M') ∧ r.toInt = n.toInt * ls.toInt ∧ (M'.1 44 t).toInt = (M.1 44 t).toInt - n.toInt ∧ vS M' = vS Mb ∧ vX M' = vX Mb ∧ vH M' = vH Mb ∧ Fr [42, 44, 45, 47] M M' ∧ ∀ k, k ≠ t → M'.1 44 k = M.1 44 k := by
    intro n Ma Mb h1 h2 h3 h4
    have hb : -300000 ≤ n.toInt * ls.toInt ∧ n.toInt * ls.toInt ≤ 300000 := by
      have a : n.toInt * ls.toInt ≤ n.toInt * 1200 := Int.mul_le_mul_of_nonneg_left hls.2 (by omega)
      have b : n.toInt * (-1200) ≤ n.toInt * ls.toInt := Int.mul_le_mul_of_nonneg_left hls.1 (by omega)
      omega
    refine ⟨_, _, rfl, i_mul (by omega) (by omega), ?_, by unfold vS; simp [wI_g], by unfold vX; simp [wI_g], by unfold vH; simp [wI_g], h4.wI (by simp), fun k hk => ?_⟩
    · have : (wI Mb 44 t (Mb.1 44 t - n)).1 44 t = M.1 44 t - n := by simp [wI_g, upd_g, h3]
      rw [this, i_sub (by omega) (by omega)]
    · simp [wI_g, upd_g, hk, h3]
  have hbr : ∀ n : Int32, 0 < n.toInt → n.toInt ≤ 198 → -300000 ≤ n.toInt * ls.toInt ∧ n.toInt * ls.toInt ≤ 300000 := by
    intro n h1 h2
    have a : n.toInt * ls.toInt ≤ n.toInt * 1200 := Int.mul_le_mul_of_nonneg_left hls.2 (by omega)
    have b : n.toInt * (-1200) ≤ n.toInt * ls.toInt := Int.mul_le_mul_of_nonneg_left hls.1 (by omega)
    omega
  rcases c3 with ⟨ho, hl⟩ | ⟨g, k, hg, hk, ho, hfr, hx, hl⟩
  · -- its own way
    subst ho
    obtain ⟨rm, r1, r2, r3⟩ := room_e (N := N) hng (by omega) s40 (hW t (by omega))
    rw [bd_of r1]
    simp only [lt_eq, if_true]
    obtain ⟨n, hne, hn1, hn2, hn3⟩ : ∃ n : Int32, (if rm < M.1 44 t then rm else M.1 44 t) = n ∧ 0 < n.toInt ∧ n.toInt ≤ rm.toInt ∧ n.toInt ≤ (M.1 44 t).toInt := by
      by_cases h : rm < M.1 44 t
      · rw [if_pos h]
        rw [toI_lt] at h
        exact ⟨rm, rfl, r2, Int.le_refl _, by omega⟩
      · rw [if_neg h]
        rw [toI_lt] at h
        exact ⟨M.1 44 t, rfl, hlk, by omega, Int.le_refl _⟩
    rw [hne]
    obtain ⟨Mb, Zl', g1, g2, g3⟩ := go_e (N := N) (la := zz nu 41) (d := d) (P := vP M) (Zl := Zl) hng hnt ht s40 hSB hn1 (by omega) hn2 r3
    rw [bd_of g1]
    obtain ⟨r, M', f1, f2, f3, f4, f5, f6, f7, f8⟩ := fin n M Mb hn1 hn3 (fun k => by rw [g3.1 44 (by simp)]) (g3.mono (by simp))
    refine ⟨M', r, Zl', f1, ?_, by omega, by rw [f2]; exact (hbr n hn1 (by omega)).1, by rw [f2]; exact (hbr n hn1 (by omega)).2, f7, f8⟩
    rw [f3, f4, f5, f6, f2, hl]
    exact inv_own (ls := 0) hI ht hsz (fun g hg => (hs g hg).1) hP (fun g k hg hk hx => by rw [← hl]; exact c2 g k (Or.inl hg) hk hx) g2 hn3
  · -- units of another taker
    have hg' : g < ng := by omega
    subst ho; subst hfr
    obtain ⟨rm, r1, r2, r3⟩ := room_e (N := N) (k := k) hng (by omega) s40 (hW k (by omega))
    rw [bd_of r1]
    have hkt : ¬ nI k = nI t := by rw [neq (by omega) (by omega)]; omega
    simp (disch := omega) only [lt_eq, hkt, if_false, mul4, nI_add, inb_n, ix_n, if_true]
    have qx : vX M g k = (M.1 47 (4 * g + k)).toInt := by unfold vX; rw [if_pos (by omega)]
    have qt : vX M g t = (M.1 47 (4 * g + t)).toInt := by unfold vX; rw [if_pos (by omega)]
    obtain ⟨n0, hne0, hn01, hn02, hn03⟩ : ∃ n : Int32, (if rm < M.1 44 t then rm else M.1 44 t) = n ∧ 0 < n.toInt ∧ n.toInt ≤ rm.toInt ∧ n.toInt ≤ (M.1 44 t).toInt := by
      by_cases h : rm < M.1 44 t
      · rw [if_pos h]
        rw [toI_lt] at h
        exact ⟨rm, rfl, r2, Int.le_refl _, by omega⟩
      · rw [if_neg h]
        rw [toI_lt] at h
        exact ⟨M.1 44 t, rfl, hlk, by omega, Int.le_refl _⟩
    rw [hne0]
    obtain ⟨n, hne, hn1, hn2, hn3⟩ : ∃ n : Int32, (if M.1 47 (4 * g + k) < n0 then M.1 47 (4 * g + k) else n0) = n ∧ 0 < n.toInt ∧ n.toInt ≤ n0.toInt ∧ n.toInt ≤ vX M g k := by
      by_cases h : M.1 47 (4 * g + k) < n0
      · rw [if_pos h]
        rw [toI_lt] at h
        exact ⟨_, rfl, by omega, by omega, by omega⟩
      · rw [if_neg h]
        rw [toI_lt] at h
        exact ⟨n0, rfl, hn01, Int.le_refl _, by omega⟩
    rw [hne]
    have bx := hSB.2.1 g k hg' (by omega)
    have bt := hSB.2.1 g t hg' ht
    have ex : (M.1 47 (4 * g + k) - n).toInt = vX M g k - n.toInt := by rw [i_sub (by omega) (by omega), qx]
    have et : (M.1 47 (4 * g + t) + n).toInt = vX M g t + n.toInt := by rw [i_add (by omega) (by omega), qt]
    have w47 : (wI M 47 (4 * g + k) (M.1 47 (4 * g + k) - n)).1 47 (4 * g + t) = M.1 47 (4 * g + t) := by
      simp only [wI_g, if_true, upd_g]
      rw [if_neg (by omega)]
    rw [w47]
    generalize hMm : wI (wI M 47 (4 * g + k) (M.1 47 (4 * g + k) - n)) 47 (4 * g + t) (M.1 47 (4 * g + t) + n) = Mm'
    have mS : vS Mm' = vS M := by rw [← hMm]; unfold vS; simp [wI_g]
    have mH : vH Mm' = vH M := by rw [← hMm]; unfold vH; simp [wI_g]
    have mF : vF Mm' = vF M := by rw [← hMm]; unfold vF; simp [wI_g]
    have m49 : Mm'.1 49 = M.1 49 := by rw [← hMm]; simp [wI_g]
    have m45 : Mm'.1 45 = M.1 45 := by rw [← hMm]; simp [wI_g]
    have m42 : Mm'.1 42 = M.1 42 := by rw [← hMm]; simp [wI_g]
    have m40 : Mm'.1 40 = M.1 40 := by rw [← hMm]; simp [wI_g]
    have m44 : Mm'.1 44 = M.1 44 := by rw [← hMm]; simp [wI_g]
    have mFr : Fr [42, 44, 45, 47] M Mm' := by rw [← hMm]; exact ((Fr.rf _ M).wI (by simp)).wI (by simp)
    have mX : vX Mm' = ud2 (ud2 (vX M) g k (vX M g k - n.toInt)) g t (vX M g t + n.toInt) := by
      rw [← hMm]
      have a1 : vX (wI (wI M 47 (4 * g + k) (M.1 47 (4 * g + k) - n)) 47 (4 * g + t) (M.1 47 (4 * g + t) + n)) = fun i j => if j < 4 then (upd (upd (M.1 47) (4 * g + k) (M.1 47 (4 * g + k) - n)) (4 * g + t) (M.1 47 (4 * g + t) + n) (4 * i + j)).toInt else 0 := by unfold vX; simp [wI_g]
      rw [a1, ud2_upd (by omega) et, ud2_upd (by omega) ex]
      rfl
    have mSB : SB Mm' ng nt := by
      refine ⟨by rw [mS]; exact hSB.1, fun g' k' hg'' hk'' => ?_, by rw [mH]; exact hSB.2.2⟩
      rw [mX]
      have h0 := hSB.2.1 g' k' hg'' hk''
      have hsum := hI.2.1 g hg'
      have hs3 := (hs g hg').2
      by_cases a : g' = g ∧ k' = t
      · obtain ⟨rfl, rfl⟩ := a
        rw [ud2_e]
        have q1 : vX M g' k + vX M g' k' ≤ sm nt (vX M g') := by
          have e1 : sm nt (ud2 (fun _ => vX M g') 0 k (vX M g' k + vX M g' k') 0) = sm nt (vX M g') + vX M g' k' := sm_upd (k := k) (by omega) (fun i hi hne => ud2_n (fun z => hne z.2)) ud2_e
          have e2 : sm nt (ud2 (ud2 (fun _ => vX M g') 0 k (vX M g' k + vX M g' k')) 0 k' 0 0) = sm nt (ud2 (fun _ => vX M g') 0 k (vX M g' k + vX M g' k') 0) + -vX M g' k' := sm_upd (k := k') (by omega) (fun i hi hne => ud2_n (fun z => hne z.2)) (by rw [ud2_e, ud2_n (fun z => by omega)]; omega)
          have e3 : ud2 (ud2 (fun _ => vX M g') 0 k (vX M g' k + vX M g' k')) 0 k' 0 0 k ≤ sm nt (ud2 (ud2 (fun _ => vX M g') 0 k (vX M g' k + vX M g' k')) 0 k' 0 0) := sm_ge (fun j hj => by
            by_cases b : j = k'
            · subst b; rw [ud2_e]; omega
            · rw [ud2_n (fun z => b z.2)]
              by_cases b2 : j = k
              · subst b2; rw [ud2_e]; omega
              · rw [ud2_n (fun z => b2 z.2)]; exact (hSB.2.1 g' j hg'' hj).1) (by omega)
          rw [ud2_n (fun z => by omega), ud2_e] at e3
          omega
        omega
      · rw [ud2_n a]
        by_cases b : g' = g ∧ k' = k
        · obtain ⟨rfl, rfl⟩ := b
          rw [ud2_e]; omega
        · rw [ud2_n b]; exact h0
    obtain ⟨Mb, Zl', g1, g2, g3⟩ := go_e (N := N) (M := Mm') (la := zz nu 41) (d := d) (P := vP M) (Zl := Zl) (rm := rm) (n := n) (k := k) hng hnt (by omega) (by rw [m40]; exact s40) mSB hn1 (by omega) (by omega) (by rw [m49, m45, m42, mF]; exact r3)
    rw [bd_of g1]
    rw [mS, mX, mH, mF] at g2
    obtain ⟨r, M', f1, f2, f3, f4, f5, f6, f7, f8⟩ := fin n M Mb hn1 (by omega) (fun k => by rw [g3.1 44 (by simp), m44]) (mFr.tr (g3.mono (by simp)))
    refine ⟨M', r, Zl', f1, ?_, by omega, by rw [f2]; exact (hbr n hn1 (by omega)).1, by rw [f2]; exact (hbr n hn1 (by omega)).2, f7, f8⟩
    rw [f3, f4, f5, f6, f2, hl]
    exact inv_move hI ht hsz (fun g hg => (hs g hg).1) hP hg' hk hx (by rw [← hl]; exact c1) (fun g' k' a b e => by rw [← hl]; exact c2 g' k' (Or.inl a) b e) hn3 (by omega) g2
