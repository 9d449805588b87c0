/-! who bears most -/
def mlZ (f : Nat → Int) (S : Nat → Bool) : Nat → Int
  | 0 => 0
  | n + 1 => if S n = true ∧ mlZ f S n < f n then f n else mlZ f S n
def mmZ (f : Nat → Int) (S : Nat → Bool) (m : Int) : Nat → Int
  | 0 => m
  | n + 1 => if S n = true ∧ mmZ f S m n < f n then f n else mmZ f S m n
theorem mlZ_s (f : Nat → Int) (S : Nat → Bool) (n : Nat) : mlZ f S (n + 1) = if S n = true ∧ mlZ f S n < f n then f n else mlZ f S n := rfl
theorem mmZ_s (f : Nat → Int) (S : Nat → Bool) (m : Int) (n : Nat) : mmZ f S m (n + 1) = if S n = true ∧ mmZ f S m n < f n then f n else mmZ f S m n := rfl
theorem ml_b {f : Nat → Int} {S : Nat → Bool} {c : Int} (hc : 0 ≤ c) : ∀ n, (∀ w, w < n → f w ≤ c) → 0 ≤ mlZ f S n ∧ mlZ f S n ≤ c := by
  intro n
  induction n with
  | zero => intro _; unfold mlZ; omega
  | succ n ih =>
    intro h
    have a := ih (fun w hw => h w (by omega))
    have b := h n (by omega)
    unfold mlZ
    split <;> omega
theorem mm_ge {f : Nat → Int} {S : Nat → Bool} {m : Int} : ∀ n, m ≤ mmZ f S m n := by
  intro n
  induction n with
  | zero => exact Int.le_refl _
  | succ n ih => unfold mmZ; split <;> omega
/-- both ways to the most: from 0, and from what was most before -/
theorem ml_mm {f : Nat → Int} {S : Nat → Bool} {m : Int} : ∀ n, (∀ w, w < n → 0 ≤ f w) → ((∀ w, w < n → S w = false) ∧ mlZ f S n = 0 ∧ mmZ f S m n = m) ∨ ((∃ w, w < n ∧ S w = true) ∧ mmZ f S m n = if m < mlZ f S n then mlZ f S n else m) := by
  intro n
  induction n with
  | zero => intro _; exact Or.inl ⟨fun w hw => by omega, rfl, rfl⟩
  | succ n ih =>
    intro h
    have f0 := h n (by omega)
    unfold mlZ mmZ
    cases hS : S n
    · rw [if_neg (by rintro ⟨q, -⟩; cases q), if_neg (by rintro ⟨q, -⟩; cases q)]
      rcases ih (fun w hw => h w (by omega)) with ⟨a1, a2, a3⟩ | ⟨⟨w, w1, w2⟩, a2⟩
      · refine Or.inl ⟨fun w hw => ?_, a2, a3⟩
        by_cases e : w = n
        · rw [e]; exact hS
        · exact a1 w (by omega)
      · exact Or.inr ⟨⟨w, by omega, w2⟩, a2⟩
    · refine Or.inr ⟨⟨n, by omega, hS⟩, ?_⟩
      rcases ih (fun w hw => h w (by omega)) with ⟨a1, a2, a3⟩ | ⟨-, a2⟩
      · rw [a2, a3]
        simp only [true_and]
        split <;> split <;> (try split) <;> omega
      · rw [a2]
        simp only [true_and]
        split <;> split <;> (try split) <;> (try split) <;> omega
/-- a loop's turns, whatever comes behind it -/
theorem itr_fam {σ γ : Type} {B : γ → (σ → Mm → Rs) → σ → Mm → Rs} (I : Nat → σ → Mm → Prop) (e : Nat) (hs : ∀ j s M, j < e → I j s M → ∃ s' M', I (j + 1) s' M' ∧ ∀ G rec, B G rec s M = rec s' M') : ∀ (d i : Nat) (s : σ) (M : Mm), i + d = e → I i s M → ∃ s' M', I e s' M' ∧ ∀ G k, itr (B G) (k + d) s M = itr (B G) k s' M' := by
  intro d
  induction d with
  | zero => intro i s M h hI; have : i = e := by omega
            subst this; exact ⟨s, M, hI, fun G k => rfl⟩
  | succ d ih =>
    intro i s M h hI
    obtain ⟨s1, M1, h1, h2⟩ := hs i s M (by omega) hI
    obtain ⟨s2, M2, h3, h4⟩ := ih (i + 1) s1 M1 (by omega) h1
    refine ⟨s2, M2, h3, fun G k => ?_⟩
    rw [show k + (d + 1) = (k + d) + 1 by omega, itr_s, h2]
    exact h4 G k
section Who
variable {N : Nat} {M1 M2 M : Mm} {b : Int32}
/-- what is left at one harbour at the most: the class -/
theorem cmost_e (hN : 100000 ≤ N) (H : ToldR M1.1 M2.1) (hM : ∀ b, b < 34 → M.1 b = M1.1 b) {W : Int32} {S : Nat → Bool} (hW : isM W S) {p h : Nat} (hp : p < 256) (hh : h < 4) : ∃ x M', f_X8_mostLeft N (nI h) (nI p) W M = some (x, M') ∧ x.toInt = mlZ (fun w => lfZ M1 p w h) S 16 ∧ Fr [37] M M' := by
  have hn := H.num
  obtain ⟨s', Ma, rec, ⟨x, hs, hx, hF⟩, he⟩ := itr_go (B := B_X8_mostLeft_6 N (nI h) (nI p) W fun z6 M7 => some (z6, M7)) (fun j s M' => ∃ x, s = (x, nI j) ∧ x.toInt = mlZ (fun w => lfZ M1 p w h) S j ∧ Fr [37] M M') 16
    (fun rec j s Mx hj ⟨x, hs, hx, hF⟩ => by
      subst hs
      have hMx : ∀ b, b < 34 → Mx.1 b = M1.1 b := fun b hb => by rw [hF.1 b (by simp; omega)]; exact hM b hb
      unfold B_X8_mostLeft_6
      dsimp only
      rw [if_pos (by rw [lt16 (by omega)]; exact hj), bit_e _ (by omega), hW.at hj, nI_1]
      cases hS : S j
      · rw [if_pos b01_f]
        refine ⟨_, _, ⟨x, rfl, ?_, hF⟩, rfl⟩
        rw [hx, mlZ_s, if_neg (by rw [hS]; rintro ⟨q, -⟩; cases q)]
      · rw [if_neg (show ¬ b01 true = 0 by decide)]
        obtain ⟨y, b1, b2⟩ := bal_e (N := N) (M := Mx) (p := p) (w := j) (h := h) (by rw [hMx 2 (by omega)]; exact hn) hp hj hh
        rw [hMx 2 (by omega)] at b2
        obtain ⟨My, a1, a2⟩ := had_k hN H hMx hh (nI p) (nI j)
        rw [bd_of b1, bd_of a1, lt_eq]
        have l := lft_c hn hh b2
        have m0 := ml_b (f := fun w => lfZ M1 p w h) (S := S) (c := 198) (by omega) j (fun w _ => (lf_b hn hh).2)
        refine ⟨_, _, ⟨_, rfl, ?_, hF.tr a2⟩, rfl⟩
        rw [mlZ_s]
        try dsimp only
        rw [hS, ← hx]
        have e1 : lfZ M1 p j h = cut0 (-balZ (M1.1 2) p j h - (hadS M1 h (nI p) (nI j)).toInt) := rfl
        rw [e1, ← l.1]
        unfold cut0
        by_cases q : x < -y - hadS M1 h (nI p) (nI j)
        · rw [if_pos q]
          rw [toI_lt] at q
          rw [if_pos (show 0 < (-y - hadS M1 h (nI p) (nI j)).toInt by omega), if_pos ⟨rfl, q⟩]
        · rw [if_neg q]
          rw [toI_lt] at q
          split
          · rw [if_neg (fun t => q t.2)]
          · rw [if_neg (fun t => by omega)]) N 0 (0, 0) M (by omega) (by omega) ⟨0, by rw [nI_0], rfl, Fr.rf _ _⟩
  subst hs
  refine ⟨x, Ma, ?_, hx, hF⟩
  unfold f_X8_mostLeft
  rw [he]
  have eB : ∀ G rec, B_X8_mostLeft_6 N (nI h) (nI p) W G rec (x, nI 16) Ma = G x Ma := fun G rec => by
    unfold B_X8_mostLeft_6
    dsimp only
    rw [if_neg (show ¬ nI 16 < 16 by decide)]
  rw [eB]
/-- one harbour: the reference -/
theorem mmost_e (hN : 100000 ≤ N) (f : FS M1 b M) {p h : Nat} (hp : p < 256) (hP : plS (M1.1 1 0) p = true) (hh : h < 4) (hH : bt (M1.1 1 0) h = true) (y be mo : Int32) : ∃ (x : Int32) (M' : Mm), (∀ G, itr (B_X12_who_54 N (nI p) y (nI h) G) N (be, mo, 0) M = G (if mo.toInt < x.toInt then nI h else be, x) M') ∧ x.toInt = mmZ (fun w => lfZ M1 p w h) (setS M1 b) mo.toInt 16 ∧ Kb [13, 14, 15, 16] M M' ∧ FS M1 b M' := by
  obtain ⟨s', Ma, ⟨x, hs, hx, hK, hf⟩, he⟩ := itr_fam (B := fun G => B_X12_who_54 N (nI p) y (nI h) G) (fun j s M' => ∃ x : Int32, s = (if mo.toInt < x.toInt then nI h else be, x, nI j) ∧ x.toInt = mmZ (fun w => lfZ M1 p w h) (setS M1 b) mo.toInt j ∧ Kb [13, 14, 15, 16] M M' ∧ FS M1 b M') 16
    (fun j s Mx hj ⟨x, hs, hx, hK, hf⟩ => by
      subst hs
      unfold B_X12_who_54
      dsimp only
      simp only [if_pos (show nI j < 16 by rw [lt16 (by omega)]; exact hj), bd_of (mHa hf.1.t _), isHa_n hh, hH, if_neg (show ¬ b01 true = 0 by decide), inb_n (show j < 16 from hj) (by omega), ix_n (show j < 2 ^ 31 by omega), if_true, hf.2.2.2.1 j hj, nI_1]
      cases hS : setS M1 b j
      · simp only [if_pos b01_f]
        refine ⟨_, _, ⟨x, rfl, ?_, hK, hf⟩, fun _ _ => rfl⟩
        rw [hx, mmZ_s, if_neg (by rw [hS]; rintro ⟨q, -⟩; cases q)]
      · simp only [if_neg (show ¬ b01 true = 0 by decide)]
        obtain ⟨My, a1, a2, a3⟩ := lacks_m hN hf.1 hp hj hP
        have ky : Kb [13, 14, 15, 16] Mx My := fr_kb a2 (by simp) (by simp)
        have fy := hf.kb ky (by rw [a2.1 0 (by decide)])
        obtain ⟨z, Mz, b1, b2, b3, b4⟩ := left_m hN fy.1 (p := p) (w := j) hh (a3 h hh).1
        have kz : Kb [13, 14, 15, 16] My Mz := k_slots b3 b4 (by simp) (by simp)
        have fz := fy.kb kz (b4 2 (by omega) (by omega) (by omega))
        simp only [bd_of a1, bd_of b1]
        have ge := mm_ge (f := fun w => lfZ M1 p w h) (S := setS M1 b) (m := mo.toInt) j
        rw [← hx] at ge
        have e : mmZ (fun w => lfZ M1 p w h) (setS M1 b) mo.toInt (j + 1) = if x < z then z.toInt else x.toInt := by
          rw [mmZ_s]
          try dsimp only
          rw [← b2, ← hx, hS]
          by_cases q : x < z
          · rw [if_pos q, if_pos ⟨rfl, by rw [toI_lt] at q; exact q⟩]
          · rw [if_neg q, if_neg (fun t => q (by rw [toI_lt]; exact t.2))]
        by_cases q : x < z
        · rw [if_pos q] at e
          simp only [if_pos q]
          rw [toI_lt] at q
          refine ⟨_, _, ⟨z, ?_, e.symm, (hK.tr ky).tr kz, fz⟩, fun _ _ => rfl⟩
          rw [if_pos (by omega)]
        · rw [if_neg q] at e
          simp only [if_neg q]
          exact ⟨_, _, ⟨x, rfl, e.symm, (hK.tr ky).tr kz, fz⟩, fun _ _ => rfl⟩) 16 0 (be, mo, 0) M (by omega) ⟨mo, by rw [nI_0, if_neg (by omega)], rfl, Kb.rf _ _, f⟩
  subst hs
  refine ⟨x, Ma, fun G => ?_, hx, hK, hf⟩
  obtain ⟨N', hN'⟩ : ∃ N', N = (N' + 1) + 16 := ⟨N - 17, by omega⟩
  have eB : ∀ G rec, B_X12_who_54 N (nI p) y (nI h) G rec (if mo.toInt < x.toInt then nI h else be, x, nI 16) Ma = G (if mo.toInt < x.toInt then nI h else be, x) Ma := fun G rec => by
    unfold B_X12_who_54
    dsimp only
    rw [if_neg (show ¬ nI 16 < 16 by decide)]
  have := he G (N' + 1)
  rw [← hN'] at this
  rw [this, itr_s, eB]
theorem mmost_n (hN : 100000 ≤ N) (f : FS M1 b M) {p h : Nat} (hh : h < 4) (hH : bt (M1.1 1 0) h = false) (y be mo : Int32) (G : (Int32 × Int32) → Mm → Rs) : itr (B_X12_who_54 N (nI p) y (nI h) G) N (be, mo, 0) M = G (be, mo) M := by
  refine itr_for0 (fun j => (be, mo, nI j)) (fun _ => M) 16 (by rw [nI_0]) rfl (by omega) (fun rec j hj => ?_) (fun rec => ?_)
  · unfold B_X12_who_54
    dsimp only
    rw [if_pos (by rw [lt16 (by omega)]; exact hj), bd_of (mHa f.1.t _), isHa_n hh, hH, if_pos b01_f, nI_1]
  · unfold B_X12_who_54
    dsimp only
    rw [if_neg (show ¬ nI 16 < 16 by decide)]
theorem step_who (hN : 100000 ≤ N) (H : Rel M1 M2) (a c : Int32) : Ans (f_X11_who N a c M1) (f_X12_who N a c M2) := by
  unfold f_X11_who f_X12_who
  rw [bd_of (cPl hN a), bd_of (mPl hN H.1.t a)]
  cases hP : isPl (M1.1 1 0) a
  · rw [if_pos b01_f, if_pos b01_f]; exact ref1 H
  · rw [if_neg (show ¬ b01 true = 0 by decide), if_neg (show ¬ b01 true = 0 by decide), bd_of (in01 c)]
    simp only [lt_eq]
    by_cases hc : c = 0 ∨ c = 1
    · obtain ⟨p, hp, rfl, hp2⟩ := isPl_of hP
      obtain ⟨n, hn, hnl⟩ := H.nl
      obtain ⟨W, w1, w2⟩ := set_e hN hn hnl
      obtain ⟨Mb, b1, b2, b3⟩ := H.finds hN
      have ej : ∀ R : Rs, (if c = 0 then R else if c = 1 then R else bd (f_X11_refuse N (-2) M1) fun r14 M15 => some (r14, M15)) = R := fun R => by
        by_cases c0 : c = 0
        · rw [if_pos c0]
        · rw [if_neg c0, if_pos (hc.resolve_left c0)]
      rw [ej, bd_of w1, if_pos hc, if_neg (show ¬ (1 : Int32) = 0 by decide), bd_of b1]
      have hnu := H.num
      have h0 : ∀ p h, h < 4 → ∀ w, w < 16 → 0 ≤ lfZ M1 p w h := fun p h hh w _ => (lf_b hnu hh).1
      by_cases hW : W = 0
      · rw [if_pos hW]
        rw [w2.zero] at hW
        -- nothing is in the set
        obtain ⟨s', Ma, rec, ⟨hs, hK, hf⟩, he⟩ := itr_go (B := B_X12_who_45 N (nI p) c fun z15 M16 => if c = 0 then some (z15.1, M16) else some (z15.2, M16)) (fun j s M' => s = (-9, -9, nI j) ∧ Kb [13, 14, 15, 16] Mb M' ∧ FS M1 (M1.1 2 42) M') 4
          (fun rec j s Mx hj ⟨hs, hK, hf⟩ => by
            subst hs
            unfold B_X12_who_45
            dsimp only
            rw [if_pos (by rw [lt4 (by omega)]; exact hj), nI_1]
            cases hH : bt (M1.1 1 0) j
            · rw [mmost_n hN hf hj hH]
              exact ⟨_, _, ⟨rfl, hK, hf⟩, rfl⟩
            · obtain ⟨x, My, x1, x2, x3, x4⟩ := mmost_e hN hf hp hp2 hj hH c (-9) (-9)
              rw [x1]
              have ex : x = -9 := by
                rcases ml_mm (m := (-9 : Int32).toInt) 16 (h0 p j hj) with ⟨-, -, q⟩ | ⟨⟨w, w3, w4⟩, -⟩
                · exact Int32.toInt_inj.mp (by rw [x2, q])
                · rw [hW w w3] at w4; cases w4
              subst ex
              exact ⟨_, _, ⟨rfl, hK.tr x3, x4⟩, rfl⟩) N 0 (-9, -9, 0) Mb (by omega) (by omega) ⟨by rw [nI_0], Kb.rf _ _, b3.fs⟩
        subst hs
        rw [he]
        have eB : ∀ G rec, B_X12_who_45 N (nI p) c G rec (-9, -9, nI 4) Ma = G (-9, -9) Ma := fun G rec => by
          unfold B_X12_who_45
          dsimp only
          rw [if_neg (show ¬ nI 4 < 4 by decide)]
        rw [eB]
        refine Ans.q H rfl (y := -9) (M2' := Ma) ?_ rfl (Kc.rf H.2.2.2.1) ((b2.tr hK.lq).km hf.fnd.2.2)
        split <;> rfl
      · rw [if_neg hW]
        have hne : ∃ w, w < 16 ∧ setS M1 (M1.1 2 42) w = true := by
          rw [w2.zero] at hW
          rcases Classical.not_forall.mp hW with ⟨w, hw⟩
          rcases Classical.not_imp.mp hw with ⟨h1, h2⟩
          exact ⟨w, h1, by simpa using h2⟩
        -- both go harbour by harbour
        have both : ∀ j, j ≤ 4 → ∃ be mo Mx My, Fr [37] M1 Mx ∧ Kb [13, 14, 15, 16] Mb My ∧ FS M1 (M1.1 2 42) My ∧ (∀ k G, itr (B_X11_who_56 N (nI p) c W G) (k + j) (-9, -9, 0) M1 = itr (B_X11_who_56 N (nI p) c W G) k (be, mo, nI j) Mx) ∧ ∀ k G, itr (B_X12_who_45 N (nI p) c G) (k + j) (-9, -9, 0) Mb = itr (B_X12_who_45 N (nI p) c G) k (be, mo, nI j) My := by
          intro j
          induction j with
          | zero => intro _; exact ⟨-9, -9, M1, Mb, Fr.rf _ _, Kb.rf _ _, b3.fs, fun k G => by rw [nI_0]; rfl, fun k G => by rw [nI_0]; rfl⟩
          | succ j ih =>
            intro hj
            obtain ⟨be, mo, Mx, My, i1, i2, i3, i4, i5⟩ := ih (by omega)
            have hMx : ∀ b, b < 34 → Mx.1 b = M1.1 b := fun b hb => i1.1 b (by simp; omega)
            cases hH : bt (M1.1 1 0) j
            · refine ⟨be, mo, Mx, My, i1, i2, i3, fun k G => ?_, fun k G => ?_⟩
              · rw [show k + (j + 1) = (k + 1) + j by omega, i4, itr_s]
                have eB : ∀ G rec, B_X11_who_56 N (nI p) c W G rec (be, mo, nI j) Mx = rec (be, mo, nI (j + 1)) Mx := fun G rec => by
                  unfold B_X11_who_56
                  dsimp only
                  rw [if_pos (by rw [lt4 (by omega)]; omega), bd_of (cHa _), hMx 1 (by omega), isHa_n (by omega), hH, if_pos b01_f, nI_1]
                rw [eB]
              · rw [show k + (j + 1) = (k + 1) + j by omega, i5, itr_s]
                have eB : ∀ G rec, B_X12_who_45 N (nI p) c G rec (be, mo, nI j) My = rec (be, mo, nI (j + 1)) My := fun G rec => by
                  unfold B_X12_who_45
                  dsimp only
                  rw [if_pos (by rw [lt4 (by omega)]; omega), nI_1, mmost_n hN i3 (by omega) hH]
                rw [eB]
            · obtain ⟨u, Mu, u1, u2, u3⟩ := cmost_e hN H.1 hMx w2 hp (show j < 4 by omega)
              obtain ⟨x, Mv, x1, x2, x3, x4⟩ := mmost_e hN i3 hp hp2 (show j < 4 by omega) hH c be mo
              have rel : x.toInt = if mo.toInt < u.toInt then u.toInt else mo.toInt := by
                rcases ml_mm (f := fun w => lfZ M1 p w j) (S := setS M1 (M1.1 2 42)) (m := mo.toInt) 16 (h0 p j (by omega)) with ⟨q, -, -⟩ | ⟨-, q⟩
                · obtain ⟨w, w3, w4⟩ := hne
                  rw [q w w3] at w4; cases w4
                · rw [x2, q, u2]
              have eC : ∀ G rec, B_X11_who_56 N (nI p) c W G rec (be, mo, nI j) Mx = rec (if mo < u then nI j else be, x, nI (j + 1)) Mu := fun G rec => by
                unfold B_X11_who_56
                dsimp only
                rw [if_pos (by rw [lt4 (by omega)]; omega), bd_of (cHa _), hMx 1 (by omega), isHa_n (by omega), hH, if_neg (show ¬ b01 true = 0 by decide), bd_of u1, nI_1]
                by_cases q : mo < u
                · rw [if_pos q, if_pos q]
                  rw [toI_lt] at q
                  rw [if_pos q] at rel
                  rw [Int32.toInt_inj.mp rel]
                · rw [if_neg q, if_neg q]
                  rw [toI_lt] at q
                  rw [if_neg q] at rel
                  rw [Int32.toInt_inj.mp rel]
              have eM : ∀ G rec, B_X12_who_45 N (nI p) c G rec (be, mo, nI j) My = rec (if mo < u then nI j else be, x, nI (j + 1)) Mv := fun G rec => by
                unfold B_X12_who_45
                dsimp only
                rw [if_pos (by rw [lt4 (by omega)]; omega), nI_1, x1]
                dsimp only
                by_cases q : mo < u
                · rw [if_pos q]
                  rw [toI_lt] at q
                  rw [if_pos q] at rel
                  rw [if_pos (by omega)]
                · rw [if_neg q]
                  rw [toI_lt] at q
                  rw [if_neg q] at rel
                  rw [if_neg (by omega)]
              refine ⟨if mo < u then nI j else be, x, Mu, Mv, i1.tr u3, i2.tr x3, x4, fun k G => ?_, fun k G => ?_⟩
              · rw [show k + (j + 1) = (k + 1) + j by omega, i4, itr_s, eC]
              · rw [show k + (j + 1) = (k + 1) + j by omega, i5, itr_s, eM]
        obtain ⟨be, mo, Mx, My, i1, i2, i3, i4, i5⟩ := both 4 (by omega)
        obtain ⟨N', hN'⟩ : ∃ N', N = (N' + 1) + 4 := ⟨N - 5, by omega⟩
        have eC : ∀ G rec, B_X11_who_56 N (nI p) c W G rec (be, mo, nI 4) Mx = G (be, mo) Mx := fun G rec => by
          unfold B_X11_who_56
          dsimp only
          rw [if_neg (show ¬ nI 4 < 4 by decide)]
        have eM : ∀ G rec, B_X12_who_45 N (nI p) c G rec (be, mo, nI 4) My = G (be, mo) My := fun G rec => by
          unfold B_X12_who_45
          dsimp only
          rw [if_neg (show ¬ nI 4 < 4 by decide)]
        have g1 := fun G => i4 (N' + 1) G
        have g2 := fun G => i5 (N' + 1) G
        rw [← hN'] at g1 g2
        rw [g1, g2, itr_s, itr_s, eC, eM]
        have kc : Kc M1 Mx := ⟨fun k hk => i1.1 k (by simp; omega), H.2.2.2.1.fr (i1.on (by decide))⟩
        have km : Km M1 M2 My := (b2.tr i2.lq).km i3.fnd.2.2
        by_cases c0 : c = 0
        · rw [if_pos c0, if_pos c0]
          exact Ans.q H rfl rfl rfl kc km
        · rw [if_neg c0, if_neg c0]
          exact Ans.q H rfl rfl rfl kc km
    · rw [if_neg (fun q => hc (Or.inl q)), if_neg (fun q => hc (Or.inr q)), if_neg hc, if_pos rfl]
      exact ref2 H
end Who
