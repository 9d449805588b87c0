/-! a rule is told -/
theorem num_congr {tx tx' : Nat → Int32} {n : Nat} (h : ∀ i, pk tx n i = pk tx' n i) : ∀ f i a, numS tx n f i a = numS tx' n f i a := by
  intro f
  induction f with
  | zero => intro i a; rfl
  | succ f ih => intro i a; unfold numS; simp only [h, ih]
theorem rw_congr {tx tx' : Nat → Int32} {n : Nat} {sn : Int32 → Bool} (h : ∀ i, pk tx n i = pk tx' n i) : ∀ f md dep i a, rwS tx n sn f md dep i a = rwS tx' n sn f md dep i a := by
  intro f
  induction f with
  | zero => intro md dep i a; rfl
  | succ f ih =>
    intro md dep i a
    unfold rwS
    simp only [h, ih, num_congr h]
theorem RuOk.congr {len : Int32} {pt : Nat → Int32} {ha : Int32} {tx tx' : Nat → Int32} {sz : Int32} (h : ∀ i, i < 40 → tx i = tx' i) (H : RuOk len pt ha tx sz) : RuOk len pt ha tx' sz := by
  rcases H with H | ⟨h0, n, m, sn, v, h1, h2, h3, h4, h5⟩
  · exact Or.inl H
  · refine Or.inr ⟨h0, n, m, sn, v, h1, h2, h3, ?_, h5⟩
    rw [← h4]
    exact rw_congr (pk_congr (fun i hi => (h i (by omega)).symm)) _ _ _ _ _
section SRule
variable {N : Nat} {M1 M2 : Mm}
theorem gone2 (H : Rel M1 M2) {Ma Mb : Mm} (F : Fr [30, 34, 35, 36] M1 Ma) (h1 : Ma.1 30 1 = 0) (G : Fr [0] M2 Mb) (hs : ∀ k, k ≠ 14 → k ≠ 16 → Mb.1 0 k = M2.1 0 k) (h14 : Mb.1 0 14 = 0) : Rel Ma Mb := by
  obtain ⟨t, b, ⟨c1, c2, c3, c4⟩, d, e⟩ := H
  refine ⟨t.fr (F.on (by decide)) (G.on (by decide)) (hs 15 (by omega) (by omega)) (hs 39 (by omega) (by omega)), b.fr (by rw [F.1 0 (by decide)]) (F.on (by decide)) (G.on (by decide)) (hs 48 (by omega) (by omega)) (hs 49 (by omega) (by omega)) (hs 50 (by omega) (by omega)), ⟨?_, ?_, ⟨0, by omega, by rw [h1]; rfl, by rw [h14]; rfl, fun i hi => by omega⟩, ?_⟩, d.fr (F.on (by decide)), e.fr (F.on (by decide)) (G.on (by decide)) (hs 2 (by omega) (by omega))⟩
  · rw [F.1 33 (by decide), G.1 1 (by decide)]; exact c1
  · rw [F.1 1 (by decide), F.1 27 (by decide), F.1 28 (by decide), F.1 29 (by decide), hs 5 (by omega) (by omega), G.1 3 (by decide), G.1 4 (by decide)]; exact c2
  · rw [F.1 0 (by decide), F.1 32 (by decide), hs 37 (by omega) (by omega), G.1 23 (by decide)]; exact c4
theorem rcpy_e (hN : 100000 ≤ N) {M : Mm} {n k : Nat} (hn : n ≤ 40) (hk : k < 4) (G : Unit → Mm → Rs) : ∃ M', itr (B_X12_rule_68 N (nI k) (nI n) G) N 0 M = G () M' ∧ Fr [8] M M' ∧ (∀ i, i < n → M'.1 8 (40 * k + i) = M.1 5 i) ∧ ∀ i, i < 40 * k ∨ 40 * k + 40 ≤ i → M'.1 8 i = M.1 8 i := by
  obtain ⟨s', Ma, rec, ⟨hs, hF, hv, ho⟩, he⟩ := itr_go (B := B_X12_rule_68 N (nI k) (nI n) G) (fun j s M' => s = nI j ∧ Fr [8] M M' ∧ (∀ i, i < j → M'.1 8 (40 * k + i) = M.1 5 i) ∧ ∀ i, i < 40 * k ∨ 40 * k + 40 ≤ i → M'.1 8 i = M.1 8 i) n
    (fun rec j s Mx hj ⟨hs, hF, hv, ho⟩ => by
      subst hs
      unfold B_X12_rule_68
      rw [if_pos (by rw [nlt (by omega) (by omega)]; exact hj), inb_n (by omega) (by omega), ix_n (by omega), lmul40, nI_add, inb_n (by omega) (by omega), ix_n (by omega), if_pos rfl, if_pos rfl, lt_eq, nI_1, hF.1 5 (by decide)]
      refine ⟨_, _, ⟨rfl, hF.wI (by simp), fun i hi => ?_, fun i hi => ?_⟩, rfl⟩
      · rw [wI_g, if_pos rfl, upd_g]
        by_cases e : i = j
        · rw [if_pos (by omega), e]
        · rw [if_neg (by omega)]; exact hv i (by omega)
      · rw [wI_g, if_pos rfl, upd_ne (by omega)]; exact ho i hi) N 0 0 M (by omega) (by omega) ⟨nI_0.symm, Fr.rf _ _, fun i hi => by omega, fun _ _ => rfl⟩
  subst hs
  rw [he]
  unfold B_X12_rule_68
  rw [if_neg (by rw [nlt (by omega) (by omega)]; omega)]
  exact ⟨Ma, rfl, hF, hv, ho⟩
theorem cpy_lt {f g : Nat → Int32} {i : Nat} (h : i < 40) : va_cpy f g 0 0 40 i = f i := by
  unfold va_cpy
  rw [if_pos (by omega)]
  congr 1
  omega
theorem step_rule (hN : 100000 ≤ N) (H : Rel M1 M2) (a b : Int32) : Ans (f_X11_rule N a b M1) (f_X12_rule N a b M2) := by
  unfold f_X11_rule f_X12_rule
  rw [bd_of (cHa a), bd_of (mHa H.1.t a)]
  cases hP : isHa (M1.1 1 0) a
  · rw [if_pos b01_f, if_pos b01_f]; exact ref1 H
  · rw [if_neg (show ¬ b01 true = 0 by decide), if_neg (show ¬ b01 true = 0 by decide), show (9 : Int64) = (9 : Int32).toInt64 by rfl, show (0 : Int64) = (0 : Int32).toInt64 by rfl, bd_of (out_lit b 0 9)]
    by_cases d0 : b < 0
    · rw [if_pos d0, if_pos d0, if_neg (show ¬ (-4 : Int32) = 0 by decide)]; exact ref4 H
    · rw [if_neg d0, if_neg d0]
      by_cases d9 : 9 < b
      · rw [if_pos d9, if_pos d9, if_neg (show ¬ (-6 : Int32) = 0 by decide)]; exact ref6 H
      · rw [if_neg d9, if_neg d9, if_pos rfl]
        obtain ⟨h, h1, rfl, h2⟩ := isHa_of hP
        have H0 := H
        have hT := H.1.t
        have hnu := H.1.nu
        obtain ⟨⟨tn, tl, r, y⟩, bb, ⟨c1, c2, ⟨n, t1, t2, t3, t4⟩, c4⟩, d, e⟩ := H
        obtain ⟨V, v1, v2⟩ := seen_e hN tn.2.1 b
        rw [bd_of v1]
        -- which harbours may be asked of
        generalize hsn0 : (fun x : Int32 => isHa (M1.1 1 0) x && !decide (b < M2.1 2 (6 * ix x + 5))) = sn
        have hSn : SnOk sn := by
          intro x hx
          rw [← hsn0] at hx
          simp only [Bool.and_eq_true] at hx
          obtain ⟨k, k1, k2, -⟩ := isHa_of hx.1
          exact ⟨k, k1, k2⟩
        have hSm : SnM M2 b sn := ⟨M1.1 1 0, hT, fun x => by rw [← hsn0]⟩
        have hSd : ∀ k, k < 4 → sn (nI k) = bt V k := by
          intro k hk
          rw [← hsn0, v2 k]
          unfold snB
          dsimp only
          rw [isHa_n hk, ix_n (by omega), hnu (6 * k + 5) (by omega)]
          simp [hk]
        -- the class reads
        have F0 : Fr [30, 34, 35, 36] M1 (wI (wI M1 34 3 V) 35 1 0) := ((Fr.rf _ _).wI (by simp)).wI (by simp)
        obtain ⟨Mp, p1, p2, p3⟩ := tbeg (N := N) (M := wI (wI M1 34 3 V) 35 1 0) (n := n) (by rw [← t2]; simp [wI_g])
        have e31 : (wI (wI M1 34 3 V) 35 1 0).1 31 = M1.1 31 := by simp [wI_g]
        rw [e31] at p2
        have q34 : Mp.1 34 3 = V := by rw [p3.1 34 (by decide)]; simp [wI_g, upd_g]
        have q35 : Mp.1 35 1 = nI 0 := by rw [p3.1 35 (by decide)]; simp [wI_g, upd_g]; rfl
        obtain ⟨x, Mq, q1, q2, q3⟩ := (rul_r hN t1 hSn hSd 200).2.2.1 20 0 0 Mp 0 (fun _ _ => 0) (by omega) (by omega) (by omega) (by omega) p2 q34 q35 (by omega)
        have q1' : (gr_rules N 20).1 0 Mp = some (x, Mq) := q1
        have hb := rw_b (tx := M1.1 31) (n := n) hSn 200 2 0 0 (fun _ _ => 0) (by omega)
        have ec : rwS (M2.1 5) n sn 200 2 0 0 (fun _ _ => 0) = rwS (M1.1 31) n sn 200 2 0 0 (fun _ _ => 0) := rw_congr (pk_congr (fun i hi => (t4 i hi).1.symm)) _ _ _ _ _
        have hm := isr_e (tx := M2.1 5) hN t1 t3 rfl hSm hSn (fun i hi => (t4 i hi).2.1)
        rw [ec] at hm
        have FQ : Fr [30, 34, 35, 36] M1 Mq := (F0.tr (p3.mono (by simp))).tr (q2.mono (by simp))
        have er : ∀ G : Int32 → Mm → Rs, bd (f_X8_read N V M1) G = bd (f_X9_end N Mq) fun _ M8 => G 0 M8 := by
          intro G
          unfold f_X8_read
          simp only [lt_eq]
          rw [bd_of p1, bd_of q1']
          unfold bd
          cases f_X9_end N Mq <;> rfl
        rw [er]
        split at q3
        · rename_i q he
          rw [he] at hm
          obtain ⟨Mm', m1, m2⟩ := hm
          have hq := hb.1 q he
          rw [bd_of (tend_f q3.1 (by omega)), bd_of m1]
          simp only [lt_eq]
          have e3 : (wI Mq 30 1 0).1 30 3 = nI q := by rw [← q3.1.2.2]; simp [wI_g, upd_g]
          have e16 : (wI Mm' 0 14 0).1 0 16 = nI q := by rw [← m2.2.2]; simp [wI_g, upd_g]
          rw [e3, e16, if_neg (nI_pos (by omega)), if_pos trivial]
          refine ⟨_, _, _, rfl, rfl, gone2 H0 (FQ.wI (by simp)) (by simp [wI_g, upd_g]) (m2.1.wI (by simp)) (fun k k1 k2 => ?_) (by simp [wI_g, upd_g])⟩
          rw [← m2.2.1 k k2]; simp [wI_g, upd_g, k1]
        · rename_i j v he
          rw [he] at hm
          obtain ⟨Mm', m1, m2⟩ := hm
          have hj := hb.2 j v he
          obtain ⟨tt, kk, b1, b2, b3, b4⟩ := q3
          rw [bd_of (tend_x tt t1 hj.2.1), bd_of m1]
          simp only [lt_eq]
          by_cases hjn : j = n
          · rw [if_pos hjn, if_pos hjn, if_neg (show ¬ (1 : Int32) = 0 by decide)]
            subst hjn
            have e3 : (wI Mq 30 1 0).1 30 3 = -1 := by rw [← tt.2.2.2]; simp [wI_g, upd_g]
            rw [e3, if_pos (by decide)]
            have FA : Fr [30, 34, 35, 36] M1 (wI Mq 30 1 0) := FQ.wI (by simp)
            have a30 : (wI Mq 30 1 0).1 30 1 = 0 := by simp [wI_g, upd_g]
            have a35 : (wI Mq 30 1 0).1 35 1 = nI kk := by rw [wI_g, if_neg (by omega), b2, Nat.zero_add]
            have a36 : (wI Mq 30 1 0).1 36 = Mq.1 36 := by simp [wI_g]
            generalize wI Mq 30 1 0 = Ma at FA a30 a35 a36
            have ek : f_X8_keep N (nI h) Ma = some (0, wI (wR Ma (6 + 2 * h) (va_cpy (Ma.1 36) (Ma.1 (6 + 2 * h)) 0 0 40)) (5 + 2 * h) 1 (nI kk)) := by
              unfold f_X8_keep f_X7_copy
              rw [inb_n (by omega) (by omega), ix_n (by omega), if_pos rfl]
              simp only [lt_eq]
              rw [show 5 + 2 * h + 1 = 6 + 2 * h by omega]
              have : (wR Ma (6 + 2 * h) (va_cpy (Ma.1 (35 + 1)) (Ma.1 (6 + 2 * h)) 0 0 40)).1 35 1 = nI kk := by rw [wR_g, if_neg (by omega)]; exact a35
              rw [this]
              rfl
            rw [bd_of ek]
            have e14 : Mm'.1 0 14 = nI j := by rw [m2.2.1 14 (by omega)]; exact t3
            rw [e14]
            have kk0 : 0 < kk := by
              rcases Nat.eq_zero_or_pos kk with q | q
              · rw [q] at b4
                exact absurd (b4 0 0 []) (by intro z; cases z)
              · exact q
            obtain ⟨Mc, k1, k2, k3, k4⟩ := rcpy_e hN (M := wI Mm' 0 14 0) t1 h1 (fun _ M10 => if inb (nI h) 4 = true then (if inb (nI h) 4 = true then some (1, wI (wI M10 9 (ix (nI h)) (nI j)) 12 (ix (nI h)) (zn 1)) else none) else none)
            refine (?_ : Ans _ (itr (B_X12_rule_68 N (nI h) (nI j) (fun _ M10 => if inb (nI h) 4 = true then (if inb (nI h) 4 = true then some (1, wI (wI M10 9 (ix (nI h)) (nI j)) 12 (ix (nI h)) (zn 1)) else none) else none)) N 0 (wI Mm' 0 14 0)))
            rw [k1, inb_n (by omega) (by omega), ix_n (by omega), if_pos rfl, if_pos rfl, zn_1]
            have GB : Fr [0, 8, 9, 12] M2 (wI (wI Mc 9 h (nI j)) 12 h 1) := ((((m2.1.mono (by simp)).wI (by simp)).tr (k2.mono (by simp))).wI (by simp)).wI (by simp)
            have s0 : ∀ k, k ≠ 14 → k ≠ 16 → (wI (wI Mc 9 h (nI j)) 12 h 1).1 0 k = M2.1 0 k := fun k z1 z2 => by
              have : Mc.1 0 k = M2.1 0 k := by rw [k2.1 0 (by decide), ← m2.2.1 k z2]; simp [wI_g, upd_g, z1]
              rw [← this]; simp [wI_g]
            have v14 : (wI (wI Mc 9 h (nI j)) 12 h 1).1 0 14 = 0 := by
              have : Mc.1 0 14 = 0 := by rw [k2.1 0 (by decide)]; simp [wI_g, upd_g]
              rw [← this]; simp [wI_g]
            have v9 : (wI (wI Mc 9 h (nI j)) 12 h 1).1 9 = upd (M2.1 9) h (nI j) := by
              have : Mc.1 9 = M2.1 9 := by rw [k2.1 9 (by decide), ← m2.1.1 9 (by decide)]; simp [wI_g]
              rw [← this]; simp [wI_g]
            have v12 : (wI (wI Mc 9 h (nI j)) 12 h 1).1 12 = upd (M2.1 12) h 1 := by
              have : Mc.1 12 = M2.1 12 := by rw [k2.1 12 (by decide), ← m2.1.1 12 (by decide)]; simp [wI_g]
              rw [← this]; simp [wI_g]
            have v8 : (wI (wI Mc 9 h (nI j)) 12 h 1).1 8 = Mc.1 8 := by simp [wI_g]
            have m8 : ∀ i, i < 40 * h ∨ 40 * h + 40 ≤ i → Mc.1 8 i = M2.1 8 i := fun i hi => by
              rw [k4 i hi, ← m2.1.1 8 (by decide)]; simp [wI_g]
            have m5 : ∀ i, i < j → Mc.1 8 (40 * h + i) = M2.1 5 i := fun i hi => by
              rw [k3 i hi, ← m2.1.1 5 (by decide)]; simp [wI_g]
            -- the class's cells now
            have cell : ∀ k, k ≠ 5 + 2 * h → k ≠ 6 + 2 * h → (wI (wR Ma (6 + 2 * h) (va_cpy (Ma.1 36) (Ma.1 (6 + 2 * h)) 0 0 40)) (5 + 2 * h) 1 (nI kk)).1 k = Ma.1 k := fun k z1 z2 => by
              rw [wI_g, if_neg z1, wR_g, if_neg z2]
            have u5 : (wI (wR Ma (6 + 2 * h) (va_cpy (Ma.1 36) (Ma.1 (6 + 2 * h)) 0 0 40)) (5 + 2 * h) 1 (nI kk)).1 (5 + 2 * h) 1 = nI kk := by rw [wI_g, if_pos rfl, upd_at]
            have u6 : (wI (wR Ma (6 + 2 * h) (va_cpy (Ma.1 36) (Ma.1 (6 + 2 * h)) 0 0 40)) (5 + 2 * h) 1 (nI kk)).1 (6 + 2 * h) = va_cpy (Ma.1 36) (Ma.1 (6 + 2 * h)) 0 0 40 := by rw [wI_g, if_neg (by omega), wR_g, if_pos rfl]
            generalize wI (wR Ma (6 + 2 * h) (va_cpy (Ma.1 36) (Ma.1 (6 + 2 * h)) 0 0 40)) (5 + 2 * h) 1 (nI kk) = MF at cell u5 u6
            generalize wI (wI Mc 9 h (nI j)) 12 h 1 = ME at *
            have cm : ∀ k, k ∉ [5, 6, 7, 8, 9, 10, 11, 12, 30, 34, 35, 36] → MF.1 k = M1.1 k := fun k hk => by
              rw [cell k (by simp at hk; omega) (by simp at hk; omega), FA.1 k (by simp at hk ⊢; omega)]
            have con : ∀ K : List Nat, (∀ k ∈ K, k ∉ [5, 6, 7, 8, 9, 10, 11, 12, 30, 34, 35, 36]) → ∀ k ∈ K, MF.1 k = M1.1 k := fun K hK k hk => cm k (hK k hk)
            refine ⟨1, MF, ME, rfl, rfl, ⟨?_, ?_, fun k hk => ?_, ?_⟩, bb.fr (by rw [cm 0 (by decide)]) (con _ (by decide)) (GB.on (by decide)) (s0 48 (by omega) (by omega)) (s0 49 (by omega) (by omega)) (s0 50 (by omega) (by omega)), ⟨?_, ?_, ⟨0, by omega, by rw [cell 30 (by omega) (by omega), a30]; rfl, by rw [v14]; rfl, fun i hi => by omega⟩, ?_⟩, d.fr (con _ (by decide)), e.fr (con _ (by decide)) (GB.on (by decide)) (s0 2 (by omega) (by omega))⟩
            · rw [cm 1 (by decide), cm 2 (by decide), GB.1 2 (by decide)]; exact tn
            · rw [cm 1 (by decide), cm 3 (by decide), s0 15 (by omega) (by omega), GB.1 11 (by decide), GB.1 6 (by decide), GB.1 7 (by decide)]; exact tl
            · rw [v12, v9, v8]
              by_cases hkh : k = h
              · subst hkh
                rw [upd_at, upd_at, show 1 + 4 + 2 * k = 5 + 2 * k by omega, show 1 + 5 + 2 * k = 6 + 2 * k by omega, u5, u6]
                refine Or.inr ⟨rfl, j, kk, sn, v, t1, rfl, hSn, ?_, kk0, by omega, rfl, fun p w => ?_⟩
                · rw [← he]
                  refine rw_congr (pk_congr (fun i hi => ?_)) _ _ _ _ _
                  rw [m5 i hi]; exact (t4 i hi).1.symm
                · rw [rp_congr (pt' := Mq.1 36) kk (fun i hi => by rw [cpy_lt (by omega), a36])]
                  exact b4 p w []
              · rw [upd_ne hkh, upd_ne hkh, cell _ (by omega) (by omega), cell _ (by omega) (by omega), FA.1 _ (by simp; omega), FA.1 _ (by simp; omega)]
                refine (r k hk).congr (fun i hi => ?_)
                exact (m8 _ (by omega)).symm
            · rw [cm 1 (by decide), cm 13 (by decide), s0 39 (by omega) (by omega), GB.1 24 (by decide)]; exact y
            · rw [cm 33 (by decide), GB.1 1 (by decide)]; exact c1
            · rw [cm 1 (by decide), cm 27 (by decide), cm 28 (by decide), cm 29 (by decide), s0 5 (by omega) (by omega), GB.1 3 (by decide), GB.1 4 (by decide)]; exact c2
            · rw [cm 0 (by decide), cm 32 (by decide), s0 37 (by omega) (by omega), GB.1 23 (by decide)]; exact c4
          · rw [if_neg hjn, if_neg hjn, if_pos rfl]
            have e3 : (wI (wI Mq 30 3 (nI j)) 30 1 0).1 30 3 = nI j := by simp [wI_g, upd_g]
            have e16 : (wI Mm' 0 14 0).1 0 16 = nI j := by rw [← m2.2.2]; simp [wI_g, upd_g]
            rw [e3, e16, if_neg (nI_pos (by omega))]
            refine ⟨_, _, _, rfl, rfl, gone2 H0 ((FQ.wI (by simp)).wI (by simp)) (by simp [wI_g, upd_g]) (m2.1.wI (by simp)) (fun k k1 k2 => ?_) (by simp [wI_g, upd_g])⟩
            rw [← m2.2.1 k k2]; simp [wI_g, upd_g, k1]
end SRule
