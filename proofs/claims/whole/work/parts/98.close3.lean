section Close3
variable {N : Nat} {M1 M2 : Mm}
theorem closes_l {b : Int32} {W : Int32} (hN : 100000 ≤ N) (H : ToldR M1.1 M2.1) (hW : isM W (setS M1 b)) {K : Nat} (hK : K ≤ 99) {Mb : Mm} (c : Int32) : ∀ (d j : Nat) (A : Nat → Bool) (un ov pl : Int32) (pr : Bool) (Mx My : Mm), j + d = K → 0 < K → (pr = true → 0 < j) → CS M1 A j un ov pl pr Mx → MS M1 b A Mb My → JS (setS M1 b) A j ov →
    ∃ A' j' un' ov' pl' pr' Mx' My', (∀ m, d < m → itr (B_X2_run_20 N (nI K) W fun _ M26 => some (0, M26)) m (nI j) Mx = some (0, Mx')) ∧ (∀ G m, d < m → itr (B_X12_close_124 N (nI K) c G) m (un, ov, pl, nI j, b01 pr) My = G (un', ov', pl', nI j', b01 pr') My') ∧ 0 < j' ∧ j' ≤ K ∧ CS M1 A' j' un' ov' pl' pr' Mx' ∧ MS M1 b A' Mb My' := by
  intro d
  induction d with
  | zero =>
    intro j A un ov pl pr Mx My hj hK0 hp h1 h2 h3
    have : j = K := by omega
    subst this
    refine ⟨A, j, un, ov, pl, pr, Mx, My, fun m hm => ?_, fun G m hm => ?_, by omega, by omega, h1, h2⟩
    · obtain ⟨m, rfl⟩ : ∃ m', m = m' + 1 := ⟨m - 1, by omega⟩
      rw [itr_s, run_e, if_neg (by rw [nlt (by omega) (by omega)]; omega)]
    · obtain ⟨m, rfl⟩ : ∃ m', m = m' + 1 := ⟨m - 1, by omega⟩
      rw [itr_s, clo_e, if_neg (by rw [nlt (by omega) (by omega)]; omega)]
  | succ d ih =>
    intro j A un ov pl pr Mx My hj hK0 hp h1 h2 h3
    cases pr
    · obtain ⟨A', un', ov', pl', pr', Mx', My', t1, t2, t3, t4, t5⟩ := turns hN H hW hK (show j < K by omega) h1 h2 h3 c
      obtain ⟨A2, j2, un2, ov2, pl2, pr2, Mx2, My2, r1, r2, r3, r4, r5, r6⟩ := ih (j + 1) A' un' ov' pl' pr' Mx' My' (by omega) hK0 (fun _ => by omega) t3 t4 t5
      refine ⟨A2, j2, un2, ov2, pl2, pr2, Mx2, My2, fun m hm => ?_, fun G m hm => ?_, r3, r4, r5, r6⟩
      · obtain ⟨m, rfl⟩ : ∃ m', m = m' + 1 := ⟨m - 1, by omega⟩
        rw [itr_s, t1]
        exact r1 m (by omega)
      · obtain ⟨m, rfl⟩ : ∃ m', m = m' + 1 := ⟨m - 1, by omega⟩
        rw [itr_s, t2]
        exact r2 G m (by omega)
    · refine ⟨A, j, un, ov, pl, true, Mx, My, fun m hm => ?_, fun G m hm => ?_, hp rfl, by omega, h1, h2⟩
      · obtain ⟨m, rfl⟩ : ∃ m', m = m' + 1 := ⟨m - 1, by omega⟩
        rw [itr_s, run_e, if_pos (by rw [nlt (by omega) (by omega)]; omega), h1.2.2.2.1, if_neg (show ¬ b01 true = 0 by decide)]
      · obtain ⟨m, rfl⟩ : ∃ m', m = m' + 1 := ⟨m - 1, by omega⟩
        rw [itr_s, clo_e, if_pos (by rw [nlt (by omega) (by omega)]; omega), if_neg (show ¬ b01 true = 0 by decide)]
theorem many_e (hN : 100000 ≤ N) {My : Mm} {A : Nat → Bool} (h22 : ∀ w, w < 16 → My.1 22 w = b01 (A w)) (a b c d e f : Int32) (G : Int32 → Mm → Rs) : itr (B_X12_close_268 N a b c d e f G) N (0, 0) My = G (nI (rk A 16)) My := by
  refine itr_for0 (fun j => (nI (rk A j), nI j)) (fun _ => My) 16 (by rw [nI_0]; rfl) rfl (by omega) (fun rec j hj => ?_) (fun rec => ?_)
  · unfold B_X12_close_268
    dsimp only
    rw [if_pos (by rw [lt16 (by omega)]; exact hj), inb_n (by omega) (by omega), ix_n (by omega), if_pos rfl, h22 j hj, rk_s]
    simp only [lt_eq, nI_1]
    cases A j
    · rw [if_pos b01_f, Int32.add_zero]; rfl
    · rw [if_neg (by decide)]; rfl
  · unfold B_X12_close_268
    dsimp only
    rw [if_neg (show ¬ nI 16 < 16 by decide)]
theorem step_close (hN : 100000 ≤ N) (H : Rel M1 M2) (a c : Int32) : Ans (f_X11_close N a c M1) (f_X12_close N a c M2) := by
  unfold f_X11_close f_X12_close
  rw [show (f_X12_isIn N c.toInt64 0 5 M2) = some (if c < 0 then 0 else if 5 < c then 0 else 1, M2) from in_lit c 5, bd_s]
  by_cases c0 : c < 0
  · rw [if_pos c0, if_pos c0, if_pos rfl]; exact ref2 H
  rw [if_neg c0, if_neg c0]
  by_cases c5 : 5 < c
  · rw [if_pos c5, if_pos c5, if_pos rfl]; exact ref2 H
  rw [if_neg c5, if_neg c5, if_neg (show ¬ (1 : Int32) = 0 by decide)]
  rw [show (f_X12_outOf N a.toInt64 1 99 M2) = some (if a < 1 then -4 else if 99 < a then -6 else 0, M2) from out_lit a 1 99, bd_s]
  by_cases a1 : a < 1
  · rw [if_pos a1, if_pos a1, if_neg (show ¬ (-4 : Int32) = 0 by decide)]; exact ref4 H
  rw [if_neg a1, if_neg a1]
  by_cases a9 : 99 < a
  · rw [if_pos a9, if_pos a9, if_neg (show ¬ (-6 : Int32) = 0 by decide)]; exact ref6 H
  rw [if_neg a9, if_neg a9, if_pos rfl]
  obtain ⟨K, K1, K2, rfl⟩ : ∃ K, 0 < K ∧ K ≤ 99 ∧ a = nI K := by
    rcases i_cases a with hx | ⟨k, hk, rfl⟩
    · exact absurd (show a < 1 by rw [toI_lt] at hx ⊢; have : (0 : Int32).toInt = 0 := rfl; have : (1 : Int32).toInt = 1 := rfl; omega) a1
    · rw [lt1 hk] at a1
      rw [gtc (c := 99) (n := 99) rfl hk (by omega)] at a9
      exact ⟨k, by omega, by omega, rfl⟩
  obtain ⟨n, hn, hnl⟩ := H.nl
  obtain ⟨W, w1, w2⟩ := set_e hN hn hnl
  obtain ⟨Mb, b1, b2, b3⟩ := H.finds hN
  rw [bd_of w1, bd_of b1]
  obtain ⟨Mc, l1, l2, l3⟩ := lows_e hN (M := Mb) (S := setS M1 (M1.1 2 42)) (fun w hw => (b3.i.1 w hw).2) (nI K) c (fun z10 M11 => if inb z10 16 = true then (if M11.1 19 (ix z10) = 0 then some (-9, M11) else if inb z10 16 = true then lt' (wI M11 22 (ix z10) (zn 1)) fun M12 => itr (B_X12_close_124 N (nI K) c fun z33 M34 => itr (B_X12_close_268 N c z33.1 z33.2.1 z33.2.2.1 z33.2.2.2.1 z33.2.2.2.2 fun z37 M38 => if c = 0 then some (z33.1, M38) else if c = 1 then some (z33.2.1, M38) else if c = 2 then some (z33.2.2.1, M38) else if c = 3 then some (z33.2.2.2.1, M38) else if c = 4 then some (z37, M38) else if z33.2.2.2.2 = 0 then some (0, M38) else some (1, M38)) N (0, 0) M34) N (0, -1, 0, 0, 0) M12 else none) else none)
  refine (?_ : Ans _ (itr (B_X12_close_50 N (nI K) c (fun z10 M11 => if inb z10 16 = true then (if M11.1 19 (ix z10) = 0 then some (-9, M11) else if inb z10 16 = true then lt' (wI M11 22 (ix z10) (zn 1)) fun M12 => itr (B_X12_close_124 N (nI K) c fun z33 M34 => itr (B_X12_close_268 N c z33.1 z33.2.1 z33.2.2.1 z33.2.2.2.1 z33.2.2.2.2 fun z37 M38 => if c = 0 then some (z33.1, M38) else if c = 1 then some (z33.2.1, M38) else if c = 2 then some (z33.2.2.1, M38) else if c = 3 then some (z33.2.2.2.1, M38) else if c = 4 then some (z37, M38) else if z33.2.2.2.2 = 0 then some (0, M38) else some (1, M38)) N (0, 0) M34) N (0, -1, 0, 0, 0) M12 else none) else none)) N (0, 15) Mb))
  rw [l1]
  have fc := b3.fs.c22 l2
  have kc := b2.tr (k22 l2)
  cases hlo : fgo (fun w => !setS M1 (M1.1 2 42) w) 0 16 with
  | none =>
    have hall : ∀ w, w < 16 → setS M1 (M1.1 2 42) w = false := fun w hw => by
      have := fgo_none _ _ hlo w (by omega) (by omega)
      simpa using this
    have hW0 : W = 0 := by rw [w2.zero]; exact hall
    rw [if_pos hW0]
    dsimp only
    have e0 : Mc.1 19 (ix 0) = 0 := by rw [fc.2.2.2.1 (ix 0) (by decide)]; rw [show ix (0 : Int32) = 0 by rfl, hall 0 (by omega)]; rfl
    rw [if_pos (by decide), if_pos e0]
    exact Ans.q H rfl rfl rfl (Kc.rf H.2.2.2.1) (kc.km fc.fnd.2.2)
  | some k =>
    have hk := fgo_some _ _ _ hlo
    have hkS : setS M1 (M1.1 2 42) k = true := by simpa using hk.2.2
    have hbelow : ∀ j, j < k → setS M1 (M1.1 2 42) j = false := by
      have gen : ∀ (d i k : Nat), fgo (fun w => !setS M1 (M1.1 2 42) w) i d = some k → ∀ j, i ≤ j → j < k → setS M1 (M1.1 2 42) j = false := by
        intro d
        induction d with
        | zero => intro i k h; cases h
        | succ d ih =>
          intro i k h j h1 h2
          unfold fgo at h
          cases hs : setS M1 (M1.1 2 42) i
          · rw [hs] at h
            by_cases e : j = i
            · rw [e]; exact hs
            · exact ih (i + 1) k h j (by omega) h2
          · rw [hs] at h
            cases h
            omega
      exact fun j hj => gen 16 0 k hlo j (by omega) hj
    have hW0 : ¬ W = 0 := by
      rw [w2.zero]
      intro q
      rw [q k hk.2.1] at hkS
      cases hkS
    rw [if_neg hW0]
    dsimp only
    rw [inb_n (show k < 16 from hk.2.1) (by omega), ix_n (by omega), if_pos rfl, fc.2.2.2.1 k hk.2.1, hkS, if_neg (show ¬ b01 true = 0 by decide), if_pos rfl, lt_eq, zn_1]
    -- the beginnings
    have hlow := low_e w2 hk.2.1 hkS hbelow
    have F0 : Fr (50 :: LA) M1 (wI (wI (wI M1 50 5 (W &&& -W)) 50 6 0) 50 4 0) := (((Fr.rf _ _).wI List.mem_cons_self).wI List.mem_cons_self).wI List.mem_cons_self
    have cs : CS M1 (loS (setS M1 (M1.1 2 42)) k) 0 0 (-1) 0 false (wI (wI (wI M1 50 5 (W &&& -W)) 50 6 0) 50 4 0) := by
      refine ⟨F0, ?_, ?_, by simp [wI_g, upd_g]; rfl, by simp [wI_g, upd_g]; rfl, fun h => by omega⟩
      · refine H.2.2.2.1.fr (fun b hb => ?_)
        have : b ≠ 50 := by simp at hb; omega
        simp [wI_g, this]
      · have : (wI (wI (wI M1 50 5 (W &&& -W)) 50 6 0) 50 4 0).1 50 5 = W &&& -W := by simp [wI_g, upd_g]
        rw [this]; exact hlow
    have F22 : Fr [22] Mc (wI Mc 22 k 1) := (Fr.rf _ _).wI (by simp)
    have ms : MS M1 (M1.1 2 42) (loS (setS M1 (M1.1 2 42)) k) M2 (wI Mc 22 k 1) := by
      refine ⟨kc.tr (k22 F22), fc.c22 F22, fun w hw => ?_⟩
      unfold loS
      rw [wI_g, if_pos rfl, upd_g]
      by_cases e : w = k
      · rw [if_pos e]; simp [e, b01]
      · rw [if_neg e, l3 w hw]; simp [e, b01]
    have js : JS (setS M1 (M1.1 2 42)) (loS (setS M1 (M1.1 2 42)) k) 0 (-1) := ⟨emp_f hk.2.1 (by unfold loS; simp), fun w hw h => by
      unfold loS at h
      simp only [decide_eq_true_eq] at h
      rw [h]; exact hkS, fun _ => rfl, fun h => by omega⟩
    obtain ⟨A, j, un, ov, pl, pr, Mx, My, r1, r2, r3, r4, r5, r6⟩ := closes_l hN H.1 w2 K2 c K 0 _ _ _ _ _ _ _ (by omega) K1 (fun h => by cases h) cs ms js
    have er : f_X2_run N (nI K) W M1 = some (0, Mx) := r1 N (by omega)
    have em := r2 (fun z33 M34 => itr (B_X12_close_268 N c z33.1 z33.2.1 z33.2.2.1 z33.2.2.2.1 z33.2.2.2.2 fun z37 M38 => if c = 0 then some (z33.1, M38) else if c = 1 then some (z33.2.1, M38) else if c = 2 then some (z33.2.2.1, M38) else if c = 3 then some (z33.2.2.2.1, M38) else if c = 4 then some (z37, M38) else if z33.2.2.2.2 = 0 then some (0, M38) else some (1, M38)) N (0, 0) M34) N (by omega)
    have em' : itr (B_X12_close_124 N (nI K) c fun z33 M34 => itr (B_X12_close_268 N c z33.1 z33.2.1 z33.2.2.1 z33.2.2.2.1 z33.2.2.2.2 fun z37 M38 => if c = 0 then some (z33.1, M38) else if c = 1 then some (z33.2.1, M38) else if c = 2 then some (z33.2.2.1, M38) else if c = 3 then some (z33.2.2.2.1, M38) else if c = 4 then some (z37, M38) else if z33.2.2.2.2 = 0 then some (0, M38) else some (1, M38)) N (0, 0) M34) N (0, -1, 0, 0, 0) (wI Mc 22 k 1) = _ := em
    rw [bd_of er, em']
    dsimp only
    rw [many_e hN r6.2.2]
    obtain ⟨f1, f2, f3, f4, f5, f6⟩ := r5
    obtain ⟨g1, g2, g3⟩ := f6 r3
    have fin : ∀ x : Int32, bd (f_X2_answer N c Mx) (fun r7 M8 => some (r7, M8)) = some (x, Mx) → (if c = 0 then some (un, My) else if c = 1 then some (ov, My) else if c = 2 then some (pl, My) else if c = 3 then some (nI j, My) else if c = 4 then some (nI (rk A 16), My) else if b01 pr = 0 then some (0, My) else some (1, My)) = some (x, My) → Ans (bd (f_X2_answer N c Mx) fun r7 M8 => some (r7, M8)) (if c = 0 then some (un, My) else if c = 1 then some (ov, My) else if c = 2 then some (pl, My) else if c = 3 then some (nI j, My) else if c = 4 then some (nI (rk A 16), My) else if b01 pr = 0 then some (0, My) else some (1, My)) := fun x h1 h2 =>
      Ans.q H h1 h2 rfl ⟨fun b hb => f1.1 b (by unfold LA; simp; omega), f2⟩ (r6.1.km r6.2.1.fnd.2.2)
    unfold f_X2_answer at fin ⊢
    by_cases q0 : c = 0
    · exact fin un (by rw [if_pos q0, g1]; rfl) (by rw [if_pos q0])
    by_cases q1 : c = 1
    · exact fin ov (by rw [if_neg q0, if_pos q1, g2]; rfl) (by rw [if_neg q0, if_pos q1])
    by_cases q2 : c = 2
    · exact fin pl (by rw [if_neg q0, if_neg q1, if_pos q2, g3]; rfl) (by rw [if_neg q0, if_neg q1, if_pos q2])
    by_cases q3 : c = 3
    · exact fin (nI j) (by rw [if_neg q0, if_neg q1, if_neg q2, if_pos q3, f5]; rfl) (by rw [if_neg q0, if_neg q1, if_neg q2, if_pos q3])
    by_cases q4 : c = 4
    · exact fin (nI (rk A 16)) (by rw [if_neg q0, if_neg q1, if_neg q2, if_neg q3, if_pos q4, bd_of (bc_e f3.hi), rk_congr 16 (fun i hi => f3.at hi)]; rfl) (by rw [if_neg q0, if_neg q1, if_neg q2, if_neg q3, if_pos q4])
    · exact fin (b01 pr) (by
        rw [if_neg q0, if_neg q1, if_neg q2, if_neg q3, if_neg q4, f4]
        cases pr <;> rfl) (by
        rw [if_neg q0, if_neg q1, if_neg q2, if_neg q3, if_neg q4]
        cases pr <;> rfl)
end Close3
