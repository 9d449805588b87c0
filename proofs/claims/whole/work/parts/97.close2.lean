/-! closing from both sides: the turns -/
def JN (rec : Int32 → Mm → Rs) (s r7 : Int32) (M12 : Mm) : Rs :=
  lt' (wI M12 50 4 ((M12.1 50 4) + 1)) fun M14 =>
  (lt' (fun (s15 : Int32) (M16 : Mm) =>
    ((if bz s15 then (lt' (wI M16 50 6 s15) fun M18 =>
    (if (M18.1 50 6) = 0 then
      (lt' (wI M18 50 5 ((M18.1 50 5) ||| (1 <<< (r7 &&& 31)))) fun M19 =>
      (rec (s + 1) M19))
    else
      (rec (s + 1) M18)) ) else none) : Rs)) fun jn17 =>
  (if (M14.1 50 2) = (M14.1 50 1) then
    (jn17 1 M14)
  else
    (jn17 0 M14)))
def JM (N : Nat) (rec : (Int32 × Int32 × Int32 × Int32 × Int32) → Mm → Rs) (un ro : Int32) (ov pl : Int32) (M : Mm) : Rs :=
  if ov = un then rec (un, ov, pl, ro + 1, 1) M else (if inb (M.1 0 33) 16 then rec (un, ov, pl, ro + 1, 0) (wI M 22 (ix (M.1 0 33)) (zn 1)) else none)
section Close2
variable {N : Nat} {M1 M2 M : Mm}
theorem run_e (p1 p2 : Int32) (G : Unit → Mm → Rs) (rec : Int32 → Mm → Rs) (s : Int32) (M : Mm) : B_X2_run_20 N p1 p2 G rec s M = if s < p1 then (if (M.1 50 6) = 0 then (bd (f_X3_bestOver N (M.1 50 5) M) fun r4 M5 => bd (f_X3_worstWorld N ((wI M5 50 1 r4).1 38 4) p2 (wI M5 50 1 r4)) fun r7 M8 => bd (f_X3_of N ((wI M5 50 1 r4).1 38 4) r7 M8) fun r9 M10 => if s = 0 then JN rec s r7 (wI (wI M10 50 2 r9) 50 3 ((wI M5 50 1 r4).1 38 4)) else if r9 < M10.1 50 2 then JN rec s r7 (wI (wI M10 50 2 r9) 50 3 ((wI M5 50 1 r4).1 38 4)) else JN rec s r7 M10) else G () M) else G () M := rfl
theorem clo_e (p1 p2 : Int32) (G : (Int32 × Int32 × Int32 × Int32 × Int32) → Mm → Rs) (rec : (Int32 × Int32 × Int32 × Int32 × Int32) → Mm → Rs) (un ov pl ro pr : Int32) (M : Mm) : B_X12_close_124 N p1 p2 G rec (un, ov, pl, ro, pr) M = if ro < p1 then (if pr = 0 then itr (B_X12_close_144 N p1 p2 ov pl (ro + 1) fun z17 M18 => bd (f_X12_borneMost N z17 M18) fun r19 M20 => bd (f_X12_worstOf N z17 0 0 M20) fun r21 M22 => if ov < 0 then JM N rec r19 ro r21 z17 M22 else if r21 < ov then JM N rec r19 ro r21 z17 M22 else JM N rec r19 ro ov pl M22) N (-1, 0) M else G (un, ov, pl, ro, pr) M) else G (un, ov, pl, ro, pr) M := by
  unfold B_X12_close_124 JM
  simp only [lt_eq]
  simp only [show ¬ (1 : Int32) = 0 by decide, if_false, if_true]
def JF (M12 : Mm) (j wd : Nat) : Mm := if M12.1 50 2 = M12.1 50 1 then wI (wI M12 50 4 (nI (j + 1))) 50 6 1 else wI (wI (wI M12 50 4 (nI (j + 1))) 50 6 0) 50 5 (M12.1 50 5 ||| (1 : Int32) <<< (nI wd &&& 31))
theorem JN_e {M12 : Mm} {j wd : Nat} (h4 : M12.1 50 4 = nI j) (rec : Int32 → Mm → Rs) : JN rec (nI j) (nI wd) M12 = rec (nI (j + 1)) (JF M12 j wd) := by
  unfold JN JF
  simp only [lt_eq]
  rw [h4, nI_1]
  have e2 : (wI M12 50 4 (nI (j + 1))).1 50 2 = M12.1 50 2 := by simp [wI_g, upd_g]
  have e1 : (wI M12 50 4 (nI (j + 1))).1 50 1 = M12.1 50 1 := by simp [wI_g, upd_g]
  rw [e2, e1]
  by_cases q : M12.1 50 2 = M12.1 50 1
  · rw [if_pos q, if_pos q, if_pos (by rfl)]
    have e6 : (wI (wI M12 50 4 (nI (j + 1))) 50 6 1).1 50 6 = 1 := by simp [wI_g, upd_g]
    rw [e6, if_neg (by decide)]
  · rw [if_neg q, if_neg q, if_pos (by rfl)]
    have e6 : (wI (wI M12 50 4 (nI (j + 1))) 50 6 0).1 50 6 = 0 := by simp [wI_g, upd_g]
    have e5 : (wI (wI M12 50 4 (nI (j + 1))) 50 6 0).1 50 5 = M12.1 50 5 := by simp [wI_g, upd_g]
    rw [e6, if_pos rfl, e5]
def CS (M1 : Mm) (A : Nat → Bool) (j : Nat) (un ov pl : Int32) (pr : Bool) (Mx : Mm) : Prop := Fr (50 :: LA) M1 Mx ∧ CacheC Mx ∧ isM (Mx.1 50 5) A ∧ Mx.1 50 6 = b01 pr ∧ Mx.1 50 4 = nI j ∧ (0 < j → Mx.1 50 1 = un ∧ Mx.1 50 2 = ov ∧ Mx.1 50 3 = pl)
def MS (M1 : Mm) (b : Int32) (A : Nat → Bool) (Mb My : Mm) : Prop := Kb Lq Mb My ∧ FS M1 b My ∧ ∀ w, w < 16 → My.1 22 w = b01 (A w)
def JS (S A : Nat → Bool) (j : Nat) (ov : Int32) : Prop := emp A = false ∧ (∀ w, w < 16 → A w = true → S w = true) ∧ (j = 0 → ov = -1) ∧ (0 < j → 0 ≤ ov.toInt)
theorem addA {A : Nat → Bool} {B : Int32} {wd : Nat} (hB : isM B A) (hw : wd < 16) : isM (B ||| (1 : Int32) <<< (nI wd &&& 31)) (fun w => A w || decide (w = wd)) := by
  intro i
  rw [or_bit (by omega), hB i]
  by_cases e : i = wd
  · subst e; simp [hw]
  · simp [e]
theorem turns {b : Int32} {W : Int32} (hN : 100000 ≤ N) (H : ToldR M1.1 M2.1) (hW : isM W (setS M1 b)) {K : Nat} (hK : K ≤ 99) {A : Nat → Bool} {j : Nat} (hj : j < K) {un ov pl : Int32} {Mx Mb My : Mm} (h1 : CS M1 A j un ov pl false Mx) (h2 : MS M1 b A Mb My) (h3 : JS (setS M1 b) A j ov) (c : Int32) :
    ∃ A' un' ov' pl' pr' Mx' My', (∀ G rec, B_X2_run_20 N (nI K) W G rec (nI j) Mx = rec (nI (j + 1)) Mx') ∧ (∀ G rec, B_X12_close_124 N (nI K) c G rec (un, ov, pl, nI j, b01 false) My = rec (un', ov', pl', nI (j + 1), b01 pr') My') ∧ CS M1 A' (j + 1) un' ov' pl' pr' Mx' ∧ MS M1 b A' Mb My' ∧ JS (setS M1 b) A' (j + 1) ov' := by
  obtain ⟨f1, f2, f3, f4, f5, f6⟩ := h1
  obtain ⟨g1, g2, g3⟩ := h2
  obtain ⟨k1, k2, k3, k4⟩ := h3
  have hn := H.num
  have e2 : Mx.1 2 = M1.1 2 := f1.1 2 (by decide)
  have e1 : Mx.1 1 = M1.1 1 := f1.1 1 (by decide)
  obtain ⟨k, kb, kp, kP, kv, kpos, kle⟩ := bv_some hn (t := M1.1 1 0) k1
  -- the class
  obtain ⟨x, Ma, a1, a2, a3, a4⟩ := best_e hN (M := Mx) (by rw [e2]; exact hn) f2 f3
  rw [e2, e1, kb] at a2 a3
  have c5 : CacheC (wI Ma 50 1 x) := a4.2.fr (fun b hb => by
    have : b ≠ 50 := by simp at hb; omega
    rw [wI_g, if_neg this])
  have q38 : (wI Ma 50 1 x).1 38 4 = nI k := by rw [wI_g, if_neg (by omega)]; exact a3
  have q2 : (wI Ma 50 1 x).1 2 = M1.1 2 := by rw [wI_g, if_neg (by omega), a4.e2, e2]
  obtain ⟨Mc, b1, b2, b3⟩ := worst_e hN (M := wI Ma 50 1 x) (p := k) (by rw [q2]; exact hn) kp c5 hW
  rw [q2] at b1
  have Sne : emp (setS M1 b) = false := by
    cases q : emp (setS M1 b)
    · rfl
    · rw [emp_t] at q
      have : emp A = true := emp_t.mpr (fun w hw => by
        cases z : A w
        · rfl
        · have := k2 w hw z
          rw [q w hw] at this
          cases this)
      rw [this] at k1; cases k1
  obtain ⟨wd, hwd⟩ : ∃ wd, wwS (cstZ (M1.1 2) k) (setS M1 b) 16 = some wd := by
    have : ¬ ∀ w, w < 16 → setS M1 b w = false := fun z => by rw [emp_t.mpr z] at Sne; cases Sne
    rcases Classical.not_forall.mp this with ⟨w, hw⟩
    rcases Classical.not_imp.mp hw with ⟨z1, z2⟩
    obtain ⟨v, z3, -⟩ := ww_ge (f := cstZ (M1.1 2) k) (n := 16) z1 (show setS M1 b w = true by simpa using z2)
    exact ⟨v, z3⟩
  have hwd2 := ww_some hwd
  rw [hwd] at b1
  have b1' : f_X3_worstWorld N (nI k) W (wI Ma 50 1 x) = some (nI wd, Mc) := b1
  have q2c : Mc.1 2 = M1.1 2 := by rw [b2.e2, q2]
  obtain ⟨y, Md, d1, d2, d3, d4⟩ := ask_e hN (M := Mc) (p := k) (w := wd) (by rw [q2c]; exact hn) kp hwd2.1 b2.2
  rw [q2c] at d2
  have x2 : x.toInt = wvZ (M1.1 2) A k := a2
  have y2 : y.toInt = wvZ (M1.1 2) (setS M1 b) k := by unfold wvZ; rw [hwd]; exact d2
  -- the reference
  obtain ⟨x', m1, m2⟩ := bmost_e hN g2 g3 k2 k1 kp kP
  have ex : x' = x := Int32.toInt_inj.mp (by rw [m2, x2])
  subst ex
  obtain ⟨y', Me, n1, n2, n3, n4, n5, n6⟩ := g2.worst hN kp kP 0 0
  rw [wv_fun (al00 _)] at n2
  rw [ww_congr 16 (al00 _) (fun _ _ _ => rfl), hwd] at n3
  have ey : y' = y := Int32.toInt_inj.mp (by rw [n2, y2])
  subst ey
  have n22 : ∀ w, w < 16 → Me.1 22 w = b01 (A w) := fun w hw => by rw [n6.e (b := 22) (by omega)]; exact g3 w hw
  have ypos : 0 ≤ y'.toInt := by rw [y2]; exact (wv_pos hn kp Sne).1
  have FD : Fr (50 :: LA) M1 Md := by
    have z1 : Fr (50 :: LA) Mx Ma := a4.1.mono (fun b hb => List.mem_cons_of_mem _ hb)
    have z2 : Fr (50 :: LA) (wI Ma 50 1 x') Mc := b2.1.mono (fun b hb => List.mem_cons_of_mem _ hb)
    have z3 : Fr (50 :: LA) Mc Md := d3.1.mono (fun b hb => List.mem_cons_of_mem _ hb)
    exact (((f1.tr z1).wI List.mem_cons_self).tr z2).tr z3
  have c50 : ∀ k, k ≠ 1 → Md.1 50 k = Mx.1 50 k := fun k hk => by
    rw [d3.1.1 50 (by decide), b2.1.1 50 (by decide), wI_g, if_pos rfl, upd_ne hk, a4.1.1 50 (by decide)]
  have c501 : Md.1 50 1 = x' := by
    rw [d3.1.1 50 (by decide), b2.1.1 50 (by decide), wI_g, if_pos rfl, upd_at]
  -- both decide alike whether the plan is better
  have hB : ∀ G rec, B_X2_run_20 N (nI K) W G rec (nI j) Mx = if nI j = 0 then JN rec (nI j) (nI wd) (wI (wI Md 50 2 y') 50 3 (nI k)) else if y' < Mx.1 50 2 then JN rec (nI j) (nI wd) (wI (wI Md 50 2 y') 50 3 (nI k)) else JN rec (nI j) (nI wd) Md := fun G rec => by
    rw [run_e, if_pos (by rw [nlt (by omega) (by omega)]; exact hj), f4, if_pos b01_f, bd_of a1, q38, bd_of b1', bd_of d1, c50 2 (by omega)]
  have hR : ∀ G rec, B_X12_close_124 N (nI K) c G rec (un, ov, pl, nI j, b01 false) My = if ov < 0 then JM N rec x' (nI j) y' (nI k) Me else if y' < ov then JM N rec x' (nI j) y' (nI k) Me else JM N rec x' (nI j) ov pl Me := fun G rec => by
    rw [clo_e, if_pos (by rw [nlt (by omega) (by omega)]; exact hj), if_pos b01_f, bbest_e hN g2 g3 k2 k1 _ _ _ _ _ _ kb, bd_of m1, bd_of n1]
  have n3' : Me.1 0 33 = nI wd := n3
  -- what follows from a plan that is kept
  have fin : ∀ (ov' pl' : Int32) (Mz : Mm), Fr (50 :: LA) M1 Mz → CacheC Mz → Mz.1 50 1 = x' → Mz.1 50 2 = ov' → Mz.1 50 3 = pl' → Mz.1 50 4 = nI j → Mz.1 50 5 = Mx.1 50 5 → 0 ≤ ov'.toInt → (∀ G rec, B_X2_run_20 N (nI K) W G rec (nI j) Mx = JN rec (nI j) (nI wd) Mz) → (∀ G rec, B_X12_close_124 N (nI K) c G rec (un, ov, pl, nI j, b01 false) My = JM N rec x' (nI j) ov' pl' Me) → ∃ A' un' ov' pl' pr' Mx' My', (∀ G rec, B_X2_run_20 N (nI K) W G rec (nI j) Mx = rec (nI (j + 1)) Mx') ∧ (∀ G rec, B_X12_close_124 N (nI K) c G rec (un, ov, pl, nI j, b01 false) My = rec (un', ov', pl', nI (j + 1), b01 pr') My') ∧ CS M1 A' (j + 1) un' ov' pl' pr' Mx' ∧ MS M1 b A' Mb My' ∧ JS (setS M1 b) A' (j + 1) ov' := by
    intro ov' pl' Mz z1 z2 z3 z4 z5 z6 z7 z8 z9 z10
    have zc : ∀ {Mw : Mm}, Fr [50] Mz Mw → CacheC Mw := fun F => z2.fr (F.on (by decide))
    by_cases q : ov' = x'
    · refine ⟨A, x', ov', pl', true, JF Mz j wd, Me, fun G rec => by rw [z9, JN_e z6], fun G rec => ?_, ?_, ⟨g1.tr n4, n5, n22⟩, k1, k2, fun h => by omega, fun _ => z8⟩
      · rw [z10]; unfold JM; rw [if_pos q, nI_1]; rfl
      · unfold JF
        rw [z4, z3, if_pos q]
        have F : Fr [50] Mz (wI (wI Mz 50 4 (nI (j + 1))) 50 6 1) := ((Fr.rf _ _).wI (by simp)).wI (by simp)
        refine ⟨z1.tr (F.mono (by simp)), zc F, ?_, by simp [wI_g, upd_g]; rfl, by simp [wI_g, upd_g], fun _ => ⟨by rw [← z3]; simp [wI_g, upd_g], by rw [← z4]; simp [wI_g, upd_g], by rw [← z5]; simp [wI_g, upd_g]⟩⟩
        have : (wI (wI Mz 50 4 (nI (j + 1))) 50 6 1).1 50 5 = Mx.1 50 5 := by rw [← z7]; simp [wI_g, upd_g]
        rw [this]; exact f3
    · refine ⟨fun w => A w || decide (w = wd), x', ov', pl', false, JF Mz j wd, wI Me 22 wd 1, fun G rec => by rw [z9, JN_e z6], fun G rec => ?_, ?_, ⟨(g1.tr n4).tr (k22 ((Fr.rf _ _).wI (by simp))), n5.c22 ((Fr.rf _ _).wI (by simp)), fun w hw => ?_⟩, emp_f hwd2.1 (by simp), fun w hw h => ?_, fun h => by omega, fun _ => z8⟩
      · rw [z10]; unfold JM; rw [if_neg q, n3', inb_n (by omega) (by omega), ix_n (by omega), if_pos rfl, nI_1, zn_1]; rfl
      · unfold JF
        rw [z4, z3, if_neg q]
        have F : Fr [50] Mz (wI (wI (wI Mz 50 4 (nI (j + 1))) 50 6 0) 50 5 (Mz.1 50 5 ||| (1 : Int32) <<< (nI wd &&& 31))) := (((Fr.rf _ _).wI (by simp)).wI (by simp)).wI (by simp)
        refine ⟨z1.tr (F.mono (by simp)), zc F, ?_, by simp [wI_g, upd_g]; rfl, by simp [wI_g, upd_g], fun _ => ⟨by rw [← z3]; simp [wI_g, upd_g], by rw [← z4]; simp [wI_g, upd_g], by rw [← z5]; simp [wI_g, upd_g]⟩⟩
        have : (wI (wI (wI Mz 50 4 (nI (j + 1))) 50 6 0) 50 5 (Mz.1 50 5 ||| (1 : Int32) <<< (nI wd &&& 31))).1 50 5 = Mx.1 50 5 ||| (1 : Int32) <<< (nI wd &&& 31) := by rw [← z7]; simp [wI_g, upd_g]
        rw [this]; exact addA f3 hwd2.1
      · rw [wI_g, if_pos rfl, upd_g]
        by_cases e : w = wd
        · rw [if_pos e]; simp [e, b01]
        · rw [if_neg e, n22 w hw]; simp [e]
      · simp only [Bool.or_eq_true, decide_eq_true_eq] at h
        rcases h with h | h
        · exact k2 w hw h
        · rw [h]; exact hwd2.2
  have cMd : CacheC Md := d3.2
  have mk : ∀ {Mw : Mm}, Fr [50] Md Mw → Fr (50 :: LA) M1 Mw ∧ CacheC Mw := fun F => ⟨FD.tr (F.mono (by simp)), cMd.fr (F.on (by decide))⟩
  have Fu : Fr [50] Md (wI (wI Md 50 2 y') 50 3 (nI k)) := ((Fr.rf _ _).wI (by simp)).wI (by simp)
  have useNew := fin y' (nI k) (wI (wI Md 50 2 y') 50 3 (nI k)) (mk Fu).1 (mk Fu).2 (by rw [← c501]; simp [wI_g, upd_g]) (by simp [wI_g, upd_g]) (by simp [wI_g, upd_g]) (by rw [← f5, ← c50 4 (by omega)]; simp [wI_g, upd_g]) (by rw [← c50 5 (by omega)]; simp [wI_g, upd_g]) ypos
  by_cases j0 : j = 0
  · refine useNew (fun G rec => by rw [hB, if_pos (by rw [j0]; rfl)]) (fun G rec => by rw [hR, if_pos (by rw [k3 j0]; decide)])
  · have jn0 : ¬ nI j = 0 := by rw [eq0 (by omega)]; exact j0
    have ovp := k4 (by omega)
    have on0 : ¬ ov < 0 := by rw [zL]; omega
    have eo := (f6 (by omega)).2.1
    by_cases q : y' < ov
    · exact useNew (fun G rec => by rw [hB, if_neg jn0, eo, if_pos q]) (fun G rec => by rw [hR, if_neg on0, if_pos q])
    · refine fin ov pl Md FD cMd c501 (by rw [c50 2 (by omega)]; exact eo) (by rw [c50 3 (by omega)]; exact (f6 (by omega)).2.2) (by rw [c50 4 (by omega)]; exact f5) (c50 5 (by omega)) ovp (fun G rec => by rw [hB, if_neg jn0, eo, if_neg q]) (fun G rec => by rw [hR, if_neg on0, if_neg q])
end Close2
