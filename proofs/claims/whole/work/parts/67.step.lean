/-! STEPS: a call on both sides -/
theorem Fr.on {L K : List Nat} {M M' : Mm} (h : Fr L M M') (hd : ∀ b ∈ K, b ∉ L) : ∀ b ∈ K, M'.1 b = M.1 b := fun b hb => h.1 b (hd b hb)
def T1 : List Nat := [1, 2, 3, 5, 6, 7, 8, 9, 10, 11, 12, 13]
def T2l : List Nat := [2, 6, 7, 8, 9, 11, 12, 24]
def I1 : List Nat := [14, 15, 16, 18, 19, 20, 21, 22, 23, 24, 25, 26]
def I2 : List Nat := [25, 26, 27, 28, 29, 30, 31, 32]
theorem TRr.fr {C C' : Nat → Nat → Int32} {b : Nat} {ha ru rs : Nat → Int32} (h : ∀ k, k < 4 → C' (b + 4 + 2 * k) = C (b + 4 + 2 * k) ∧ C' (b + 5 + 2 * k) = C (b + 5 + 2 * k)) (H : TRr C b ha ru rs) : TRr C' b ha ru rs := by
  intro k hk
  rw [(h k hk).1, (h k hk).2]
  exact H k hk
theorem ToldR.fr {C C' D D' : Nat → Nat → Int32} (h1 : ∀ b ∈ T1, C' b = C b) (h2 : ∀ b ∈ T2l, D' b = D b) (h3 : D' 0 15 = D 0 15) (h4 : D' 0 39 = D 0 39) (H : ToldR C D) : ToldR C' D' := by
  obtain ⟨a1, a2, a3, a4⟩ := H
  unfold ToldR
  rw [h1 1 (by decide), h1 2 (by decide), h1 3 (by decide), h1 13 (by decide), h2 2 (by decide), h2 6 (by decide), h2 7 (by decide), h2 8 (by decide), h2 9 (by decide), h2 11 (by decide), h2 12 (by decide), h2 24 (by decide), h3, h4]
  refine ⟨a1, a2, a3.fr (fun k hk => ⟨h1 _ ?_, h1 _ ?_⟩), a4⟩
  · unfold T1; simp; omega
  · unfold T1; simp; omega
theorem ImgR.fr {C C' D D' : Nat → Nat → Int32} (h0 : C' 0 2 = C 0 2) (h1 : ∀ b ∈ I1, C' b = C b) (h2 : ∀ b ∈ I2, D' b = D b) (h3 : D' 0 48 = D 0 48) (h4 : D' 0 49 = D 0 49) (h5 : D' 0 50 = D 0 50) (H : ImgR C D) : ImgR C' D' := by
  unfold ImgR KeptR at *
  rw [h0, h3, h4, h5, h1 14 (by decide), h1 15 (by decide), h1 16 (by decide), h1 26 (by decide), h2 25 (by decide), h2 26 (by decide), h2 27 (by decide), h2 28 (by decide), h2 29 (by decide), h2 30 (by decide), h2 31 (by decide), h2 32 (by decide)]
  rcases H with H | ⟨b1, b2, b3, b4, b5, b6⟩
  · exact Or.inl H
  · refine Or.inr ⟨b1, b2, b3, b4, b5.fr (fun k hk => ⟨h1 _ ?_, h1 _ ?_⟩), b6⟩
    · unfold I1; simp; omega
    · unfold I1; simp; omega
theorem CacheC.fr {M M' : Mm} (h : ∀ b ∈ [2, 38, 39], M'.1 b = M.1 b) (H : CacheC M) : CacheC M' := by
  unfold CacheC at *
  rw [h 2 (by decide), h 38 (by decide), h 39 (by decide)]
  exact H
theorem CacheM.fr {M1 M1' M2 M2' : Mm} (h1 : ∀ b ∈ [1, 2, 3], M1'.1 b = M1.1 b) (h2 : ∀ b ∈ [18, 19, 20, 21], M2'.1 b = M2.1 b) (h0 : M2'.1 0 2 = M2.1 0 2) (H : CacheM M1 M2) : CacheM M1' M2' := by
  unfold CacheM setS letS at *
  rw [h1 1 (by decide), h1 2 (by decide), h1 3 (by decide), h2 18 (by decide), h2 19 (by decide), h2 20 (by decide), h2 21 (by decide), h0]
  exact H
def Ans (R1 R2 : Rs) : Prop := ∃ x M1 M2, R1 = some (x, M1) ∧ R2 = some (x, M2) ∧ Rel M1 M2
section Step
variable {N : Nat} {M1 M2 : Mm}
theorem ref_e (H : Rel M1 M2) {c : Int32} {k : Nat} (h1 : 1 ≤ k) (h7 : k < 7) (hc : -c = nI k) : Ans (bd (f_X11_refuse N c M1) fun r M => some (r, M)) (bd (f_X12_no N c M2) fun r M => some (r, M)) := by
  have e1 : f_X11_refuse N c M1 = some (c, wI M1 33 k (M1.1 33 k + 1)) := by
    unfold f_X11_refuse
    rw [hc, if_neg (by rw [lt1 (by omega)]; omega), if_pos (by rw [lt7 (by omega)]; exact h7)]
    simp (disch := omega) only [lt_eq, inb_n, ix_n, if_true]
  have e2 : f_X12_no N c M2 = some (c, wI M2 1 k (M2.1 1 k + 1)) := by
    unfold f_X12_no
    rw [hc]
    simp (disch := omega) only [lt_eq, inb_n, ix_n, if_true]
  rw [bd_of e1, bd_of e2]
  obtain ⟨a, b, ⟨c1, c2, c3, c4⟩, d, e⟩ := H
  have F1 : Fr [33] M1 (wI M1 33 k (M1.1 33 k + 1)) := (Fr.rf _ _).wI (by simp)
  have F2 : Fr [1] M2 (wI M2 1 k (M2.1 1 k + 1)) := (Fr.rf _ _).wI (by simp)
  have z1 := F1.1 0 (by decide)
  have z2 := F2.1 0 (by decide)
  refine ⟨c, _, _, rfl, rfl, a.fr (F1.on (by decide)) (F2.on (by decide)) (by rw [z2]) (by rw [z2]), b.fr (by rw [z1]) (F1.on (by decide)) (F2.on (by decide)) (by rw [z2]) (by rw [z2]) (by rw [z2]), ⟨fun i hi => ?_, ?_, ?_, ?_⟩, d.fr (F1.on (by decide)), e.fr (F1.on (by decide)) (F2.on (by decide)) (by rw [z2])⟩
  · simp only [wI_g, if_true, upd_g]
    rw [c1 k h7, c1 i hi]
  · rw [F1.1 1 (by decide), F1.1 27 (by decide), F1.1 28 (by decide), F1.1 29 (by decide), z2, F2.1 3 (by decide), F2.1 4 (by decide)]; exact c2
  · rw [F1.1 30 (by decide), F1.1 31 (by decide), z2, F2.1 5 (by decide)]; exact c3
  · rw [z1, F1.1 32 (by decide), z2, F2.1 23 (by decide)]; exact c4
theorem ref1 (H : Rel M1 M2) : Ans (bd (f_X11_refuse N (-1) M1) fun r M => some (r, M)) (bd (f_X12_no N (-1) M2) fun r M => some (r, M)) := ref_e H (k := 1) (by omega) (by omega) rfl
theorem ref2 (H : Rel M1 M2) : Ans (bd (f_X11_refuse N (-2) M1) fun r M => some (r, M)) (bd (f_X12_no N (-2) M2) fun r M => some (r, M)) := ref_e H (k := 2) (by omega) (by omega) rfl
theorem ref3 (H : Rel M1 M2) : Ans (bd (f_X11_refuse N (-3) M1) fun r M => some (r, M)) (bd (f_X12_no N (-3) M2) fun r M => some (r, M)) := ref_e H (k := 3) (by omega) (by omega) rfl
theorem ref4 (H : Rel M1 M2) : Ans (bd (f_X11_refuse N (-4) M1) fun r M => some (r, M)) (bd (f_X12_no N (-4) M2) fun r M => some (r, M)) := ref_e H (k := 4) (by omega) (by omega) rfl
theorem ref6 (H : Rel M1 M2) : Ans (bd (f_X11_refuse N (-6) M1) fun r M => some (r, M)) (bd (f_X12_no N (-6) M2) fun r M => some (r, M)) := ref_e H (k := 6) (by omega) (by omega) rfl
/-- two questions that are answered alike -/
theorem Ans.q (H : Rel M1 M2) {R1 R2 : Rs} {x y : Int32} {M1' M2' : Mm} (h1 : R1 = some (x, M1')) (h2 : R2 = some (y, M2')) (hxy : x.toInt = y.toInt) (k1 : Kc M1 M1') (k2 : Km M1 M2 M2') : Ans R1 R2 :=
  ⟨x, M1', M2', h1, by rw [h2, Int32.toInt_inj.mp hxy], (H.mdl k2).cls k1⟩
theorem Rel.nl (H : Rel M1 M2) : ∃ n, n ≤ 12 ∧ M1.1 1 2 = nI n := by
  obtain ⟨n, h1, h2, -⟩ := H.1.2.1
  exact ⟨n, h1, h2⟩
theorem setS_wo {M : Mm} {b : Int32} {w : Nat} (h : setS M b w = true) : woS (M.1 1 0) w = true := by
  unfold setS letS at h
  simp only [Bool.and_eq_true] at h
  exact h.1.1
/-- what the reference has found -/
def Fnd (M1 M : Mm) : Prop := ToldR M1.1 M.1 ∧ M.1 0 2 = 1 ∧ CacheM M1 M
theorem Fnd.i (h : Fnd M1 M2) : (∀ w, w < 16 → M2.1 21 w = b01 (letS M1 w) ∧ M2.1 19 w = b01 (setS M1 (M1.1 2 42) w)) ∧ ∀ p, p < 256 → M2.1 20 p = b01 (plS (M1.1 1 0) p) ∧ (plS (M1.1 1 0) p = true → ∀ w, w < 16 → (M2.1 18 (16 * p + w)).toInt = if woS (M1.1 1 0) w then cstZ (M1.1 2) p w else 0) := by
  rcases h.2.2 with q | q
  · rw [h.2.1] at q; exact absurd q (by decide)
  · exact q.2
theorem Fnd.co (h : Fnd M1 M2) {p w : Nat} (hp : p < 256) (hP : plS (M1.1 1 0) p = true) (hw : w < 16) (hW : woS (M1.1 1 0) w = true) : (M2.1 18 (16 * p + w)).toInt = cstZ (M1.1 2) p w := by
  rw [(h.i.2 p hp).2 hP w hw, hW]
  rfl
theorem Rel.finds (hN : 100000 ≤ N) (H : Rel M1 M2) : ∃ M', f_X12_finds N M2 = some (0, M') ∧ Kb Lq M2 M' ∧ Fnd M1 M' := by
  obtain ⟨M', a, b, c, d⟩ := finds_e hN H.1 H.2.2.2.2
  exact ⟨M', a, b, b.told H.1, c, d⟩
theorem Fnd.sl {L : List Nat} {M M' : Mm} (h : Fnd M1 M) (hs : Sl L M M') (hl : ∀ b ∈ L, b ∈ Lx) (h2 : 2 ∉ L) : Fnd M1 M' := ⟨(hs.kb hl).told h.1, by rw [hs.2 2 h2]; exact h.2.1, hs.km hl h2 h.2.2⟩
theorem step_cost (hN : 100000 ≤ N) (H : Rel M1 M2) (a b : Int32) : Ans (f_X11_cost N a b M1) (f_X12_cost N a b M2) := by
  unfold f_X11_cost f_X12_cost
  rw [bd_of (cPl hN a), bd_of (mPl hN H.1.t a)]
  cases hP : isPl (M1.1 1 0) a
  · rw [if_pos b01_f, if_pos b01_f]; exact ref1 H
  · rw [if_neg (show ¬ b01 true = 0 by decide), if_neg (show ¬ b01 true = 0 by decide), bd_of (cWo b), bd_of (mWo hN H.1.t b)]
    cases hW : isWo (M1.1 1 0) b
    · rw [if_pos b01_f, if_pos b01_f]; exact ref1 H
    · rw [if_neg (show ¬ b01 true = 0 by decide), if_neg (show ¬ b01 true = 0 by decide)]
      obtain ⟨p, hp, rfl, hp2⟩ := isPl_of hP
      obtain ⟨w, hw, rfl, hw2⟩ := isWo_of hW
      obtain ⟨x, Ma, a1, a2, a3, a4⟩ := ask_e hN H.num hp hw H.2.2.2.1
      obtain ⟨Mb, b1, b2, b3⟩ := H.finds hN
      rw [bd_of a1, bd_of b1, lmul16, nI_add, inb_n (by omega) (by omega), ix_n (by omega), if_pos rfl]
      exact Ans.q H rfl rfl (by rw [a2, b3.co hp hp2 hw hw2]) a3.kc (b2.km b3.2.2)
theorem step_later (hN : 100000 ≤ N) (H : Rel M1 M2) (a b : Int32) : Ans (f_X11_later N a b M1) (f_X12_later N a b M2) := by
  unfold f_X11_later f_X12_later
  rw [bd_of (cPl hN a), bd_of (mPl hN H.1.t a)]
  cases hP : isPl (M1.1 1 0) a
  · rw [if_pos b01_f, if_pos b01_f]; exact ref1 H
  · rw [if_neg (show ¬ b01 true = 0 by decide), if_neg (show ¬ b01 true = 0 by decide), bd_of (cWo b), bd_of (mWo hN H.1.t b)]
    cases hW : isWo (M1.1 1 0) b
    · rw [if_pos b01_f, if_pos b01_f]; exact ref1 H
    · rw [if_neg (show ¬ b01 true = 0 by decide), if_neg (show ¬ b01 true = 0 by decide)]
      obtain ⟨p, hp, rfl, hp2⟩ := isPl_of hP
      obtain ⟨w, hw, rfl, hw2⟩ := isWo_of hW
      obtain ⟨x, Ma, a1, a2, a3, a4⟩ := ask_e hN H.num hp hw H.2.2.2.1
      obtain ⟨f, f1, f2⟩ := fare_e hN (M := Ma) (p := p) (by rw [a3.e2]; exact H.num) hp
      obtain ⟨y, Mb, b1, b2, b3, b4, b5, b6⟩ := mlat_e hN H.1 hp hw hp2
      rw [bd_of a1, bd_of f1, bd_of b1]
      rw [a3.e2] at f2
      have cb := cstZ_b H.num hp hw
      refine Ans.q H rfl rfl ?_ a3.kc ((b5.mono (by simp [Lq])).km (H.2.2.2.2.fr (fun _ _ => rfl) (b5.1.on (by decide)) b6))
      rw [i_sub (by omega) (by omega), a2, f2, b2]
      unfold cstZ
      omega
theorem in01 {M : Mm} (x : Int32) : f_X12_isIn N x.toInt64 0 1 M = some (if x = 0 ∨ x = 1 then 1 else 0, M) := by
  have h : f_X12_isIn N x.toInt64 0 1 M = some (if x < 0 then 0 else if 1 < x then 0 else 1, M) := isIn_e N x 0 1 M
  rw [h]
  congr 2
  rcases i_cases x with hx | ⟨p, hp, rfl⟩
  · rw [if_pos hx, if_neg (by rintro (rfl | rfl) <;> exact absurd hx (by decide))]
  · rw [if_neg (nI_pos hp)]
    by_cases h1 : 1 < p
    · rw [if_pos (by rw [gt1 hp]; exact h1), if_neg (by rw [eq0 hp, eq1 hp]; omega)]
    · rw [if_neg (by rw [gt1 hp]; exact h1), if_pos (by rw [eq0 hp, eq1 hp]; omega)]
theorem step_worst (hN : 100000 ≤ N) (H : Rel M1 M2) (a b : Int32) : Ans (f_X11_worst N a b M1) (f_X12_worst N a b M2) := by
  unfold f_X11_worst f_X12_worst
  rw [bd_of (cPl hN a), bd_of (mPl hN H.1.t a)]
  cases hP : isPl (M1.1 1 0) a
  · rw [if_pos b01_f, if_pos b01_f]; exact ref1 H
  · rw [if_neg (show ¬ b01 true = 0 by decide), if_neg (show ¬ b01 true = 0 by decide), bd_of (in01 b)]
    simp only [lt_eq]
    obtain ⟨p, hp, rfl, hp2⟩ := isPl_of hP
    obtain ⟨n, hn, hnl⟩ := H.nl
    obtain ⟨W, w1, w2⟩ := set_e hN hn hnl
    obtain ⟨Mb, b1, b2, b3⟩ := H.finds hN
    obtain ⟨y, Mc, c1, c2, c3, c4⟩ := mworst_e hN H.num (M := Mb) (S := setS M1 (M1.1 2 42)) (fun w hw => (b3.i.1 w hw).2) hp (fun w hw hS => b3.co hp hp2 hw (setS_wo hS)) 0 0
    have eA : ∀ w, w < 16 → setS M1 (M1.1 2 42) w = (setS M1 (M1.1 2 42) w && alS 0 0 w) := fun w _ => by unfold alS; simp
    have hm : Km M1 M2 Mc := (b2.tr (c4.kb (by decide))).km (c4.km (by decide) (by decide) b3.2.2)
    by_cases h0 : b = 0
    · subst h0
      rw [if_pos rfl, if_pos rfl, if_neg (show ¬ (if (0 : Int32) = 0 ∨ (0 : Int32) = 1 then (1 : Int32) else 0) = 0 by decide), bd_of w1, bd_of b1, bd_of c1, if_pos rfl]
      obtain ⟨x, Ma, a1, a2, a3, a4⟩ := worstO_e hN H.num hp H.2.2.2.1 w2
      rw [bd_of a1]
      refine Ans.q H rfl rfl ?_ a3.kc hm
      rw [a2, c2]
      exact va_congr eA (fun _ _ _ => rfl)
    · rw [if_neg h0]
      by_cases h1 : b = 1
      · subst h1
        rw [if_pos rfl, if_neg h0, if_neg (show ¬ (if (1 : Int32) = 0 ∨ (1 : Int32) = 1 then (1 : Int32) else 0) = 0 by decide), bd_of w1, bd_of b1, bd_of c1, if_neg h0]
        obtain ⟨Ma, a1, a2, a3⟩ := worst_e hN H.num hp H.2.2.2.1 w2
        rw [bd_of a1]
        refine Ans.q H rfl rfl ?_ a2.kc hm
        rw [c3, ww_congr 16 eA (fun _ _ _ => rfl)]
      · rw [if_neg h1, if_pos (show (if b = 0 ∨ b = 1 then (1 : Int32) else 0) = 0 by rw [if_neg (by rintro (q | q) <;> contradiction)])]
        exact ref2 H
end Step
