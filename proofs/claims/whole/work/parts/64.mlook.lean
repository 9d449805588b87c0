/-! the reference: harbours, plans, worlds, the set, the costs that it keeps -/
section MLook
variable {N : Nat} {M : Mm} {t : Int32}
theorem mHa (hT : ∀ h, h < 4 → M.1 2 (43 + h) = b01 (bt t h)) (x : Int32) : f_X12_isThere N x M = some (b01 (isHa t x), M) := by
  rcases i_cases x with hx | ⟨p, hp, rfl⟩
  · unfold f_X12_isThere
    rw [if_pos hx]
    unfold isHa
    simp [hx, b01_f]
  · by_cases h4 : p < 4
    · rw [there_e h4, hT p h4, isHa_n h4]
      cases bt t p <;> rfl
    · unfold f_X12_isThere
      rw [if_neg (nI_pos hp), if_neg (by rw [lt4 hp]; exact h4)]
      unfold isHa
      simp only [lt4 hp, h4, decide_false, Bool.and_false, Bool.false_and, b01_f]
theorem in_lit {N : Nat} {M : Mm} (x c : Int32) : f_X12_isIn N x.toInt64 0 c.toInt64 M = some (if x < 0 then 0 else if c < x then 0 else 1, M) := isIn_e N x 0 c M
theorem mPl (hN : 100000 ≤ N) (hT : ∀ h, h < 4 → M.1 2 (43 + h) = b01 (bt t h)) (x : Int32) : f_X12_isPlan N x M = some (b01 (isPl t x), M) := by
  unfold f_X12_isPlan
  rw [show (255 : Int64) = (255 : Int32).toInt64 by rfl, bd_of (in_lit x 255)]
  rcases i_cases x with hx | ⟨p, hp, rfl⟩
  · rw [if_pos (if_pos hx)]
    unfold isPl
    simp [hx, b01_f]
  · rw [if_neg (nI_pos hp)]
    by_cases h4 : p < 256
    · rw [if_neg (show ¬ (255 : Int32) < nI p by rw [gt255 hp]; omega), if_neg (show ¬ (1 : Int32) = 0 by decide), isPl_n h4]
      rw [itr_al (g := fun h => decide (p / 4 ^ h % 4 = 0) || bt t h) (R0 := some (0, M)) (R1 := some (1, M)) 4 (fun rec j hj => ?_) (fun rec => ?_) (by omega)]
      · unfold plS
        split
        · rename_i h; rw [h]; rfl
        · rename_i h
          simp only [Bool.not_eq_true] at h
          rw [h]; rfl
      · unfold B_X12_isPlan_16
        rw [if_pos (by rw [lt4 (by omega)]; exact hj), bd_of (show f_X12_ferries N (nI p) (nI j) M = some (nI (p / 4 ^ j % 4), M) by unfold f_X12_ferries; rw [fer_e p h4 j hj]), bd_of (mHa hT _), isHa_n hj, nI_1]
        have hm := Nat.mod_lt (p / 4 ^ j) (by omega : 4 > 0)
        by_cases h0 : p / 4 ^ j % 4 = 0
        · rw [if_neg (by rw [gt0 (by omega)]; omega), if_pos (by simp [h0])]
        · rw [if_pos (by rw [gt0 (by omega)]; omega)]
          simp only [h0, decide_false, Bool.false_or]
          cases bt t j <;> rfl
      · unfold B_X12_isPlan_16
        rw [if_neg (by decide)]
    · rw [if_pos (show (255 : Int32) < nI p by rw [gt255 hp]; omega), if_pos rfl]
      unfold isPl
      simp only [lt256 hp, h4, decide_false, Bool.and_false, Bool.false_and, b01_f]
theorem mWo (hN : 100000 ≤ N) (hT : ∀ h, h < 4 → M.1 2 (43 + h) = b01 (bt t h)) (x : Int32) : f_X12_isWorld N x M = some (b01 (isWo t x), M) := by
  unfold f_X12_isWorld
  rw [show (15 : Int64) = (15 : Int32).toInt64 by rfl, bd_of (in_lit x 15)]
  rcases i_cases x with hx | ⟨p, hp, rfl⟩
  · rw [if_pos (if_pos hx)]
    unfold isWo
    simp [hx, b01_f]
  · rw [if_neg (nI_pos hp)]
    by_cases h4 : p < 16
    · rw [if_neg (show ¬ (15 : Int32) < nI p by rw [gt15 hp]; omega), if_neg (show ¬ (1 : Int32) = 0 by decide), isWo_n h4]
      rw [itr_al (g := fun h => decide (p / 2 ^ h % 2 = 0) || bt t h) (R0 := some (0, M)) (R1 := some (1, M)) 4 (fun rec j hj => ?_) (fun rec => ?_) (by omega)]
      · unfold woS
        split
        · rename_i h; rw [h]; rfl
        · rename_i h
          simp only [Bool.not_eq_true] at h
          rw [h]; rfl
      · unfold B_X12_isWorld_16
        rw [if_pos (by rw [lt4 (by omega)]; exact hj), wbt_e p h4 j hj, bd_of (mHa hT _), isHa_n hj, nI_1]
        have hm := Nat.mod_lt (p / 2 ^ j) (by omega : 2 > 0)
        by_cases h0 : p / 2 ^ j % 2 = 0
        · rw [if_neg (by rw [h0]; decide), if_pos (by simp [h0])]
        · rw [if_pos (by rw [eq1 (by omega)]; omega)]
          simp only [h0, decide_false, Bool.false_or]
          cases bt t j <;> rfl
      · unfold B_X12_isWorld_16
        rw [if_neg (by decide)]
    · rw [if_pos (show (15 : Int32) < nI p by rw [gt15 hp]; omega), if_pos rfl]
      unfold isWo
      simp only [lt16 hp, h4, decide_false, Bool.and_false, Bool.false_and, b01_f]
theorem hired_e (hN : 100000 ≤ N) {p : Nat} (hn : NumB (M.1 2)) (hp : p < 256) : ∃ x : Int32, f_X12_hired N (nI p) M = some (x, M) ∧ x.toInt = fareZ (M.1 2) p := by
  obtain ⟨s', M', rec, ⟨x, hs, hM, hx⟩, he⟩ := itr_go (B := B_X12_hired_4 N (nI p) fun z4 M5 => some (z4, M5)) (fun j s M' => ∃ x : Int32, s = (x, nI j) ∧ M' = M ∧ x.toInt = sm j (fun h => fer p h * zz (M.1 2) (6 * h + 2))) 4
    (fun rec j s M1 hj ⟨x, hs, hM, hx⟩ => by
      subst hs; subst hM
      have b := fare_b hn p j (by omega)
      have a := mul_b (fer_b (p := p) (h := j)).1 (fer_b (p := p) (h := j)).2 (hn.1 (6 * j + 2) (by omega)).1 (hn.1 (6 * j + 2) (by omega)).2
      unfold zz at a
      have e1 : (nI (p / 4 ^ j % 4) * M1.1 2 (6 * j + 2)).toInt = fer p j * zz (M1.1 2) (6 * j + 2) := by rw [i_mul (by rw [fer_t]; omega) (by rw [fer_t]; omega), fer_t]; rfl
      unfold zz at e1
      refine ⟨(x + nI (p / 4 ^ j % 4) * M1.1 2 (6 * j + 2), nI (j + 1)), M1, ⟨_, rfl, rfl, ?_⟩, ?_⟩
      · rw [i_add (by rw [e1]; omega) (by rw [e1]; omega), e1, hx, sm_s]; rfl
      · unfold B_X12_hired_4
        dsimp only
        rw [if_pos (by rw [lt4 (by omega)]; exact hj), bd_of (show f_X12_ferries N (nI p) (nI j) M1 = some (nI (p / 4 ^ j % 4), M1) by unfold f_X12_ferries; rw [fer_e p hp j hj])]
        simp (disch := omega) only [if_true, lmul6, add2, inb_n, ix_n, lt_eq, nI_1]) N 0 (0, 0) M (by omega) (by omega) ⟨0, by rw [nI_0], rfl, rfl⟩
  subst hs; subst hM
  refine ⟨x, ?_, hx⟩
  unfold f_X12_hired
  rw [he]
  unfold B_X12_hired_4
  simp (disch := omega) only [lt4, Nat.lt_irrefl, if_false]
end MLook
/-- the slots that questions may change -/
def Lx : List Nat := [2, 16, 17, 20, 21, 22, 26, 27, 28, 33, 34]
/-- what the reference's questions leave as it was -/
def Kb (L : List Nat) (M M' : Mm) : Prop := Fr (0 :: L) M M' ∧ ∀ i, i ∉ Lx → M'.1 0 i = M.1 0 i
theorem Kb.rf (L : List Nat) (M : Mm) : Kb L M M := ⟨Fr.rf _ _, fun _ _ => rfl⟩
theorem Kb.tr {L : List Nat} {M M1 M2 : Mm} (h1 : Kb L M M1) (h2 : Kb L M1 M2) : Kb L M M2 := ⟨h1.1.tr h2.1, fun i hi => (h2.2 i hi).trans (h1.2 i hi)⟩
theorem Kb.mono {L L' : List Nat} {M M' : Mm} (h : Kb L M M') (hs : ∀ b ∈ L, b ∈ L') : Kb L' M M' := ⟨h.1.mono (fun b hb => by
  rcases List.mem_cons.mp hb with e | e
  · rw [e]; exact List.mem_cons_self
  · exact List.mem_cons_of_mem _ (hs b e)), h.2⟩
theorem Kb.w1 {L : List Nat} {M0 M : Mm} {a i : Nat} {v : Int32} (h : Kb L M0 M) (ha : a ∈ L) (h0 : a ≠ 0) : Kb L M0 (wI M a i v) := ⟨h.1.wI (List.mem_cons_of_mem _ ha), fun k hk => by rw [wI_g, if_neg (fun e => h0 e.symm)]; exact h.2 k hk⟩
theorem Kb.w0 {L : List Nat} {M0 M : Mm} {i : Nat} {v : Int32} (h : Kb L M0 M) (hi : i ∈ Lx) : Kb L M0 (wI M 0 i v) := ⟨h.1.wI List.mem_cons_self, fun k hk => by
  rw [wI_g, if_pos rfl, upd_ne (fun e : k = i => hk (e ▸ hi))]
  exact h.2 k hk⟩
def Lq : List Nat := [10, 13, 14, 15, 16, 17, 18, 19, 20, 21, 22]
theorem Kb.told {M1 M M' : Mm} (h : Kb Lq M M') (H : ToldR M1.1 M.1) : ToldR M1.1 M'.1 := by
  obtain ⟨a1, a2, a3, a4⟩ := H
  have f : ∀ b, b ∈ [1, 2, 3, 4, 5, 6, 7, 8, 9, 11, 12, 23, 24] → M'.1 b = M.1 b := fun b hb => h.1.1 b (by unfold Lq; simp at hb ⊢; omega)
  refine ⟨?_, ?_, ?_, ?_⟩
  · rw [f 2 (by simp)]; exact a1
  · rw [h.2 15 (by simp [Lx]), f 11 (by simp), f 6 (by simp), f 7 (by simp)]; exact a2
  · rw [f 12 (by simp), f 8 (by simp), f 9 (by simp)]; exact a3
  · rw [h.2 39 (by simp [Lx]), f 24 (by simp)]; exact a4
theorem Kb.km {M1 M M' : Mm} (h : Kb Lq M M') (hc : CacheM M1 M') : Km M1 M M' := ⟨fun b hb => h.1.1 b hb, fun i hi => h.2 i (by
  unfold Ls at hi
  unfold Lx
  simp at hi ⊢
  omega), hc⟩
section MTold
variable {N : Nat} {M1 M : Mm}
theorem ToldR.t (H : ToldR M1.1 M.1) : ∀ h, h < 4 → M.1 2 (43 + h) = b01 (bt (M1.1 1 0) h) := H.1.1
theorem ToldR.nu (H : ToldR M1.1 M.1) : ∀ k, k < 43 → M.1 2 k = M1.1 2 k := H.1.2.2.1
theorem ToldR.num (H : ToldR M1.1 M.1) : NumB (M1.1 2) := by
  have h := H.1.2.2.2.1
  exact ⟨fun i hi => ⟨(h i hi).1, (h i hi).2.1⟩, fun i hi hx => (h i (by omega)).2.2 hi hx⟩
theorem ToldR.num2 (H : ToldR M1.1 M.1) : NumB (M.1 2) := by
  have h := H.num
  have e : ∀ k, k < 43 → zz (M.1 2) k = zz (M1.1 2) k := fun k hk => by unfold zz; rw [H.nu k hk]
  exact ⟨fun i hi => by rw [e i hi]; exact h.1 i hi, fun i hi hx => by rw [e i (by omega)]; exact h.2 i hi hx⟩
/-- a harbour that isn't there has nothing and lacks nothing -/
theorem ToldR.bal (H : ToldR M1.1 M.1) {p w h : Nat} (hp : plS (M1.1 1 0) p = true) (hh : h < 4) (hb : bt (M1.1 1 0) h = false) : balZ (M1.1 2) p w h = 0 := by
  have z0 := H.1.2.2.2.2 h 0 hh (by omega) hb
  have z1 := H.1.2.2.2.2 h 1 hh (by omega) hb
  have hf := al_t.mp hp h hh
  rw [hb] at hf
  simp only [Bool.or_false, decide_eq_true_eq] at hf
  unfold balZ fer zz
  rw [hf, show 6 * h + 0 = 6 * h by omega] at *
  rw [z0, z1]
  simp
theorem ToldR.bal2 (H : ToldR M1.1 M.1) {p w : Nat} (hp : plS (M1.1 1 0) p = true) : ∀ h, h < 4 → ¬ M.1 2 (43 + h) = 1 → balZ (M.1 2) p w h = 0 := by
  intro h hh hn
  have hb : bt (M1.1 1 0) h = false := by
    cases e : bt (M1.1 1 0) h
    · rfl
    · exact absurd (by rw [H.t h hh, e]; rfl) hn
  rw [balZ_nu (fun k hk => H.nu k (by omega)) p w hh]
  exact H.bal hp hh hb
theorem mlat_e (hN : 100000 ≤ N) (H : ToldR M1.1 M.1) {p w : Nat} (hp : p < 256) (hw : w < 16) (hP : plS (M1.1 1 0) p = true) : ∃ x M', f_X12_laterOf N (nI p) (nI w) M = some (x, M') ∧ x.toInt = latZ (M1.1 2) p w ∧ 0 ≤ x.toInt ∧ x.toInt ≤ 300000000 ∧ Kb [15, 16, 17] M M' ∧ M'.1 0 2 = M.1 0 2 := by
  obtain ⟨x, M', a1, a2, a3, a4, a5, a6⟩ := later_e hN H.num2 hp hw (H.bal2 hP)
  refine ⟨x, M', a1, ?_, a3, a4, ⟨a5, fun i hi => a6 i ?_ ?_ ?_⟩, a6 2 (by omega) (by omega) (by omega)⟩
  · rw [a2, latZ_nu H.num H.num2 (fun k hk => (H.nu k (by omega)).symm) hp hw]
  · rintro rfl; exact hi (by simp [Lx])
  · rintro rfl; exact hi (by simp [Lx])
  · rintro rfl; exact hi (by simp [Lx])
end MTold
