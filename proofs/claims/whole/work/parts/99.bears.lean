/-! which plans bear which worlds under a mark -/
def bl (x : Int64) (i : Nat) : Bool := x.toBitVec.getLsbD i
theorem bl_or (x y : Int64) (i : Nat) : bl (x ||| y) i = (bl x i || bl y i) := by unfold bl; rw [Int64.toBitVec_or, BitVec.getLsbD_or]
theorem bl_and (x y : Int64) (i : Nat) : bl (x &&& y) i = (bl x i && bl y i) := by unfold bl; rw [Int64.toBitVec_and, BitVec.getLsbD_and]
theorem bl_0 (i : Nat) : bl 0 i = false := BitVec.getLsbD_zero
theorem bl_sh : ∀ b, b < 64 → ∀ i, i < 64 → bl (lshl 1 (nI b)) i = decide (i = b) := by decide +kernel
theorem bl_z {x : Int64} : x = 0 ↔ ∀ i, i < 64 → bl x i = false := by
  constructor
  · intro h i _; rw [h]; exact bl_0 i
  · intro h
    exact Int64.toBitVec_inj.mp (BitVec.eq_of_getLsbD_eq (fun i hi => by
      have := h i hi
      unfold bl at this
      rw [this]
      exact (bl_0 i).symm))
theorem lgc_0 (x : Int64) : (lg_cmp x 0 = 0) = (x = 0) := by
  unfold lg_cmp
  by_cases h1 : x > 0
  · rw [if_pos h1]
    exact propext ⟨fun h => absurd h (by decide), fun h => by subst h; exact absurd h1 (by decide)⟩
  · rw [if_neg h1]
    by_cases h2 : x = 0
    · rw [if_pos h2]; exact propext ⟨fun _ => h2, fun _ => rfl⟩
    · rw [if_neg h2]; exact propext ⟨fun h => absurd h (by decide), fun h => absurd h h2⟩
noncomputable def brS (nu : Nat → Int32) (t : Int32) (S : Nat → Bool) (mk : Int) (w p : Nat) : Bool := S w && plS t p && decide (cstZ nu p w ≤ mk)
section Bears
variable {N : Nat} {M : Mm} {S : Nat → Bool} {W mk : Int32}
theorem fill_e (hN : 100000 ≤ N) : ∃ M', f_J7_fill_d0a16 N 0 M = some (0, M') ∧ Fr [52] M M' ∧ ∀ i, i < 64 → M'.2 52 i = 0 := by
  obtain ⟨s', Ma, rec, ⟨hs, hF, hz⟩, he⟩ := itr_go (B := B_J7_fill_d0a16_6 N 0 64 fun _ M3 => some (0, M3)) (fun j s M' => s = nI j ∧ Fr [52] M M' ∧ ∀ i, i < j → M'.2 52 i = 0) 64
    (fun rec j s Mx hj ⟨hs, hF, hz⟩ => by
      subst hs
      unfold B_J7_fill_d0a16_6
      rw [if_pos (by rw [ltc (c := 64) (n := 64) rfl (by omega) (by omega)]; exact hj), inb_n (by omega) (by omega), ix_n (by omega), if_pos rfl, lt_eq, nI_1]
      refine ⟨_, _, ⟨rfl, hF.wL (by simp), fun i hi => ?_⟩, rfl⟩
      rw [wL_s, if_pos rfl, upL_g]
      by_cases e : i = j
      · rw [if_pos e]
      · rw [if_neg e]; exact hz i (by omega)) N 0 0 M (by omega) (by omega) ⟨nI_0.symm, Fr.rf _ _, fun i hi => by omega⟩
  subst hs
  refine ⟨Ma, ?_, hF, hz⟩
  unfold f_J7_fill_d0a16
  rw [he]
  unfold B_J7_fill_d0a16_6
  rw [if_neg (show ¬ nI 64 < 64 by decide)]
theorem ka2 {M M' : Mm} (h : Ka M M') : M'.2 52 = M.2 52 := h.1.2 52 (by decide)
/-- one plan, all worlds -/
theorem find1 (hN : 100000 ≤ N) (hn : NumB (M.1 2)) (hW : isM W S) (hc : CacheC M) {p : Nat} (hp : p < 256) (hP : plS (M.1 1 0) p = true) (G : Unit → Mm → Rs) : ∃ M', itr (B_X0_find_52 N W mk (nI p) G) N 0 M = G () M' ∧ Fr (52 :: LA) M M' ∧ CacheC M' ∧ ∀ w i b, w < 16 → i < 4 → b < 64 → bl (M'.2 52 (4 * w + i)) b = (bl (M.2 52 (4 * w + i)) b || (decide (64 * i + b = p) && brS (M.1 2) (M.1 1 0) S mk.toInt w p)) := by
  obtain ⟨s', Ma, rec, ⟨hs, hF, hC, hv⟩, he⟩ := itr_go (B := B_X0_find_52 N W mk (nI p) G) (fun j s M' => s = nI j ∧ Fr (52 :: LA) M M' ∧ CacheC M' ∧ ∀ w i b, w < 16 → i < 4 → b < 64 → bl (M'.2 52 (4 * w + i)) b = (bl (M.2 52 (4 * w + i)) b || (decide (w < j) && (decide (64 * i + b = p) && brS (M.1 2) (M.1 1 0) S mk.toInt w p)))) 16
    (fun rec j s Mx hj ⟨hs, hF, hC, hv⟩ => by
      subst hs
      have e2 : Mx.1 2 = M.1 2 := hF.1 2 (by decide)
      unfold B_X0_find_52
      rw [if_pos (by rw [lt16 (by omega)]; exact hj), bit_e _ (by omega), hW.at hj, nI_1]
      -- a world that adds nothing
      have skip : brS (M.1 2) (M.1 1 0) S mk.toInt j p = false → ∀ Mz : Mm, Mz.2 52 = Mx.2 52 → ∀ w i b, w < 16 → i < 4 → b < 64 → bl (Mz.2 52 (4 * w + i)) b = (bl (M.2 52 (4 * w + i)) b || (decide (w < j + 1) && (decide (64 * i + b = p) && brS (M.1 2) (M.1 1 0) S mk.toInt w p))) := fun h Mz hz w i b h1 h2 h3 => by
        rw [hz, hv w i b h1 h2 h3]
        by_cases e : w = j
        · subst e; rw [h]; simp
        · have : decide (w < j + 1) = decide (w < j) := by simp; omega
          rw [this]
      cases hS : S j
      · rw [if_neg (show ¬ b01 false = 1 by decide)]
        exact ⟨_, _, ⟨rfl, hF, hC, skip (by unfold brS; rw [hS]; rfl) Mx rfl⟩, rfl⟩
      · rw [if_pos b01_t]
        obtain ⟨y, My, a1, a2, a3, a4⟩ := ask_e hN (M := Mx) (p := p) (w := j) (by rw [e2]; exact hn) hp hj hC
        rw [e2] at a2
        rw [bd_of a1]
        have FY : Fr (52 :: LA) M My := hF.tr (a3.1.mono (fun b hb => List.mem_cons_of_mem _ hb))
        by_cases q : mk < y
        · rw [if_pos q]
          refine ⟨_, _, ⟨rfl, FY, a3.2, skip ?_ My (ka2 a3)⟩, rfl⟩
          unfold brS
          rw [toI_lt, a2] at q
          have : ¬ cstZ (M.1 2) p j ≤ mk.toInt := by omega
          simp [this]
        · rw [if_neg q]
          rw [toI_lt, a2] at q
          have hb : brS (M.1 2) (M.1 1 0) S mk.toInt j p = true := by
            unfold brS
            have : cstZ (M.1 2) p j ≤ mk.toInt := by omega
            simp [hS, hP, this]
          have e64 : nI p / 64 = nI (p / 64) := pk_div (d := 64) (by omega) (by omega) (by omega)
          have er : nI p - nI p / 64 * 64 = nI (p % 64) := pk_rem (d := 64) (by omega) (by omega) (by omega)
          rw [er, e64, mul4, nI_add, lt_eq, inb_n (by omega) (by omega), ix_n (by omega), if_pos rfl, if_pos rfl, lt_eq]
          refine ⟨_, _, ⟨rfl, FY.wL List.mem_cons_self, a3.2.fr (fun b _ => by rw [wL_g]), fun w i b h1 h2 h3 => ?_⟩, rfl⟩
          rw [wL_s, if_pos rfl, upL_g, ka2 a3]
          by_cases e : 4 * w + i = 4 * j + p / 64
          · have ew : w = j := by omega
            have ei : i = p / 64 := by omega
            subst ew
            rw [if_pos e, bl_or, ← e, hv w i b h1 h2 h3, bl_sh (p % 64) (by omega) b h3, hb]
            have : decide (b = p % 64) = decide (64 * i + b = p) := by
              rw [ei]
              by_cases z : b = p % 64
              · rw [decide_eq_true z, decide_eq_true (by omega)]
              · rw [decide_eq_false z, decide_eq_false (by omega)]
            rw [this]
            simp
          · rw [if_neg e, hv w i b h1 h2 h3]
            by_cases ew : w = j
            · subst ew
              have : decide (64 * i + b = p) = false := decide_eq_false (by omega)
              rw [this]; simp
            · have : decide (w < j + 1) = decide (w < j) := by simp; omega
              rw [this]) N 0 0 M (by omega) (by omega) ⟨nI_0.symm, Fr.rf _ _, hc, fun w i b _ _ _ => by simp⟩
  subst hs
  refine ⟨Ma, ?_, hF, hC, fun w i b h1 h2 h3 => by rw [hv w i b h1 h2 h3]; simp [h1]⟩
  rw [he]
  unfold B_X0_find_52
  rw [if_neg (show ¬ nI 16 < 16 by decide)]
theorem find_e (hN : 100000 ≤ N) (hn : NumB (M.1 2)) (hW : isM W S) (hc : CacheC M) : ∃ M', f_X0_find N W mk M = some (0, M') ∧ Fr (52 :: LA) M M' ∧ CacheC M' ∧ ∀ w i b, w < 16 → i < 4 → b < 64 → bl (M'.2 52 (4 * w + i)) b = brS (M.1 2) (M.1 1 0) S mk.toInt w (64 * i + b) := by
  obtain ⟨M0, z1, z2, z3⟩ := fill_e (M := M) hN
  have F0 : Fr (52 :: LA) M M0 := z2.mono (by simp)
  obtain ⟨s', Ma, rec, ⟨hs, hF, hC, hv⟩, he⟩ := itr_go (B := B_X0_find_10 N W mk fun _ M14 => some (0, M14)) (fun j s M' => s = nI j ∧ Fr (52 :: LA) M M' ∧ CacheC M' ∧ ∀ w i b, w < 16 → i < 4 → b < 64 → bl (M'.2 52 (4 * w + i)) b = (decide (64 * i + b < j) && brS (M.1 2) (M.1 1 0) S mk.toInt w (64 * i + b))) 256
    (fun rec j s Mx hj ⟨hs, hF, hC, hv⟩ => by
      subst hs
      have e2 : Mx.1 2 = M.1 2 := hF.1 2 (by decide)
      have e1 : Mx.1 1 = M.1 1 := hF.1 1 (by decide)
      unfold B_X0_find_10
      rw [if_pos (by rw [lt256 (by omega)]; exact hj), bd_of (cPl hN _), e1, isPl_n hj, nI_1]
      have skip : (∀ w, w < 16 → brS (M.1 2) (M.1 1 0) S mk.toInt w j = false) → ∀ w i b, w < 16 → i < 4 → b < 64 → bl (Mx.2 52 (4 * w + i)) b = (decide (64 * i + b < j + 1) && brS (M.1 2) (M.1 1 0) S mk.toInt w (64 * i + b)) := fun h w i b h1 h2 h3 => by
        rw [hv w i b h1 h2 h3]
        by_cases e : 64 * i + b = j
        · rw [e, h w h1]; simp
        · have : decide (64 * i + b < j + 1) = decide (64 * i + b < j) := by simp; omega
          rw [this]
      cases hP : plS (M.1 1 0) j
      · rw [if_pos b01_f]
        exact ⟨_, _, ⟨rfl, hF, hC, skip (fun w _ => by unfold brS; rw [hP]; simp)⟩, rfl⟩
      · rw [if_neg (show ¬ b01 true = 0 by decide)]
        obtain ⟨f, f1, f2⟩ := fare_e hN (M := Mx) (p := j) (by rw [e2]; exact hn) hj
        rw [e2] at f2
        rw [bd_of f1]
        by_cases q : mk < f
        · rw [if_pos q]
          rw [toI_lt, f2] at q
          refine ⟨_, _, ⟨rfl, hF, hC, skip (fun w hw => ?_)⟩, rfl⟩
          have := cstZ_b hn hj hw
          unfold brS
          have : ¬ cstZ (M.1 2) j w ≤ mk.toInt := by omega
          simp [this]
        · rw [if_neg q]
          obtain ⟨My, a1, a2, a3, a4⟩ := find1 hN (M := Mx) (mk := mk) (by rw [e2]; exact hn) hW hC hj (by rw [e1]; exact hP) (fun _ M12 => rec (nI (j + 1)) M12)
          rw [e2, e1] at a4
          rw [a1]
          refine ⟨_, _, ⟨rfl, hF.tr a2, a3, fun w i b h1 h2 h3 => ?_⟩, rfl⟩
          rw [a4 w i b h1 h2 h3, hv w i b h1 h2 h3]
          by_cases e : 64 * i + b = j
          · rw [e]; simp
          · have : decide (64 * i + b < j + 1) = decide (64 * i + b < j) := by simp; omega
            rw [this]; simp [e]) N 0 0 M0 (by omega) (by omega) ⟨nI_0.symm, F0, hc.fr (z2.on (by decide)), fun w i b h1 h2 h3 => by rw [z3 _ (by omega), bl_0]; simp⟩
  subst hs
  refine ⟨Ma, ?_, hF, hC, fun w i b h1 h2 h3 => by rw [hv w i b h1 h2 h3, decide_eq_true (show 64 * i + b < 256 by omega)]; rfl⟩
  unfold f_X0_find
  rw [bd_of z1, he]
  unfold B_X0_find_10
  rw [if_neg (show ¬ nI 256 < 256 by decide)]
/-- no plan bears three worlds -/
theorem borne_e (hN : 100000 ≤ N) {br : Nat → Nat → Bool} (hb : ∀ w i b, w < 16 → i < 4 → b < 64 → bl (M.2 52 (4 * w + i)) b = br w (64 * i + b)) {h m l : Nat} (hh : h < 16) (hm : m < 16) (hl : l < 16) : f_X0_isBorneByNone N (nI h) (nI m) (nI l) M = some (b01 (al (fun p => !(br h p && br m p && br l p)) 256), M) := by
  have key := itr_al (B := B_X0_isBorneByNone_3 N (nI h) (nI m) (nI l) fun _ M2 => some (1, M2)) (M := M) (g := fun i => decide (M.2 52 (4 * h + i) &&& M.2 52 (4 * m + i) &&& M.2 52 (4 * l + i) = 0)) (R0 := some (0, M)) (R1 := some (1, M)) (n := N) 4
    (fun rec i hi => by
      unfold B_X0_isBorneByNone_3
      rw [if_pos (by rw [lt4 (by omega)]; exact hi), mul4, mul4, mul4, nI_add, nI_add, nI_add, inb_n (by omega) (by omega), inb_n (by omega) (by omega), inb_n (by omega) (by omega), ix_n (by omega), ix_n (by omega), ix_n (by omega), if_pos rfl, if_pos rfl, if_pos rfl, nI_1]
      by_cases q : M.2 52 (4 * h + i) &&& M.2 52 (4 * m + i) &&& M.2 52 (4 * l + i) = 0
      · rw [if_pos (by rw [lgc_0]; exact q), if_pos (by simp [q])]
      · rw [if_neg (by rw [lgc_0]; exact q), if_neg (by simp [q])])
    (fun rec => by
      unfold B_X0_isBorneByNone_3
      rw [if_neg (show ¬ nI 4 < 4 by decide)]) (by omega)
  unfold f_X0_isBorneByNone
  rw [key]
  have e : al (fun i => decide (M.2 52 (4 * h + i) &&& M.2 52 (4 * m + i) &&& M.2 52 (4 * l + i) = 0)) 4 = al (fun p => !(br h p && br m p && br l p)) 256 := by
    rw [Bool.eq_iff_iff, al_t, al_t]
    constructor
    · intro H p hp
      have := H (p / 64) (by omega)
      simp only [decide_eq_true_eq] at this
      have := bl_z.mp this (p % 64) (by omega)
      rw [bl_and, bl_and, hb h _ _ hh (by omega) (by omega), hb m _ _ hm (by omega) (by omega), hb l _ _ hl (by omega) (by omega), show 64 * (p / 64) + p % 64 = p by omega] at this
      rw [this]; rfl
    · intro H i hi
      simp only [decide_eq_true_eq]
      rw [bl_z]
      intro b hb2
      have := H (64 * i + b) (by omega)
      rw [bl_and, bl_and, hb h _ _ hh hi hb2, hb m _ _ hm hi hb2, hb l _ _ hl hi hb2]
      rw [Bool.not_eq_true'] at this
      exact this
  rw [e]
  cases al (fun p => !(br h p && br m p && br l p)) 256 <;> rfl
end Bears
