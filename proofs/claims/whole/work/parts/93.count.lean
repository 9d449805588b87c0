/-! counts -/
section Count
variable {N : Nat} {M1 M2 M : Mm}
theorem harb_e {t : Int32} (hT : ∀ h, h < 4 → M.1 2 (43 + h) = b01 (bt t h)) : f_X12_harbours N M = some (nI (rk (bt t) 4), M) := by
  unfold f_X12_harbours
  have e0 : M.1 2 (ix 43) = b01 (bt t 0) := hT 0 (by omega)
  have e1 : M.1 2 (ix 44) = b01 (bt t 1) := hT 1 (by omega)
  have e2 : M.1 2 (ix 45) = b01 (bt t 2) := hT 2 (by omega)
  have e3 : M.1 2 (ix 46) = b01 (bt t 3) := hT 3 (by omega)
  rw [e0, e1, e2, e3]
  have : ∀ a b c d : Bool, b01 a + b01 b + b01 c + b01 d = nI (0 + (if a then 1 else 0) + (if b then 1 else 0) + (if c then 1 else 0) + (if d then 1 else 0)) := by decide
  rw [this]
  rfl
theorem there_bc {t : Int32} (h : ∀ i, 4 ≤ i → bt t i = false) : f_J6_bitCount_0f7a4 N t M = some (nI (rk (bt t) 4), M) := by
  rw [bc_e (fun i hi => h i (by omega)), rk_far (n := 4) (m := 16) (by omega) h]
theorem step_count (hN : 100000 ≤ N) (H : Rel M1 M2) (a : Int32) : Ans (f_X11_count N a M1) (f_X12_count N a M2) := by
  have same : ∀ {x y : Int32}, x = y → Ans (some (x, M1)) (some (y, M2)) := fun {x y} h => ⟨x, M1, M2, rfl, by rw [h], H⟩
  have H0 := H
  obtain ⟨⟨tn, ⟨n, l1, l2, l3, l4, l5⟩, r, ⟨ny, y1, y2, y3, -⟩⟩, im, ⟨c1, ⟨cx, cz, -, -, -, z2, z3, -⟩, ⟨tn1, -, t2, t3, -⟩, ⟨rn, -, r2, r3, -⟩⟩, d, e⟩ := H
  -- what both do but for refusals
  have rest : Ans (if a = 0 then bd (f_J6_bitCount_0f7a4 N (M1.1 1 0) M1) fun r5 M6 => some (r5, M6) else if a = 1 then some (M1.1 1 2, M1) else if a = 2 then bd (f_J6_bitCount_0f7a4 N (M1.1 1 3) M1) fun r9 M10 => some (r9, M10) else if a = 3 then bd (f_X10_rulesTold N M1) fun r12 M13 => some (r12, M13) else if a = 4 then bd (f_X11_theSet N M1) fun r15 M16 => bd (f_J6_bitCount_0f7a4 N r15 M16) fun r17 M18 => some (r17, M18) else if a = 5 then some (M1.1 1 6, M1) else if a = 6 then some (M1.1 30 1, M1) else if a = 7 then some (M1.1 0 6, M1) else if a = 8 then some (M1.1 27 3, M1) else some (-9, M1))
      (if a = 0 then bd (f_X12_harbours N M2) fun r4 M5 => some (r4, M5) else if a = 1 then some (M2.1 0 15, M2) else if a = 2 then itr (B_X12_count_88 N fun z10 M11 => some (z10, M11)) N (0, 0) M2 else if a = 3 then itr (B_X12_count_123 N fun z15 M16 => some (z15, M16)) N (0, 0) M2 else if a = 4 then bd (f_X12_finds N M2) fun r18 M19 => itr (B_X12_count_159 N fun z22 M23 => some (z22, M23)) N (0, 0) M19 else if a = 5 then some (M2.1 0 39, M2) else if a = 6 then some (M2.1 0 14, M2) else if a = 7 then some (M2.1 0 37, M2) else if a = 8 then some (M2.1 0 5, M2) else some (-9, M2)) := by
    by_cases a0 : a = 0
    · rw [if_pos a0, if_pos a0, bd_of (there_bc tn.2.1), bd_of (harb_e tn.1)]
      exact same rfl
    rw [if_neg a0, if_neg a0]
    by_cases a1 : a = 1
    · rw [if_pos a1, if_pos a1]; exact same (by rw [l2, l3])
    rw [if_neg a1, if_neg a1]
    by_cases a2 : a = 2
    · rw [if_pos a2, if_pos a2, bd_of (bc_e (fun i hi => l4 i (by omega))), rk_far (n := n) (m := 16) (by omega) l4]
      have k : itr (B_X12_count_88 N fun z10 M11 => some (z10, M11)) N (0, 0) M2 = some (nI (rk (bt (M1.1 1 3)) n), M2) := by
        refine itr_for0 (fun j => (nI (rk (bt (M1.1 1 3)) j), nI j)) (fun _ => M2) n (by rw [nI_0]; rfl) rfl (by omega) (fun rec j hj => ?_) (fun rec => ?_)
        · unfold B_X12_count_88
          dsimp only
          rw [l3, if_pos (by rw [nlt (by omega) (by omega)]; exact hj), inb_n (by omega) (by omega), ix_n (by omega), if_pos rfl, (l5 j hj).1, rk_s]
          simp only [lt_eq, nI_1]
          cases bt (M1.1 1 3) j
          · rw [if_neg (by decide), Int32.add_zero]; rfl
          · rw [if_pos (by decide)]; rfl
        · unfold B_X12_count_88
          dsimp only
          rw [l3, if_neg (by rw [nlt (by omega) (by omega)]; omega)]
      rw [k]
      exact same rfl
    rw [if_neg a2, if_neg a2]
    by_cases a3 : a = 3
    · rw [if_pos a3, if_pos a3]
      have rr : ∀ h, h < 4 → (M1.1 (5 + 2 * h) 1 = 0 ∧ M2.1 12 h = 0) ∨ (0 < M1.1 (5 + 2 * h) 1 ∧ M2.1 12 h = 1) := by
        intro h hh
        have q := r h hh
        rw [show 1 + 4 + 2 * h = 5 + 2 * h by omega] at q
        rcases q with ⟨q0, q⟩ | ⟨q1, n, m, sn, v, p1, p2, p3, p4, p5, p6, p7, p8⟩
        · exact Or.inl ⟨q, q0⟩
        · exact Or.inr ⟨by rw [p7, gt0 (by omega)]; exact p5, q1⟩
      have k1 : f_X10_rulesTold N M1 = some (nI (rk (fun h => decide (M2.1 12 h = 1)) 4), M1) := by
        unfold f_X10_rulesTold
        refine itr_for0 (fun j => (nI (rk (fun h => decide (M2.1 12 h = 1)) j), nI j)) (fun _ => M1) 4 (by rw [nI_0]; rfl) rfl (by omega) (fun rec j hj => ?_) (fun rec => ?_)
        · unfold B_X10_rulesTold_4
          dsimp only
          rw [if_pos (by rw [lt4 (by omega)]; exact hj), inb_n (by omega) (by omega), ix_n (by omega), if_pos rfl, rk_s, nI_1, nI_1]
          rcases rr j hj with ⟨q1, q2⟩ | ⟨q1, q2⟩
          · rw [q1, q2, if_neg (by decide)]; rfl
          · rw [if_pos q1, q2]; rfl
        · unfold B_X10_rulesTold_4
          dsimp only
          rw [if_neg (show ¬ nI 4 < 4 by decide)]
      have k2 : itr (B_X12_count_123 N fun z15 M16 => some (z15, M16)) N (0, 0) M2 = some (nI (rk (fun h => decide (M2.1 12 h = 1)) 4), M2) := by
        refine itr_for0 (fun j => (nI (rk (fun h => decide (M2.1 12 h = 1)) j), nI j)) (fun _ => M2) 4 (by rw [nI_0]; rfl) rfl (by omega) (fun rec j hj => ?_) (fun rec => ?_)
        · unfold B_X12_count_123
          dsimp only
          rw [if_pos (by rw [lt4 (by omega)]; exact hj), inb_n (by omega) (by omega), ix_n (by omega), if_pos rfl, rk_s]
          simp only [lt_eq, nI_1]
          rcases rr j hj with ⟨q1, q2⟩ | ⟨q1, q2⟩
          · rw [q2, if_pos rfl, Int32.add_zero]; rfl
          · rw [q2, if_neg (by decide)]; rfl
        · unfold B_X12_count_123
          dsimp only
          rw [if_neg (show ¬ nI 4 < 4 by decide)]
      rw [bd_of k1, k2]
      exact same rfl
    rw [if_neg a3, if_neg a3]
    by_cases a4 : a = 4
    · rw [if_pos a4, if_pos a4]
      obtain ⟨W, w1, w2⟩ := set_e hN l1 l2
      obtain ⟨Mb, b1, b2, b3⟩ := H0.finds hN
      have k : itr (B_X12_count_159 N fun z22 M23 => some (z22, M23)) N (0, 0) Mb = some (nI (rk (setS M1 (M1.1 2 42)) 16), Mb) := by
        refine itr_for0 (fun j => (nI (rk (setS M1 (M1.1 2 42)) j), nI j)) (fun _ => Mb) 16 (by rw [nI_0]; rfl) rfl (by omega) (fun rec j hj => ?_) (fun rec => ?_)
        · unfold B_X12_count_159
          dsimp only
          rw [if_pos (by rw [lt16 (by omega)]; exact hj), inb_n (by omega) (by omega), ix_n (by omega), if_pos rfl, (b3.i.1 j hj).2, rk_s]
          simp only [lt_eq, nI_1]
          cases setS M1 (M1.1 2 42) j
          · rw [if_pos b01_f, Int32.add_zero]; rfl
          · rw [if_neg (by decide)]; rfl
        · unfold B_X12_count_159
          dsimp only
          rw [if_neg (show ¬ nI 16 < 16 by decide)]
      rw [bd_of w1, bd_of (bc_e w2.hi), bd_of b1, k]
      refine Ans.q H0 rfl rfl ?_ (Kc.rf d) (b2.km b3.2.2)
      rw [rk_congr 16 (fun i hi => w2.at hi)]
    rw [if_neg a4, if_neg a4]
    by_cases a5 : a = 5
    · rw [if_pos a5, if_pos a5]; exact same (by rw [y2, y3])
    rw [if_neg a5, if_neg a5]
    by_cases a6 : a = 6
    · rw [if_pos a6, if_pos a6]; exact same (by rw [t2, t3])
    rw [if_neg a6, if_neg a6]
    by_cases a7 : a = 7
    · rw [if_pos a7, if_pos a7]; exact same (by rw [r2, r3])
    rw [if_neg a7, if_neg a7]
    by_cases a8 : a = 8
    · rw [if_pos a8, if_pos a8]; exact same (by rw [z2, z3])
    rw [if_neg a8, if_neg a8]
    exact same rfl
  unfold f_X11_count f_X12_count
  rw [show (11 : Int64) = (11 : Int32).toInt64 by rfl, show (16 : Int64) = (16 : Int32).toInt64 by rfl, bd_of (isIn_e N a 11 16 M2)]
  simp only [lt_eq]
  by_cases b1 : a < 11
  · rw [if_pos b1, if_pos b1, if_pos rfl]; exact rest
  · rw [if_neg b1, if_neg b1]
    by_cases b2 : 16 < a
    · rw [if_pos b2, if_pos b2, if_pos rfl]; exact rest
    · rw [if_neg b2, if_neg b2, if_neg (show ¬ (1 : Int32) = 0 by decide)]
      obtain ⟨k, k1, k2, rfl⟩ : ∃ k, 11 ≤ k ∧ k ≤ 16 ∧ a = nI k := by
        rcases i_cases a with hx | ⟨k, hk, rfl⟩
        · exact absurd (show a < 11 by rw [toI_lt] at hx ⊢; have : (0 : Int32).toInt = 0 := rfl; have : (11 : Int32).toInt = 11 := rfl; omega) b1
        · rw [lt11 hk] at b1
          rw [gtc (c := 16) (n := 16) rfl hk (by omega)] at b2
          exact ⟨k, by omega, by omega, rfl⟩
      have e10 : nI k - 10 = nI (k - 10) := by show nI k - nI 10 = _; rw [nI_subl (by omega)]
      rw [e10, inb_n (by omega) (by omega), ix_n (by omega), if_pos rfl, if_pos rfl]
      exact same (c1 (k - 10) (by omega))
end Count
