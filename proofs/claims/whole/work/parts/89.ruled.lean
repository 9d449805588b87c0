/-! the most that a plan costs by the rules, and who bears most -/
def rmx (f : Nat → Int) (S : Nat → Bool) : Nat → Int
  | 0 => -9
  | n + 1 => if S n = true ∧ rmx f S n < f n then f n else rmx f S n
theorem rmx_s (f : Nat → Int) (S : Nat → Bool) (n : Nat) : rmx f S (n + 1) = if S n = true ∧ rmx f S n < f n then f n else rmx f S n := rfl
theorem rmx_b {f : Nat → Int} {S : Nat → Bool} {c : Int} (hc : -9 ≤ c) : ∀ n, (∀ w, w < n → 0 ≤ f w ∧ f w ≤ c) → -9 ≤ rmx f S n ∧ rmx f S n ≤ c := by
  intro n
  induction n with
  | zero => intro _; unfold rmx; omega
  | succ n ih =>
    intro h
    have a := ih (fun w hw => h w (by omega))
    have b := h n (by omega)
    unfold rmx
    split <;> omega
theorem rmx_t {f : Nat → Int} {S : Nat → Bool} : ∀ n, (∀ w, w < n → 0 ≤ f w) → (∃ w, w < n ∧ S w = true) → 0 ≤ rmx f S n := by
  intro n
  induction n with
  | zero => rintro - ⟨w, hw, -⟩; omega
  | succ n ih =>
    rintro h ⟨w, hw, hS⟩
    have b := h n (by omega)
    unfold rmx
    by_cases e : w = n
    · subst e
      split
      · exact b
      · rename_i q
        have : ¬ rmx f S w < f w := fun z => q ⟨hS, z⟩
        omega
    · have := ih (fun w hw => h w (by omega)) ⟨w, by omega, hS⟩
      split <;> omega
theorem rmx_e {f : Nat → Int} {S : Nat → Bool} : ∀ n, (∀ w, w < n → S w = false) → rmx f S n = -9 := by
  intro n
  induction n with
  | zero => intro _; rfl
  | succ n ih =>
    intro h
    unfold rmx
    rw [if_neg (by rw [h n (by omega)]; rintro ⟨q, -⟩; cases q)]
    exact ih (fun w hw => h w (by omega))
section Ruled
variable {N : Nat} {M1 M2 M : Mm} {b : Int32}
theorem FS.kb {M' : Mm} (h : FS M1 b M) (k : Kb [13, 14, 15, 16] M M') (k2 : M'.1 0 2 = M.1 0 2) : FS M1 b M' := by
  obtain ⟨a1, a2, a3, a4, a5⟩ := h
  refine ⟨k.lq.told a1, by rw [k2]; exact a2, ?_, ?_, ?_⟩
  · rw [k.1.1 21 (by simp)]; exact a3
  · rw [k.1.1 19 (by simp)]; exact a4
  · rw [k.1.1 20 (by simp), k.1.1 18 (by simp)]; exact a5
theorem cworstR (hN : 100000 ≤ N) (H : ToldR M1.1 M2.1) (hM : ∀ b, b < 34 → M.1 b = M1.1 b) {W : Int32} {S : Nat → Bool} (hW : isM W S) {p : Nat} (hp : p < 256) : ∃ x M', f_X8_worstOver N (nI p) W M = some (x, M') ∧ x.toInt = rmx (fun w => brZ M1 p w 4) S 16 ∧ Fr [37] M M' := by
  have hn := H.num
  have z9 : ((-9 : Int32)).toInt = -9 := rfl
  obtain ⟨s', Ma, rec, ⟨x, hs, hx, hF⟩, he⟩ := itr_go (B := B_X8_worstOver_6 N (nI p) W fun z4 M5 => some (z4, M5)) (fun j s M' => ∃ x, s = (x, nI j) ∧ x.toInt = rmx (fun w => brZ M1 p w 4) S j ∧ Fr [37] M M') 16
    (fun rec j s Mx hj ⟨x, hs, hx, hF⟩ => by
      subst hs
      have hMx : ∀ b, b < 34 → Mx.1 b = M1.1 b := fun b hb => by rw [hF.1 b (by simp; omega)]; exact hM b hb
      unfold B_X8_worstOver_6
      dsimp only
      rw [if_pos (by rw [lt16 (by omega)]; exact hj), bit_e _ (by omega), hW.at hj, nI_1]
      cases hS : S j
      · rw [if_neg (show ¬ b01 false = 1 by decide)]
        refine ⟨_, _, ⟨x, rfl, ?_, hF⟩, rfl⟩
        rw [hx, rmx_s, if_neg (by rw [hS]; rintro ⟨q, -⟩; cases q)]
      · rw [if_pos b01_t]
        obtain ⟨y, My, a1, a2, a3⟩ := cbr_e hN H hMx hp hj
        rw [bd_of a1, lt_eq]
        refine ⟨_, _, ⟨_, rfl, ?_, hF.tr a3⟩, rfl⟩
        rw [rmx_s]
        try dsimp only
        rw [← a2, ← hx, hS]
        by_cases q : x < y
        · rw [if_pos q, if_pos ⟨rfl, by rw [toI_lt] at q; exact q⟩]
        · rw [if_neg q, if_neg (fun z => q (by rw [toI_lt]; exact z.2))]) N 0 (-9, 0) M (by omega) (by omega) ⟨-9, by rw [nI_0], rfl, Fr.rf _ _⟩
  subst hs
  refine ⟨x, Ma, ?_, hx, hF⟩
  unfold f_X8_worstOver
  rw [he]
  have eB : ∀ G rec, B_X8_worstOver_6 N (nI p) W G rec (x, nI 16) Ma = G x Ma := fun G rec => by
    unfold B_X8_worstOver_6
    dsimp only
    rw [if_neg (show ¬ nI 16 < 16 by decide)]
  rw [eB]
theorem mworstR (hN : 100000 ≤ N) (h : FS M1 b M) {p : Nat} (hp : p < 256) (hP : plS (M1.1 1 0) p = true) (y : Int32) (G : Int32 → Mm → Rs) : ∃ x M', itr (B_X12_ruled_41 N (nI p) y G) N (-9, 0) M = G x M' ∧ x.toInt = rmx (fun w => brZ M1 p w 4) (setS M1 b) 16 ∧ Kb [13, 14, 15, 16] M M' ∧ FS M1 b M' := by
  obtain ⟨s', Ma, rec, ⟨x, hs, hx, hK, hf⟩, he⟩ := itr_go (B := B_X12_ruled_41 N (nI p) y G) (fun j s M' => ∃ x, s = (x, nI j) ∧ x.toInt = rmx (fun w => brZ M1 p w 4) (setS M1 b) j ∧ Kb [13, 14, 15, 16] M M' ∧ FS M1 b M') 16
    (fun rec j s Mx hj ⟨x, hs, hx, hK, hf⟩ => by
      subst hs
      unfold B_X12_ruled_41
      dsimp only
      rw [if_pos (by rw [lt16 (by omega)]; exact hj), inb_n (by omega) (by omega), ix_n (by omega), if_pos rfl, hf.2.2.2.1 j hj, nI_1]
      cases hS : setS M1 b j
      · rw [if_pos b01_f]
        refine ⟨_, _, ⟨x, rfl, ?_, hK, hf⟩, rfl⟩
        rw [hx, rmx_s, if_neg (by rw [hS]; rintro ⟨q, -⟩; cases q)]
      · rw [if_neg (show ¬ b01 true = 0 by decide)]
        obtain ⟨z, My, a1, a2, a3, a4⟩ := mbr_e hN hf.1 hp hj hP
        have fy := hf.kb a3 a4
        obtain ⟨z', Mz, b1, b2, b3, b4⟩ := mbr_e hN fy.1 hp hj hP
        have fz := fy.kb b3 b4
        have ez : z' = z := Int32.toInt_inj.mp (by rw [b2, a2])
        rw [ez] at b1
        rw [bd_of a1]
        have e : rmx (fun w => brZ M1 p w 4) (setS M1 b) (j + 1) = if x < z then z.toInt else x.toInt := by
          rw [rmx_s]
          try dsimp only
          rw [← a2, ← hx, hS]
          by_cases q : x < z
          · rw [if_pos q, if_pos ⟨rfl, by rw [toI_lt] at q; exact q⟩]
          · rw [if_neg q, if_neg (fun t => q (by rw [toI_lt]; exact t.2))]
        by_cases q : x < z
        · rw [if_pos q] at e ⊢
          rw [bd_of b1]
          exact ⟨_, _, ⟨z, rfl, e.symm, (hK.tr a3).tr b3, fz⟩, rfl⟩
        · rw [if_neg q] at e ⊢
          exact ⟨_, _, ⟨x, rfl, e.symm, hK.tr a3, fy⟩, rfl⟩) N 0 (-9, 0) M (by omega) (by omega) ⟨-9, by rw [nI_0], rfl, Kb.rf _ _, h⟩
  subst hs
  refine ⟨x, Ma, ?_, hx, hK, hf⟩
  rw [he]
  have eB : ∀ G rec, B_X12_ruled_41 N (nI p) y G rec (x, nI 16) Ma = G x Ma := fun G rec => by
    unfold B_X12_ruled_41
    dsimp only
    rw [if_neg (show ¬ nI 16 < 16 by decide)]
  rw [eB]
theorem step_ruled (hN : 100000 ≤ N) (H : Rel M1 M2) (a c : Int32) : Ans (f_X11_ruled N a c M1) (f_X12_ruled N a c M2) := by
  unfold f_X11_ruled f_X12_ruled
  rw [bd_of (cPl hN a), bd_of (mPl hN H.1.t a)]
  cases hP : isPl (M1.1 1 0) a
  · rw [if_pos b01_f, if_pos b01_f]; exact ref1 H
  · rw [if_neg (show ¬ b01 true = 0 by decide), if_neg (show ¬ b01 true = 0 by decide), bd_of (in01 c)]
    simp only [lt_eq]
    by_cases hc : c = 0 ∨ c = 1
    · obtain ⟨p, hp, rfl, hp2⟩ := isPl_of hP
      obtain ⟨n, hn, hnl⟩ := H.nl
      obtain ⟨W, w1, w2⟩ := set_e hN hn hnl
      obtain ⟨Mb, b1, b2, b3⟩ := H.finds hN
      have ej : ∀ R : Rs, (if c = 0 then R else if c = 1 then R else bd (f_X11_refuse N (-2) M1) fun r12 M13 => some (r12, M13)) = R := fun R => by
        by_cases c0 : c = 0
        · rw [if_pos c0]
        · rw [if_neg c0, if_pos (hc.resolve_left c0)]
      rw [ej, bd_of w1, if_pos hc, if_neg (show ¬ (1 : Int32) = 0 by decide), bd_of b1]
      obtain ⟨y, Mc, c1, c2, c3, c4⟩ := mworstR hN b3.fs hp hp2 c (fun z11 M12 => if z11 = (-9) then some (z11, M12) else if c = 0 then some (z11, M12) else bd (f_X12_worstOf N (nI p) 0 0 M12) fun r13 M14 => some (z11 - r13, M14))
      rw [c1]
      have km : ∀ {M'}, Kb Lq Mc M' → FS M1 (M1.1 2 42) M' → Km M1 M2 M' := fun k f => ((b2.tr c3.lq).tr k).km f.fnd.2.2
      have bb := fun w => br_b H.num (p := p) (w := w) 4 (by omega)
      by_cases hW : W = 0
      · rw [if_pos hW]
        rw [w2.zero] at hW
        have ey : y = -9 := Int32.toInt_inj.mp (by rw [c2, rmx_e 16 hW]; rfl)
        rw [if_pos ey]
        exact Ans.q H rfl rfl (by rw [ey]) (Kc.rf H.2.2.2.1) (km (Kb.rf _ _) c4)
      · rw [if_neg hW]
        have hne : ∃ w, w < 16 ∧ setS M1 (M1.1 2 42) w = true := by
          rw [w2.zero] at hW
          rcases Classical.not_forall.mp hW with ⟨w, hw⟩
          rcases Classical.not_imp.mp hw with ⟨h1, h2⟩
          exact ⟨w, h1, by simpa using h2⟩
        have hy : 0 ≤ y.toInt := by rw [c2]; exact rmx_t 16 (fun w _ => (bb w).1) hne
        have y9 : ¬ y = -9 := fun q => by rw [q] at hy; exact absurd hy (by decide)
        rw [if_neg y9]
        obtain ⟨x, Ma, a1, a2, a3⟩ := cworstR hN H.1 (fun _ _ => rfl) w2 hp
        have exy : x = y := Int32.toInt_inj.mp (by rw [a2, c2])
        subst exy
        rw [bd_of a1]
        have hC : CacheC Ma := H.2.2.2.1.fr (a3.on (by decide))
        have kc : Kc M1 Ma := ⟨fun k hk => a3.1 k (by simp; omega), hC⟩
        by_cases c0 : c = 0
        · rw [if_pos c0, if_pos c0]
          exact Ans.q H rfl rfl rfl kc (km (Kb.rf _ _) c4)
        · rw [if_neg c0, if_neg c0]
          have e2 : Ma.1 2 = M1.1 2 := a3.1 2 (by decide)
          obtain ⟨v, Md, d1, d2, d3, d4⟩ := worstO_e hN (M := Ma) (by rw [e2]; exact H.num) hp hC w2
          obtain ⟨u, Me, e1, f2, f3, f4, f5, f6⟩ := c4.worst hN hp hp2 0 0
          rw [bd_of d1, bd_of e1]
          have evu : v = u := Int32.toInt_inj.mp (by
            rw [d2, f2, e2, wv_fun (al00 _)]
            rfl)
          rw [evu]
          exact Ans.q H rfl rfl rfl (kc.tr d3.kc) (km f4 f5)
    · rw [if_neg (fun q => hc (Or.inl q)), if_neg (fun q => hc (Or.inr q)), if_neg hc, if_pos rfl]
      exact ref2 H
end Ruled
