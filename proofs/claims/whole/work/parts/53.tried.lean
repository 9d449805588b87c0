/-! some row of prices that the reference tries is worth what the least flow costs -/
theorem ex_P (ng : Nat) (la : Int) (F : Nat → Nat → Int) (d S H : Nat → Int) (m : Nat) : ∃ P, IsP ng m la F d S H P := by
  have one : ∀ k : Nat, ∃ x : Int, x ≤ la ∧ (0 < H k → x ≤ d k) ∧ (∀ g, g < ng → 0 < S g → x ≤ F g k) ∧ (x = la ∨ (0 < H k ∧ x = d k) ∨ ∃ g, g < ng ∧ 0 < S g ∧ x = F g k) := by
    intro k
    obtain ⟨ls, h1, h2, h3⟩ := ex_least (fun g => F g k) (fun g => 0 < S g) (if 0 < H k then (if d k < la then d k else la) else la) ng
    refine ⟨ls, ?_, fun hH => ?_, h2, ?_⟩
    · split at h1
      · split at h1 <;> omega
      · exact h1
    · rw [if_pos hH] at h1
      split at h1 <;> omega
    · rcases h3 with h | ⟨g, a, b, c⟩
      · split at h
        · rename_i hH
          split at h
          · exact Or.inr (Or.inl ⟨hH, h⟩)
          · exact Or.inl h
        · exact Or.inl h
      · exact Or.inr (Or.inr ⟨g, a, b, c⟩)
  exact ⟨fun k => Classical.choose (one k), fun k _ => Classical.choose_spec (one k)⟩
/-- what the reference tries -/
def Tried (nu : Nat → Int32) (sp lk : Nat → Int) (v : Int) : Prop :=
  v ≤ wZ nu sp lk (fun _ => 0) ∨
  (rk (isG lk) 4 = 1 ∧ ∃ j lv, j < 4 ∧ 0 < lk j ∧ (lv = zz nu 41 ∨ lv = zz nu (6 * j + 3) ∨ ∃ i, i < 4 ∧ lv = zz nu (24 + 4 * i + j)) ∧ v ≤ wZ nu sp lk (lvZ nu sp j lv)) ∨
  (1 < rk (isG lk) 4 ∧ rk (isG sp) 4 = 1 ∧ ∃ i k, i < 4 ∧ 0 < sp i ∧ k < 8 ∧ v ≤ wZ nu sp lk (p1Z i (prZ nu lk i k))) ∨
  (rk (isG lk) 4 = 2 ∧ rk (isG sp) 4 = 2 ∧ ∃ a b, a < 4 ∧ b < 4 ∧ a ≠ b ∧ 0 < sp a ∧ 0 < sp b ∧ ((∃ k m, k < 9 ∧ m < 9 ∧ v ≤ wZ nu sp lk (p2Z a b (prZ nu lk a k) (prZ nu lk b m))) ∨ ∃ k j, k < 9 ∧ j < 4 ∧ 0 < lk j ∧ v ≤ wZ nu sp lk (p2Z a b (prZ nu lk a k) (cut0 (prZ nu lk a k + zz nu (24 + 4 * a + j) - zz nu (24 + 4 * b + j))))))
theorem cut0_id {x : Int} (h : 0 ≤ x) : cut0 x = x := by
  unfold cut0
  split <;> omega
theorem prZ_la {nu : Nat → Int32} {lk : Nat → Int} {i j : Nat} (hj : j < 4) (hl : 0 < lk j) : prZ nu lk i (2 * j) = cut0 (zz nu 41 - zz nu (24 + 4 * i + j)) := by
  unfold prZ
  rw [if_neg (by omega), show 2 * j / 2 = j by omega, if_neg (by omega), show 2 * j % 2 = 0 by omega, if_pos rfl]
theorem prZ_d {nu : Nat → Int32} {lk : Nat → Int} {i j : Nat} (hj : j < 4) (hl : 0 < lk j) : prZ nu lk i (2 * j + 1) = cut0 (zz nu (6 * j + 3) - zz nu (24 + 4 * i + j)) := by
  unfold prZ
  rw [if_neg (by omega), show (2 * j + 1) / 2 = j by omega, if_neg (by omega), show (2 * j + 1) % 2 = 1 by omega, if_neg (by omega)]
theorem prZ_8 {nu : Nat → Int32} {lk : Nat → Int} {i : Nat} : prZ nu lk i 8 = 0 := by
  unfold prZ
  rw [if_pos rfl]
theorem fin_tried {nu : Nat → Int32} {sp lk : Nat → Int} {v : Int} (hn : NumB nu) (h0 : ∀ i, i < 4 → 0 ≤ sp i ∧ 0 ≤ lk i) (h4 : rk (isG sp) 4 + rk (isG lk) 4 ≤ 4) (hnt : 0 < rk (isG lk) 4) (h : Fin nu sp lk v) : Tried nu sp lk v := by
  obtain ⟨F, d, c, s, l, S, X, H, Zl, hR, ⟨p, u, hf⟩, i2, i3, i4, i5, hv⟩ := h
  obtain ⟨r1, r2, r3⟩ := id hR
  obtain ⟨P, hP⟩ := ex_P (rk (isG sp) 4) (zz nu 41) F d S H (rk (isG lk) 4)
  -- any prices that bear the flow are worth its cost
  have use : ∀ p' u' : Nat → Int, Fea (rk (isG sp) 4) (rk (isG lk) 4) (zz nu 41) F d c S X H Zl p' u' → ∀ pr : Nat → Int, (∀ i, i < 4 → 0 < sp i → p' (rk (isG sp) i) = pr i) → v ≤ wZ nu sp lk pr := by
    intro p' u' hf' pr hpr
    have := (br_end hn h0 hR hf' (fun g hg => (i2 g hg).2) i3 i4 i5).2.2.1
    rw [hv, ← wZ_congr (pr := hY sp p') (fun i hi => (h0 i hi).1) (fun i hi hs => by unfold hY; rw [isG_t hs, if_pos rfl]; exact hpr i hi hs)]
    exact this
  have inv_t : ∀ k, k < rk (isG lk) 4 → ∃ j, j < 4 ∧ 0 < lk j ∧ rk (isG lk) j = k := by
    intro k hk
    obtain ⟨j, j1, j2, j3⟩ := rk_inv hk
    exact ⟨j, j1, by unfold isG at j2; simpa using j2, j3⟩
  have inv_g : ∀ k, k < rk (isG sp) 4 → ∃ j, j < 4 ∧ 0 < sp j ∧ rk (isG sp) j = k := by
    intro k hk
    obtain ⟨j, j1, j2, j3⟩ := rk_inv hk
    exact ⟨j, j1, by unfold isG at j2; simpa using j2, j3⟩
  have rkG : ∀ i, i < 4 → 0 < sp i → rk (isG sp) i < rk (isG sp) 4 := fun i hi hs => rk_lt (isG_t hs) hi
  have rkE : ∀ i j, i < 4 → j < 4 → 0 < sp i → 0 < sp j → rk (isG sp) i = rk (isG sp) j → i = j := by
    intro i j hi hj hsi hsj e
    by_cases a : i < j
    · have := rk_lt (q := isG sp) (isG_t hsi) a; omega
    · by_cases b : j < i
      · have := rk_lt (q := isG sp) (isG_t hsj) b; omega
      · omega
  have hE : ∀ g, g < rk (isG sp) 4 → ¬ 0 < S g → ∃ k, k < rk (isG lk) 4 ∧ 0 < X g k := by
    intro g hg hs
    have := i2 g hg
    exact sm_pos (f := X g) (fun j hj => i3 g j hg hj) (by omega)
  unfold Tried
  generalize hng : rk (isG sp) 4 = ng at *
  generalize hnte : rk (isG lk) 4 = nt at *
  -- when no giver is used up
  have allS : (∀ g, g < ng → 0 < S g) → v ≤ wZ nu sp lk (fun _ => 0) := fun hS => use p u hf (fun _ => 0) (fun i hi hs => (hf.1 _ (rkG i hi hs)).2 (hS _ (rkG i hi hs)))
  by_cases hn1 : nt = 1
  · subst hn1
    obtain ⟨p', u', hf', hp'⟩ := top_1 hf hP i3 hE
    obtain ⟨j, j1, j2, j3⟩ := inv_t 0 (by omega)
    refine Or.inr (Or.inl ⟨rfl, j, P 0, j1, j2, ?_, use p' u' hf' _ (fun i hi hs => ?_)⟩)
    · rcases (hP 0 (by omega)).2.2.2 with h | ⟨-, h⟩ | ⟨g, hg, -, h⟩
      · exact Or.inl h
      · refine Or.inr (Or.inl ?_)
        rw [h, ← (r2 j j1 j2).1, j3]
      · obtain ⟨i, a, b, e⟩ := inv_g g hg
        refine Or.inr (Or.inr ⟨i, a, ?_⟩)
        rw [h, ← r1 i j a j1 b j2, e, j3]
    · rw [hp' _ (rkG i hi hs)]
      unfold lvZ
      rw [if_pos hs, ← r1 i j hi j1 hs j2, j3]
  · by_cases hg0 : ng = 0
    · exact Or.inl (allS (fun g hg => absurd hg (by omega)))
    · by_cases hg1 : ng = 1
      · subst hg1
        by_cases hs0 : 0 < S 0
        · exact Or.inl (allS (fun g hg => by have : g = 0 := by omega
                                             subst this; exact hs0))
        · obtain ⟨p', u', k, hf', q1, q2, q3, q4⟩ := top_g hf hP (a := 0) (by omega) hs0 (fun g hg hne => absurd hg (by omega)) (hE 0 (by omega) hs0)
          obtain ⟨i, a1, a2, a3⟩ := inv_g 0 (by omega)
          obtain ⟨j, j1, j2, j3⟩ := inv_t k q2
          have hF : F 0 k = zz nu (24 + 4 * i + j) := by rw [← r1 i j a1 j1 a2 j2, a3, j3]
          have fin : ∀ kk, kk < 8 → prZ nu lk i kk = p' 0 → ∃ i k, i < 4 ∧ 0 < sp i ∧ k < 8 ∧ v ≤ wZ nu sp lk (p1Z i (prZ nu lk i k)) := by
            intro kk hkk he
            refine ⟨i, kk, a1, a2, hkk, use p' u' hf' _ (fun i' hi' hs' => ?_)⟩
            have hr := rkG i' hi' hs'
            have : i' = i := rkE i' i hi' a1 hs' a2 (by omega)
            subst this
            unfold p1Z
            rw [if_pos rfl, he, a3]
          refine Or.inr (Or.inr (Or.inl ⟨by omega, rfl, ?_⟩))
          rcases (hP k q2).2.2.2 with h | ⟨-, h⟩ | ⟨g, hg, hsg, h⟩
          · exact fin (2 * j) (by omega) (by rw [prZ_la j1 j2, ← hF, ← h, cut0_id (by omega), q3])
          · exact fin (2 * j + 1) (by omega) (by rw [prZ_d j1 j2, ← hF, ← (r2 j j1 j2).1, j3, ← h, cut0_id (by omega), q3])
          · have : g = 0 := by omega
            subst this
            exact absurd hsg hs0
      · have hg2 : ng = 2 := by omega
        have hn2 : nt = 2 := by omega
        subst hg2; subst hn2
        obtain ⟨a, a1, a2, a3⟩ := inv_g 0 (by omega)
        obtain ⟨b, b1, b2, b3⟩ := inv_g 1 (by omega)
        have hab : a ≠ b := fun e => by subst e; omega
        -- a price that is told by left or dear at a taker
        have base : ∀ (g i : Nat) (x : Int), i < 4 → 0 < sp i → rk (isG sp) i = g → 0 ≤ x → (∃ k, k < 2 ∧ x = P k - F g k ∧ (P k = zz nu 41 ∨ P k = d k)) → ∃ kk, kk < 9 ∧ prZ nu lk i kk = x := by
          intro g i x hi hsi hgi hx ⟨k, hk, e, hPk⟩
          obtain ⟨j, j1, j2, j3⟩ := inv_t k hk
          have hF : F g k = zz nu (24 + 4 * i + j) := by rw [← r1 i j hi j1 hsi j2, hgi, j3]
          rcases hPk with h | h
          · exact ⟨2 * j, by omega, by rw [prZ_la j1 j2, ← hF, ← h, ← e, cut0_id hx]⟩
          · exact ⟨2 * j + 1, by omega, by rw [prZ_d j1 j2, ← hF, ← (r2 j j1 j2).1, j3, ← h, ← e, cut0_id hx]⟩
        have pair : ∀ p' u' : Nat → Int, Fea 2 2 (zz nu 41) F d c S X H Zl p' u' → ∀ x y, p' 0 = x → p' 1 = y → ∀ pr : Nat → Int, pr a = x → pr b = y → v ≤ wZ nu sp lk pr := by
          intro p' u' hf' x y hx hy pr ha hb
          refine use p' u' hf' pr (fun i hi hs => ?_)
          have hr := rkG i hi hs
          by_cases e : rk (isG sp) i = 0
          · have : i = a := rkE i a hi a1 hs a2 (by omega)
            subst this; rw [e, hx, ha]
          · have e1 : rk (isG sp) i = 1 := by omega
            have : i = b := rkE i b hi b1 hs b2 (by omega)
            subst this; rw [e1, hy, hb]
        have pab : ∀ x y : Int, p2Z a b x y a = x ∧ p2Z a b x y b = y := fun x y => by unfold p2Z; simp [hab.symm]
        have pba : ∀ x y : Int, p2Z b a x y b = x ∧ p2Z b a x y a = y := fun x y => by unfold p2Z; simp [hab]
        -- both prices by themselves
        have both : ∀ p' u' : Nat → Int, Fea 2 2 (zz nu 41) F d c S X H Zl p' u' → (∃ k, k < 9 ∧ prZ nu lk a k = p' 0) → (∃ k, k < 9 ∧ prZ nu lk b k = p' 1) → ∃ a b, a < 4 ∧ b < 4 ∧ a ≠ b ∧ 0 < sp a ∧ 0 < sp b ∧ ((∃ k m, k < 9 ∧ m < 9 ∧ v ≤ wZ nu sp lk (p2Z a b (prZ nu lk a k) (prZ nu lk b m))) ∨ ∃ k j, k < 9 ∧ j < 4 ∧ 0 < lk j ∧ v ≤ wZ nu sp lk (p2Z a b (prZ nu lk a k) (cut0 (prZ nu lk a k + zz nu (24 + 4 * a + j) - zz nu (24 + 4 * b + j))))) := by
          intro p' u' hf' ⟨k, hk, ek⟩ ⟨m, hm, em⟩
          exact ⟨a, b, a1, b1, hab, a2, b2, Or.inl ⟨k, m, hk, hm, pair p' u' hf' _ _ rfl rfl _ (by rw [(pab _ _).1, ek]) (by rw [(pab _ _).2, em])⟩⟩
        -- one by itself, the other one alike with it at a taker
        have alikeA : ∀ p' u' : Nat → Int, Fea 2 2 (zz nu 41) F d c S X H Zl p' u' → (∃ k, k < 9 ∧ prZ nu lk a k = p' 0) → (∃ k, k < 2 ∧ p' 1 = p' 0 + F 0 k - F 1 k) → ∃ a b, a < 4 ∧ b < 4 ∧ a ≠ b ∧ 0 < sp a ∧ 0 < sp b ∧ ((∃ k m, k < 9 ∧ m < 9 ∧ v ≤ wZ nu sp lk (p2Z a b (prZ nu lk a k) (prZ nu lk b m))) ∨ ∃ k j, k < 9 ∧ j < 4 ∧ 0 < lk j ∧ v ≤ wZ nu sp lk (p2Z a b (prZ nu lk a k) (cut0 (prZ nu lk a k + zz nu (24 + 4 * a + j) - zz nu (24 + 4 * b + j))))) := by
          intro p' u' hf' ⟨k, hk, ek⟩ ⟨m, hm, em⟩
          obtain ⟨j, j1, j2, j3⟩ := inv_t m hm
          have f0 : F 0 m = zz nu (24 + 4 * a + j) := by rw [← r1 a j a1 j1 a2 j2, a3, j3]
          have f1 : F 1 m = zz nu (24 + 4 * b + j) := by rw [← r1 b j b1 j1 b2 j2, b3, j3]
          have hp1 := (hf'.1 1 (by omega)).1
          refine ⟨a, b, a1, b1, hab, a2, b2, Or.inr ⟨k, j, hk, j1, j2, pair p' u' hf' _ _ rfl rfl _ (by rw [(pab _ _).1, ek]) ?_⟩⟩
          rw [(pab _ _).2, ek, ← f0, ← f1, cut0_id (by omega), em]
        have alikeB : ∀ p' u' : Nat → Int, Fea 2 2 (zz nu 41) F d c S X H Zl p' u' → (∃ k, k < 9 ∧ prZ nu lk b k = p' 1) → (∃ k, k < 2 ∧ p' 0 = p' 1 + F 1 k - F 0 k) → ∃ a b, a < 4 ∧ b < 4 ∧ a ≠ b ∧ 0 < sp a ∧ 0 < sp b ∧ ((∃ k m, k < 9 ∧ m < 9 ∧ v ≤ wZ nu sp lk (p2Z a b (prZ nu lk a k) (prZ nu lk b m))) ∨ ∃ k j, k < 9 ∧ j < 4 ∧ 0 < lk j ∧ v ≤ wZ nu sp lk (p2Z a b (prZ nu lk a k) (cut0 (prZ nu lk a k + zz nu (24 + 4 * a + j) - zz nu (24 + 4 * b + j))))) := by
          intro p' u' hf' ⟨k, hk, ek⟩ ⟨m, hm, em⟩
          obtain ⟨j, j1, j2, j3⟩ := inv_t m hm
          have f0 : F 0 m = zz nu (24 + 4 * a + j) := by rw [← r1 a j a1 j1 a2 j2, a3, j3]
          have f1 : F 1 m = zz nu (24 + 4 * b + j) := by rw [← r1 b j b1 j1 b2 j2, b3, j3]
          have hp0 := (hf'.1 0 (by omega)).1
          refine ⟨b, a, b1, a1, hab.symm, b2, a2, Or.inr ⟨k, j, hk, j1, j2, pair p' u' hf' _ _ rfl rfl _ ?_ (by rw [(pba _ _).1, ek])⟩⟩
          rw [(pba _ _).2, ek, ← f0, ← f1, cut0_id (by omega), em]
        by_cases s0 : 0 < S 0
        · by_cases s1 : 0 < S 1
          · refine Or.inl (allS (fun g hg => ?_))
            by_cases e : g = 0
            · subst e; exact s0
            · have : g = 1 := by omega
              subst this; exact s1
          · refine Or.inr (Or.inr (Or.inr ⟨rfl, rfl, ?_⟩))
            obtain ⟨p', u', k, hf', q1, q2, q3, q4⟩ := top_g hf hP (a := 1) (by omega) s1 (fun g hg hne => by
              have : g = 0 := by omega
              subst this; exact s0) (hE 1 (by omega) s1)
            have z0 := q1 0 (by omega) (by omega)
            rcases (hP k q2).2.2.2 with h | ⟨-, h⟩ | ⟨g, hg, hsg, h⟩
            · exact both p' u' hf' ⟨8, by omega, by rw [prZ_8, z0]⟩ (base 1 b _ b1 b2 b3 q4 ⟨k, q2, q3, Or.inl h⟩)
            · exact both p' u' hf' ⟨8, by omega, by rw [prZ_8, z0]⟩ (base 1 b _ b1 b2 b3 q4 ⟨k, q2, q3, Or.inr h⟩)
            · have e : g = 0 := by
                by_cases e : g = 0
                · exact e
                · have : g = 1 := by omega
                  subst this; exact absurd hsg s1
              subst e
              exact alikeA p' u' hf' ⟨8, by omega, by rw [prZ_8, z0]⟩ ⟨k, q2, by rw [q3, h, z0]; omega⟩
        · by_cases s1 : 0 < S 1
          · refine Or.inr (Or.inr (Or.inr ⟨rfl, rfl, ?_⟩))
            obtain ⟨p', u', k, hf', q1, q2, q3, q4⟩ := top_g hf hP (a := 0) (by omega) s0 (fun g hg hne => by
              have : g = 1 := by omega
              subst this; exact s1) (hE 0 (by omega) s0)
            have z1 := q1 1 (by omega) (by omega)
            rcases (hP k q2).2.2.2 with h | ⟨-, h⟩ | ⟨g, hg, hsg, h⟩
            · exact both p' u' hf' (base 0 a _ a1 a2 a3 q4 ⟨k, q2, q3, Or.inl h⟩) ⟨8, by omega, by rw [prZ_8, z1]⟩
            · exact both p' u' hf' (base 0 a _ a1 a2 a3 q4 ⟨k, q2, q3, Or.inr h⟩) ⟨8, by omega, by rw [prZ_8, z1]⟩
            · have e : g = 1 := by
                by_cases e : g = 1
                · exact e
                · have : g = 0 := by omega
                  subst this; exact absurd hsg s0
              subst e
              exact alikeB p' u' hf' ⟨8, by omega, by rw [prZ_8, z1]⟩ ⟨k, q2, by rw [q3, h, z1]; omega⟩
          · refine Or.inr (Or.inr (Or.inr ⟨rfl, rfl, ?_⟩))
            obtain ⟨p', u', hf', t0, t1⟩ := top_2 hf hP i3 hE
            have pla : ∀ k, k < 2 → P k = zz nu 41 ∨ P k = d k := by
              intro k hk
              rcases (hP k hk).2.2.2 with h | ⟨-, h⟩ | ⟨g, hg, hsg, h⟩
              · exact Or.inl h
              · exact Or.inr h
              · by_cases e : g = 0
                · subst e; exact absurd hsg s0
                · have : g = 1 := by omega
                  subst this; exact absurd hsg s1
            have hu : ∀ k, k < 2 → u' k = P k ∨ ∃ g l', g < 2 ∧ l' < 2 ∧ 0 < X g l' ∧ u' k = P l' - F g l' + F g k := by
              intro k hk
              by_cases e : k = 0
              · subst e
                rcases t0 with h | ⟨g, x1, x2, x3⟩
                · exact Or.inl h
                · exact Or.inr ⟨g, 1, x1, by omega, x2, x3⟩
              · have : k = 1 := by omega
                subst this
                rcases t1 with h | ⟨g, x1, x2, x3⟩
                · exact Or.inl h
                · exact Or.inr ⟨g, 0, x1, by omega, x2, x3⟩
            -- each price: by itself, or alike with one that is by itself
            have each : ∀ g, g < 2 → ¬ 0 < S g → (∃ k, k < 2 ∧ p' g = P k - F g k) ∨ ∃ j k, j < 2 ∧ j ≠ g ∧ k < 2 ∧ (∃ k, k < 2 ∧ p' j = P k - F j k) ∧ p' g = p' j + F j k - F g k := by
              intro g hg hs
              obtain ⟨k, hk, hx⟩ := hE g hg hs
              have e1 := (hf'.2.2 g k hg hk).1
              have e2 := (hf'.2.2 g k hg hk).2 hx
              rcases hu k hk with h | ⟨j, l', j1, j2, j3, j4⟩
              · exact Or.inl ⟨k, hk, by omega⟩
              · have e3 := (hf'.2.2 j l' j1 j2).2 j3
                have e4 := u_le_P hf' hP j2
                have e5 := (hf'.2.2 j k j1 hk).1
                by_cases ejg : j = g
                · subst ejg
                  exact Or.inl ⟨l', j2, by omega⟩
                · exact Or.inr ⟨j, k, j1, ejg, hk, ⟨l', j2, by omega⟩, by omega⟩
            have nn0 := (hf'.1 0 (by omega)).1
            have nn1 := (hf'.1 1 (by omega)).1
            have bA : (∃ k, k < 2 ∧ p' 0 = P k - F 0 k) → ∃ k, k < 9 ∧ prZ nu lk a k = p' 0 := fun ⟨k, hk, e⟩ => base 0 a _ a1 a2 a3 nn0 ⟨k, hk, e, pla k hk⟩
            have bB : (∃ k, k < 2 ∧ p' 1 = P k - F 1 k) → ∃ k, k < 9 ∧ prZ nu lk b k = p' 1 := fun ⟨k, hk, e⟩ => base 1 b _ b1 b2 b3 nn1 ⟨k, hk, e, pla k hk⟩
            rcases each 0 (by omega) s0 with h | ⟨j, k, j1, j2, k1, h, e⟩
            · rcases each 1 (by omega) s1 with h' | ⟨j, k, j1, j2, k1, h', e⟩
              · exact both p' u' hf' (bA h) (bB h')
              · have : j = 0 := by omega
                subst this
                exact alikeA p' u' hf' (bA h) ⟨k, k1, e⟩
            · have : j = 1 := by omega
              subst this
              exact alikeB p' u' hf' (bB h) ⟨k, k1, e⟩
