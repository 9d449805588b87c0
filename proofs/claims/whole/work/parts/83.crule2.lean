section Crule2
variable {N : Nat} {tx : Nat → Int32} {n : Nat} {sn : Int32 → Bool} {sd : Int32}
/-- a value, a sign behind it: a value that is joined to the one before -/
theorem RO.join {M Ma Mb : Mm} {i j c k : Nat} {a v v' : Vl} {x : Int32} (F : Fr [30, 35, 36] M Ma) (h : Tx tx n j Ma) (hk : k + 1 ≤ j - i) (e35 : Ma.1 35 1 = nI (c + k)) (hlo : ∀ i, i < c → Ma.1 36 i = M.1 36 i) (he : ∀ p w st, rpR (Ma.1 36) p w c k st = some (v p w :: st)) (hj : j ≤ 40) (hci : c ≤ i) (hx : ¬ x < 1020) (hv : ∀ p w, rpJ x (a p w) (v p w) = v' p w) : ∃ Mb, f_X7_add N x Ma = some (0, Mb) ∧ Fr [30, 35, 36] M Mb ∧ Tx tx n j Mb ∧ Mb.1 35 1 = nI (c + (k + 1)) ∧ (∀ i, i < c → Mb.1 36 i = M.1 36 i) ∧ ∀ p w st, rpR (Mb.1 36) p w c (k + 1) (a p w :: st) = some (v' p w :: st) := by
  obtain ⟨Mb, a1, a2, a3, a4⟩ := add_e (N := N) e35 (by omega) x
  obtain ⟨b1, b2⟩ := a4 (by omega)
  refine ⟨Mb, a1, F.tr (a2.mono (by simp)), h.fr (a2.1 30 (by decide)) (a2.1 31 (by decide)), b1, fun i hi => ?_, fun p w st => ?_⟩
  · rw [b2, upd_ne (by omega)]; exact hlo i hi
  · have e := he p w (a p w :: st)
    rw [rp_congr (pt' := Mb.1 36) k (fun i hi => by rw [b2, upd_ne (by omega)])] at e
    rw [rp_add k 1 e, rp_1, b2, upd_at]
    unfold stp
    rw [if_neg hx]
    dsimp only
    rw [hv]
/-- what came before, and what comes behind it -/
theorem RO.then {M Ma : Mm} {R : Rs} {i j c k : Nat} {u : Up} {v : Vl} {o : RR} (F : Fr [30, 35, 36] M Ma) (hij : i ≤ j) (hk : k ≤ j - i) (hlo : ∀ i, i < c → Ma.1 36 i = M.1 36 i) (he : ∀ p w st, rpR (Ma.1 36) p w c k (u p w st) = some (v p w :: st)) (hb : ∀ j2 v2, o = .inr (j2, v2) → j ≤ j2) (H : RO tx n j (c + k) Ma (u1 v) o R) : RO tx n i c M u o R := by
  obtain ⟨x, Mb, h1, h2, h3⟩ := H
  refine ⟨x, Mb, h1, F.tr h2, ?_⟩
  split
  · exact h3
  · rename_i j2 v2
    obtain ⟨t, k2, a1, a2, a3, a4⟩ := h3
    have := hb j2 v2 rfl
    refine ⟨t, k + k2, by omega, by rw [a2, Nat.add_assoc], fun i hi => (a3 i (by omega)).trans (hlo i hi), fun p w st => ?_⟩
    have e := he p w st
    rw [rp_congr (pt' := Mb.1 36) k (fun i hi => (a3 i (by omega)).symm)] at e
    rw [rp_add k k2 e]
    exact a4 p w st
theorem rul_r (hN : 100000 ≤ N) (hn : n ≤ 40) (hsn : SnOk sn) (hsd : ∀ k, k < 4 → sn (nI k) = bt sd k) : ∀ f : Nat,
    (∀ g dep i M c a, 3 * (4 - dep) + 1 ≤ g → dep ≤ 4 → i ≤ n → 3 * (n - i) + 1 ≤ f → Tx tx n i M → M.1 34 3 = sd → M.1 35 1 = nI c → c ≤ i → RO tx n i c M u0 (rwS tx n sn f 0 dep i a) ((gr_rules N g).2.2 (nI dep) M)) ∧
    (∀ g dep i M c a, 3 * (4 - dep) + 2 ≤ g → dep ≤ 4 → i ≤ n → 3 * (n - i) + 2 ≤ f → Tx tx n i M → M.1 34 3 = sd → M.1 35 1 = nI c → c ≤ i → RO tx n i c M u0 (rwS tx n sn f 1 dep i a) ((gr_rules N g).2.1 (nI dep) M)) ∧
    (∀ g dep i M c a, 3 * (4 - dep) + 3 ≤ g → dep ≤ 4 → i ≤ n → 3 * (n - i) + 3 ≤ f → Tx tx n i M → M.1 34 3 = sd → M.1 35 1 = nI c → c ≤ i → RO tx n i c M u0 (rwS tx n sn f 2 dep i a) ((gr_rules N g).1 (nI dep) M)) ∧
    (∀ g dep i M c a cnt m, 3 * (4 - dep) + 1 ≤ g → dep ≤ 4 → i ≤ n → 3 * (n - i) + 1 ≤ f → Tx tx n i M → M.1 34 3 = sd → M.1 35 1 = nI c → c ≤ i → cnt + (n - i) ≤ 40 → n - i < m → RO tx n i c M (u1 a) (rwS tx n sn f 3 dep i a) (itr (B_X8_readProduct_8 N (gr_rules N g).1 (gr_rules N g).2.1 (gr_rules N g).2.2 (nI dep) fun _ M10 => some (0, M10)) m (nI cnt) M)) ∧
    (∀ g dep i M c a cnt m, 3 * (4 - dep) + 2 ≤ g → dep ≤ 4 → i ≤ n → 3 * (n - i) + 1 ≤ f → Tx tx n i M → M.1 34 3 = sd → M.1 35 1 = nI c → c ≤ i → cnt + (n - i) ≤ 40 → n - i < m → RO tx n i c M (u1 a) (rwS tx n sn f 4 dep i a) (itr (B_X8_readSum_8 N (gr_rules N g).1 (gr_rules N g).2.1 (gr_rules N g).2.2 (nI dep) fun _ M19 => some (0, M19)) m (nI cnt) M)) := by
  intro f
  induction f with
  | zero =>
    refine ⟨fun g dep i M c a h1 h2 h3 h4 => by omega, fun g dep i M c a h1 h2 h3 h4 => by omega, fun g dep i M c a h1 h2 h3 h4 => by omega, fun g dep i M c a cnt m h1 h2 h3 h4 => by omega, fun g dep i M c a cnt m h1 h2 h3 h4 => by omega⟩
  | succ f ih =>
    obtain ⟨ih0, ih1, ih2, ih3, ih4⟩ := ih
    refine ⟨?_, ?_, ?_, ?_, ?_⟩
    · -- a unit
      intro g dep i M c a hg hd hi hf h h34 hc hci
      obtain ⟨g, rfl⟩ : ∃ g', g = g' + 1 := ⟨g - 1, by omega⟩
      show RO tx n i c M u0 _ (b_X8_readUnit N (gr_rules N g).1 (gr_rules N g).2.1 (gr_rules N g).2.2 (nI dep) M)
      unfold b_X8_readUnit rwS
      rw [if_pos rfl, bd_of (atd_e h hn hi)]
      cases hdg : isDg (pk tx n i)
      · rw [if_pos b01_f, if_neg (by decide)]
        by_cases c120 : pk tx n i = 120
        · have hin := pkin c120 (by decide)
          have h1 := h.go (i + 1)
          have F1 : Fr [30] M (wI M 30 2 (nI (i + 1))) := (Fr.rf _ _).wI (by simp)
          rw [if_pos c120, bd_of (take_t h hn hi c120), if_neg (show ¬ (1 : Int32) = 0 by decide)]
          by_cases hd2 : isDg (pk tx n (i + 1)) = true
          · obtain ⟨k, k1, k2, k3⟩ := dg_of hd2
            have hin2 := dg_le hd2
            rw [if_pos hd2, bd_of (digit_t h1 hn hin hd2), k3]
            have h2 := h1.go (i + 2)
            by_cases h4 : k < 4
            · rw [if_pos (show nI k < 4 by rw [lt4 (by omega)]; exact h4)]
              obtain ⟨M', a1, a2⟩ := RO.one (N := N) (u := u0) (v := ferS (nI k)) h2 (F1.wI (by simp)) hc hci (by omega) (by omega) (fun p w st => stp_f h4 p w st)
              rw [bd_of a1]
              exact a2
            · rw [if_neg (show ¬ nI k < 4 by rw [lt4 (by omega)]; exact h4)]
              obtain ⟨M', a1, a2⟩ := RO.one (N := N) (u := u0) (v := ferS (nI k)) (x := 0) h2 (F1.wI (by simp)) hc hci (by omega) (by omega) (fun p w st => by
                unfold ferS
                rw [if_neg (show ¬ nI k < 4 by rw [lt4 (by omega)]; exact h4)]
                exact stp_n (z := 0) (by omega) p w st)
              rw [bd_of a1]
              exact a2
          · rw [if_neg hd2, bd_of (digit_n h1 hn hin hd2), if_pos (by decide)]
            obtain ⟨M', a1, a2⟩ := RO.badd (N := N) (i := i) (u := u0) (h1.fl (i + 1)) (F1.wI (by simp)) hc (by omega) (1000 + 0)
            rw [bd_of a1]
            exact a2
        · rw [if_neg c120, bd_of (take_n h hn hi c120), if_pos rfl]
          by_cases c115 : pk tx n i = 115
          · have hin := pkin c115 (by decide)
            have h1 := h.go (i + 1)
            have F1 : Fr [30] M (wI M 30 2 (nI (i + 1))) := (Fr.rf _ _).wI (by simp)
            rw [if_pos c115, bd_of (take_t h hn hi c115), if_neg (show ¬ (1 : Int32) = 0 by decide)]
            obtain ⟨M', a1, a2⟩ := rseen_e (N := N) (c := c) hn h1 hin hsn hsd (by rw [F1.1 34 (by decide)]; exact h34) (by rw [F1.1 35 (by decide)]; exact hc) (by omega)
            rw [bd_of a1]
            obtain ⟨y, My, b1, b2, b3⟩ := a2
            cases b1
            refine ⟨0, M', rfl, (F1.mono (by simp)).tr b2, ?_⟩
            rw [show i + 1 - 1 = i by omega, F1.1 36 (by decide)] at b3
            exact b3
          · rw [if_neg c115, bd_of (take_n h hn hi c115), if_pos rfl]
            by_cases c40 : pk tx n i = 40
            · have hin := pkin c40 (by decide)
              have h1 := h.go (i + 1)
              have F1 : Fr [30] M (wI M 30 2 (nI (i + 1))) := (Fr.rf _ _).wI (by simp)
              rw [if_pos c40, bd_of (take_t h hn hi c40), if_neg (show ¬ (1 : Int32) = 0 by decide)]
              by_cases h4 : dep < 4
              · rw [if_pos (show nI dep < 4 by rw [lt4 (by omega)]; exact h4), if_pos h4, nI_1]
                obtain ⟨x, M', a1, a2, a3⟩ := ih2 g (dep + 1) (i + 1) _ c a (by omega) (by omega) hin (by omega) h1 (by rw [F1.1 34 (by decide)]; exact h34) (by rw [F1.1 35 (by decide)]; exact hc) (by omega)
                have hb := rw_b (tx := tx) (n := n) hsn f 2 (dep + 1) (i + 1) a hin
                have F2 : Fr [30, 35, 36] M M' := (F1.mono (by simp)).tr a2
                rw [bd_of a1]
                split at a3
                · rename_i q he
                  rw [he]
                  have hq := hb.1 q he
                  rw [bd_of (take_f a3.1 (by omega) (by decide)), if_pos rfl, bd_of (fail_f a3.1 (by omega) _)]
                  exact ⟨0, M', rfl, F2, a3⟩
                · rename_i j v he
                  rw [he]
                  have hj := hb.2 j v he
                  obtain ⟨t, k, b1, b2, b3, b4⟩ := a3
                  dsimp only
                  by_cases c41 : pk tx n j = 41
                  · rw [if_pos c41, bd_of (take_t t hn hj.2.1 c41), if_neg (show ¬ (1 : Int32) = 0 by decide)]
                    have G : Fr [30] M' (wI M' 30 2 (nI (j + 1))) := (Fr.rf _ _).wI (by simp)
                    refine ⟨0, _, rfl, F2.tr (G.mono (by simp)), t.go (j + 1), k, by omega, by rw [G.1 35 (by decide)]; exact b2, fun i hi => ?_, fun p w st => ?_⟩
                    · rw [G.1 36 (by decide), b3 i hi, F1.1 36 (by decide)]
                    · rw [G.1 36 (by decide)]; exact b4 p w st
                  · rw [if_neg c41, bd_of (take_n t hn hj.2.1 c41), if_pos rfl, bd_of (fail_e t _), t.2.2.1]
                    have G : Fr [30] M' (wI M' 30 3 (nI j)) := (Fr.rf _ _).wI (by simp)
                    exact ⟨0, _, rfl, F2.tr (G.mono (by simp)), t.fl j, c + k, by omega, by rw [G.1 35 (by decide)]; exact b2⟩
              · rw [if_neg (show ¬ nI dep < 4 by rw [lt4 (by omega)]; exact h4), if_neg h4, bd_of (fail_e h1 _), h.2.2.1]
                exact RO.bad (h1.fl i) (F1.wI (by simp)) hc (by omega)
            · rw [if_neg c40, bd_of (take_n h hn hi c40), if_pos rfl, bd_of (fail_e h _), h.2.2.1]
              exact RO.bad (h.fl i) ((Fr.rf _ _).wI (by simp)) hc (by omega)
      · rw [if_neg (show ¬ b01 true = 0 by decide), if_pos rfl]
        obtain ⟨Ma, a1, a2, a3⟩ := rnum_l (N := N) hn (fun z6 M7 => bd (f_X7_add N z6 M7) fun r8 M9 => some (0, M9)) 3 i 0 0 N M (by omega) (by omega) hi h
        have a1' : f_X8_readNumber N M = (fun z6 M7 => bd (f_X7_add N z6 M7) fun r8 M9 => some (0, M9)) (numS tx n 3 i 0).2 Ma := a1
        obtain ⟨z, z1, z2⟩ := num_3 (tx := tx) (n := n) i
        have l1 : i + 1 ≤ (numS tx n 3 i 0).1 := num_1 (f := 2) hdg
        have l2 := num_b (tx := tx) (n := n) 3 i 0 hi
        obtain ⟨M', b1, b2⟩ := RO.one (N := N) (u := u0) (v := fun _ _ => (numS tx n 3 i 0).2) (x := (numS tx n 3 i 0).2) a2 a3 hc hci (by omega) (by omega) (fun p w st => by rw [z1]; exact stp_n z2 p w st)
        dsimp only at a1'
        rw [bd_of b1] at a1'
        rw [bd_of a1']
        exact b2
    · -- a product
      intro g dep i M c a hg hd hi hf h h34 hc hci
      obtain ⟨g, rfl⟩ : ∃ g', g = g' + 1 := ⟨g - 1, by omega⟩
      show RO tx n i c M u0 _ (b_X8_readProduct N (gr_rules N g).1 (gr_rules N g).2.1 (gr_rules N g).2.2 (nI dep) M)
      obtain ⟨N', hN'⟩ : ∃ N', N = N' + 1 := ⟨N - 1, by omega⟩
      unfold b_X8_readProduct rwS
      rw [if_neg (by decide), if_pos rfl]
      obtain ⟨x, M', a1, a2, a3⟩ := ih0 g dep i M c a (by omega) hd hi (by omega) h h34 hc hci
      have hb := rw_b (tx := tx) (n := n) hsn f 0 dep i a hi
      rw [bd_of a1]
      split at a3
      · rename_i q he
        rw [he]
        have := prd_x (N := N) (i := i) (Or.inr ⟨a3.1, hb.1 q he⟩) hn (gr_rules N g).1 (gr_rules N g).2.1 (gr_rules N g).2.2 (nI dep) 0 N'
        rw [← hN'] at this
        rw [this]
        exact ⟨0, M', rfl, a2, a3⟩
      · rename_i j v he
        rw [he]
        have hj := hb.2 j v he
        obtain ⟨t, k, b1, b2, b3, b4⟩ := a3
        dsimp only
        refine RO.then a2 hj.1 b1 b3 b4 (fun j2 v2 h2 => ((rw_b (tx := tx) (n := n) hsn f 3 dep j v hj.2.1).2 j2 v2 h2).1) ?_
        exact ih3 g dep j M' (c + k) v 0 N (by omega) hd hj.2.1 (by omega) t (by rw [a2.1 34 (by decide)]; exact h34) b2 (by omega) (by omega) (by omega)
    · -- a sum
      intro g dep i M c a hg hd hi hf h h34 hc hci
      obtain ⟨g, rfl⟩ : ∃ g', g = g' + 1 := ⟨g - 1, by omega⟩
      show RO tx n i c M u0 _ (b_X8_readSum N (gr_rules N g).1 (gr_rules N g).2.1 (gr_rules N g).2.2 (nI dep) M)
      obtain ⟨N', hN'⟩ : ∃ N', N = N' + 1 := ⟨N - 1, by omega⟩
      unfold b_X8_readSum rwS
      rw [if_neg (by decide), if_neg (by decide), if_pos rfl]
      obtain ⟨x, M', a1, a2, a3⟩ := ih1 g dep i M c a (by omega) hd hi (by omega) h h34 hc hci
      have hb := rw_b (tx := tx) (n := n) hsn f 1 dep i a hi
      rw [bd_of a1]
      split at a3
      · rename_i q he
        rw [he]
        have := sum_x (N := N) (i := i) (Or.inr ⟨a3.1, hb.1 q he⟩) hn (gr_rules N g).1 (gr_rules N g).2.1 (gr_rules N g).2.2 (nI dep) 0 N'
        rw [← hN'] at this
        rw [this]
        exact ⟨0, M', rfl, a2, a3⟩
      · rename_i j v he
        rw [he]
        have hj := hb.2 j v he
        obtain ⟨t, k, b1, b2, b3, b4⟩ := a3
        dsimp only
        refine RO.then a2 hj.1 b1 b3 b4 (fun j2 v2 h2 => ((rw_b (tx := tx) (n := n) hsn f 4 dep j v hj.2.1).2 j2 v2 h2).1) ?_
        exact ih4 g dep j M' (c + k) v 0 N (by omega) hd hj.2.1 (by omega) t (by rw [a2.1 34 (by decide)]; exact h34) b2 (by omega) (by omega) (by omega)
    · -- the rest of a product
      intro g dep i M c a cnt m hg hd hi hf h h34 hc hci hcnt hm
      obtain ⟨m, rfl⟩ : ∃ m', m = m' + 1 := ⟨m - 1, by omega⟩
      unfold rwS
      rw [if_neg (by decide), if_neg (by decide), if_neg (by decide), if_pos rfl]
      by_cases c42 : pk tx n i = 42
      · have hin := pkin c42 (by decide)
        have h1 := h.go (i + 1)
        have F1 : Fr [30] M (wI M 30 2 (nI (i + 1))) := (Fr.rf _ _).wI (by simp)
        rw [if_pos c42, itr_s, prd_s h hn hi c42 (by omega)]
        obtain ⟨x, M', a1, a2, a3⟩ := ih0 g dep (i + 1) _ c a (by omega) hd hin (by omega) h1 (by rw [F1.1 34 (by decide)]; exact h34) (by rw [F1.1 35 (by decide)]; exact hc) (by omega)
        have hb := rw_b (tx := tx) (n := n) hsn f 0 dep (i + 1) a hin
        have F2 : Fr [30, 35, 36] M M' := (F1.mono (by simp)).tr a2
        obtain ⟨m, rfl⟩ : ∃ m', m = m' + 1 := ⟨m - 1, by omega⟩
        rw [bd_of a1]
        split at a3
        · rename_i q he
          rw [he]
          obtain ⟨c', e1, e2⟩ := a3.2
          obtain ⟨M2, d1, d2, d3, -⟩ := add_e (N := N) e2 e1 1022
          have t2 := a3.1.fr (d2.1 30 (by decide)) (d2.1 31 (by decide))
          rw [bd_of d1, prd_x (i := i) (Or.inr ⟨t2, hb.1 q he⟩) hn]
          exact ⟨0, M2, rfl, F2.tr (d2.mono (by simp)), t2, d3⟩
        · rename_i j v he
          rw [he]
          have hj := hb.2 j v he
          have hj1 := hj.2.2.1 (by omega)
          obtain ⟨t, k, b1, b2, b3, b4⟩ := a3
          dsimp only
          obtain ⟨Mb, d1, d2, d3, d4, d5, d6⟩ := RO.join (N := N) (i := i) (Mb := M') (a := a) (v := v) (v' := fun p w => a p w * v p w) (x := 1022) F2 t (by omega) b2 (fun i hi => by rw [b3 i hi, F1.1 36 (by decide)]) b4 (by omega) hci (by decide) (fun p w => by unfold rpJ; rw [if_pos rfl])
          rw [bd_of d1]
          refine RO.then d2 (by omega) (by omega) d5 d6 (fun j2 v2 h2 => ((rw_b (tx := tx) (n := n) hsn f 3 dep j _ hj.2.1).2 j2 v2 h2).1) ?_
          exact ih3 g dep j Mb (c + (k + 1)) _ (cnt + 1) (m + 1) (by omega) hd hj.2.1 (by omega) d3 (by rw [d2.1 34 (by decide)]; exact h34) d4 (by omega) (by omega) (by omega)
      · rw [if_neg c42, prd_x (q := 0) (Or.inl ⟨h, hi, c42⟩) hn]
        exact ⟨0, M, rfl, Fr.rf _ _, h, 0, by omega, hc, fun _ _ => rfl, fun p w st => rfl⟩
    · -- the rest of a sum
      intro g dep i M c a cnt m hg hd hi hf h h34 hc hci hcnt hm
      obtain ⟨m, rfl⟩ : ∃ m', m = m' + 1 := ⟨m - 1, by omega⟩
      unfold rwS
      rw [if_neg (by decide), if_neg (by decide), if_neg (by decide), if_neg (by decide)]
      have go : ∀ (x : Int32) (op : Vl → Vl), ((pk tx n i = 43 ∧ x = 1020) ∨ (pk tx n i = 45 ∧ x = 1021)) → (∀ v p w, rpJ x (a p w) (v p w) = op v p w) → RO tx n i c M (u1 a) (match rwS tx n sn f 1 dep (i + 1) a with | .inl q => .inl q | .inr (j, v) => rwS tx n sn f 4 dep j (op v)) (itr (B_X8_readSum_8 N (gr_rules N g).1 (gr_rules N g).2.1 (gr_rules N g).2.2 (nI dep) fun _ M19 => some (0, M19)) (m + 1) (nI cnt) M) := by
        intro x op hx hop
        have hin : i + 1 ≤ n := by rcases hx with h | h <;> exact pkin h.1 (by decide)
        have h1 := h.go (i + 1)
        have F1 : Fr [30] M (wI M 30 2 (nI (i + 1))) := (Fr.rf _ _).wI (by simp)
        rw [itr_s, sum_s h hn hi hx (by omega)]
        obtain ⟨y, M', a1, a2, a3⟩ := ih1 g dep (i + 1) _ c a (by omega) hd hin (by omega) h1 (by rw [F1.1 34 (by decide)]; exact h34) (by rw [F1.1 35 (by decide)]; exact hc) (by omega)
        have hb := rw_b (tx := tx) (n := n) hsn f 1 dep (i + 1) a hin
        have F2 : Fr [30, 35, 36] M M' := (F1.mono (by simp)).tr a2
        obtain ⟨m, rfl⟩ : ∃ m', m = m' + 1 := ⟨m - 1, by omega⟩
        rw [bd_of a1]
        split at a3
        · rename_i q he
          rw [he]
          obtain ⟨c', e1, e2⟩ := a3.2
          obtain ⟨M2, d1, d2, d3, -⟩ := add_e (N := N) e2 e1 x
          have t2 := a3.1.fr (d2.1 30 (by decide)) (d2.1 31 (by decide))
          rw [bd_of d1, sum_x (i := i) (Or.inr ⟨t2, hb.1 q he⟩) hn]
          exact ⟨0, M2, rfl, F2.tr (d2.mono (by simp)), t2, d3⟩
        · rename_i j v he
          rw [he]
          have hj := hb.2 j v he
          have hj1 := hj.2.2.1 (by omega)
          obtain ⟨t, k, b1, b2, b3, b4⟩ := a3
          dsimp only
          obtain ⟨Mb, d1, d2, d3, d4, d5, d6⟩ := RO.join (N := N) (i := i) (Mb := M') (a := a) (v := v) (v' := op v) (x := x) F2 t (by omega) b2 (fun i hi => by rw [b3 i hi, F1.1 36 (by decide)]) b4 (by omega) hci (by rcases hx with h | h <;> rw [h.2] <;> decide) (hop v)
          rw [bd_of d1]
          refine RO.then d2 (by omega) (by omega) d5 d6 (fun j2 v2 h2 => ((rw_b (tx := tx) (n := n) hsn f 4 dep j _ hj.2.1).2 j2 v2 h2).1) ?_
          exact ih4 g dep j Mb (c + (k + 1)) _ (cnt + 1) (m + 1) (by omega) hd hj.2.1 (by omega) d3 (by rw [d2.1 34 (by decide)]; exact h34) d4 (by omega) (by omega) (by omega)
      by_cases c43 : pk tx n i = 43
      · rw [if_pos c43]
        exact go 1020 (fun v p w => a p w + v p w) (Or.inl ⟨c43, rfl⟩) (fun v p w => by unfold rpJ; rw [if_neg (by decide), if_pos rfl])
      · rw [if_neg c43]
        by_cases c45 : pk tx n i = 45
        · rw [if_pos c45]
          exact go 1021 (fun v p w => a p w - v p w) (Or.inr ⟨c45, rfl⟩) (fun v p w => by unfold rpJ; rw [if_neg (by decide), if_neg (by decide)])
        · rw [if_neg c45, sum_x (q := 0) (Or.inl ⟨h, hi, c43, c45⟩) hn]
          exact ⟨0, M, rfl, Fr.rf _ _, h, 0, by omega, hc, fun _ _ => rfl, fun p w st => rfl⟩
end Crule2
