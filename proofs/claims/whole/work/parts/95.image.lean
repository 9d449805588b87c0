/-! steps of image and restore -/
theorem TRn.cg {th th' : Int32} {nu nu' nw nw' : Nat → Int32} (h0 : th' = th) (h1 : ∀ i, i < 43 → nu' i = nu i) (h2 : ∀ i, i < 47 → nw' i = nw i) (H : TRn th nu nw) : TRn th' nu' nw' := by
  obtain ⟨a1, a2, a3, a4, a5⟩ := H
  subst h0
  refine ⟨fun h hh => by rw [h2 _ (by omega)]; exact a1 h hh, a2, fun i hi => by rw [h2 i (by omega), h1 i hi]; exact a3 i hi, fun s hs => by rw [h1 s hs]; exact a4 s hs, fun h k hh hk hb => by rw [h1 _ (by omega)]; exact a5 h k hh hk hb⟩
theorem TRl.cg {nl nl' ho ho' lm lm' : Int32} {lw lw' of of' la la' ls ls' : Nat → Int32} (h1 : nl' = nl) (h2 : ho' = ho) (h3 : ∀ i, i < 12 → lw' i = lw i) (h4 : lm' = lm) (h5 : ∀ i, i < 12 → of' i = zn (of i)) (h6 : ∀ i, i < 480 → la' i = la i) (h7 : ∀ i, i < 12 → ls' i = ls i) (H : TRl nl ho lw lm of la ls) : TRl nl' ho' lw' lm' of' la' ls' := by
  obtain ⟨n, a1, a2, a3, a4, a5⟩ := H
  subst h1; subst h2; subst h4
  refine ⟨n, a1, a2, a3, a4, fun l hl => ?_⟩
  rw [h5 l (by omega), h7 l (by omega), h3 l (by omega), (a5 l hl).1, zn_b]
  exact ⟨rfl, (a5 l hl).2.congr (fun i hi => (h6 _ (by omega)).symm)⟩
theorem RuOk.cg {len len' : Int32} {pt pt' : Nat → Int32} {ha ha' : Int32} {tx tx' : Nat → Int32} {sz sz' : Int32} (h1 : len' = len) (h2 : ∀ i, i < 40 → pt' i = pt i) (h3 : ha' = zn ha) (h4 : ∀ i, i < 40 → tx' i = tx i) (h5 : sz' = sz) (H : RuOk len pt ha tx sz) : RuOk len' pt' ha' tx' sz' := by
  subst h1; subst h5
  rcases H with ⟨a1, a2⟩ | ⟨a0, n, m, sn, v, a1, a2, a3, a4, a5, a6, a7, a8⟩
  · exact Or.inl ⟨by rw [h3, a1, zn_0], a2⟩
  · refine Or.inr ⟨by rw [h3, a0, zn_1], n, m, sn, v, a1, a2, a3, ?_, a5, a6, a7, fun p w => ?_⟩
    · rw [← a4]
      exact rw_congr (pk_congr (fun i hi => h4 i (by omega))) _ _ _ _ _
    · rw [← a8 p w]
      exact rp_congr m (fun i hi => h2 i (by omega))
theorem TRy.cg {th th' ny ny' ym ym' : Int32} {yo yo' ye ye' : Nat → Int32} (h0 : th' = th) (h1 : ny' = ny) (h2 : ∀ i, i < 16 → yo' i = yo i) (h3 : ym' = ym) (h4 : ∀ i, i < 60 → ye' i = ye i) (H : TRy th ny yo ym ye) : TRy th' ny' yo' ym' ye' := by
  obtain ⟨n, a1, a2, a3, a4, a5⟩ := H
  subst h0; subst h1; subst h3
  refine ⟨n, a1, a2, a3, fun y hy => ?_, fun w hw => ?_⟩
  · rw [h4 y (by omega)]; exact a4 y hy
  · rw [h2 w hw, a5 w hw]
    congr 1
    exact rk_congr n (fun y hy => by rw [h4 y (by omega)])
section Image
variable {N : Nat} {M1 M2 : Mm}
theorem step_image (hN : 100000 ≤ N) (H : Rel M1 M2) : Ans (f_X11_image N M1) (f_X12_image N M2) := by
  obtain ⟨⟨tn, tl, r, y⟩, b, ⟨c1, c2, c3, c4⟩, d, e⟩ := H
  obtain ⟨Ma, a1, a2, ⟨a3, a4, a5, a6⟩, a7, a8, a9, a10⟩ := copya_e (M := M1) hN
  obtain ⟨Mb, b1, ⟨b2, b3, b4, b5, b6, b7, b8, b9⟩, bG⟩ := mimage_e (M := wI M2 0 50 1) hN
  have FA : Fr [0, 14, 15, 16, 18, 19, 20, 21, 22, 23, 24, 25, 26] M1 (wI Ma 0 2 1) := (a2.mono (by simp)).wI (by simp)
  have e10 : (wI Ma 0 2 1).1 1 0 = M1.1 1 0 := by rw [FA.1 1 (by decide)]
  have s1 : ∀ k, k ≠ 2 → (wI Ma 0 2 1).1 0 k = M1.1 0 k := fun k hk => by rw [wI_g, if_pos rfl, upd_ne hk, a2.1 0 (by decide)]
  unfold f_X11_image f_X12_image
  rw [bd_of a1]
  simp only [lt_eq]
  rw [e10, bd_of (there_bc tn.2.1)]
  -- the reference
  have hg := bG (fun M21 => bd (f_X12_harbours N (wI (wI M21 0 48 (M21.1 0 15)) 0 49 ((wI M21 0 48 (M21.1 0 15)).1 0 39))) fun r24 M25 => some (r24, M25))
  have m0 : ∀ k, k ≠ 50 → Mb.1 0 k = M2.1 0 k := fun k hk => by rw [b1.1 0 (by decide)]; simp [wI_g, upd_g, hk]
  have m50 : Mb.1 0 50 = 1 := by rw [b1.1 0 (by decide)]; simp [wI_g, upd_g]
  have mo : ∀ k, k ≠ 0 → (wI M2 0 50 1).1 k = M2.1 k := fun k hk => by rw [wI_g, if_neg hk]
  have e39 : (wI Mb 0 48 (Mb.1 0 15)).1 0 39 = M2.1 0 39 := by rw [← m0 39 (by omega)]; simp [wI_g, upd_g]
  rw [e39, m0 15 (by omega)] at hg
  have GB : Fr [0, 25, 26, 27, 28, 29, 30, 31, 32] M2 (wI (wI Mb 0 48 (M2.1 0 15)) 0 49 (M2.1 0 39)) := ((((Fr.rf _ _).wI (by simp)).tr (b1.mono (by simp))).wI (by simp)).wI (by simp)
  have t0 : ∀ k, k ≠ 48 → k ≠ 49 → k ≠ 50 → (wI (wI Mb 0 48 (M2.1 0 15)) 0 49 (M2.1 0 39)).1 0 k = M2.1 0 k := fun k k1 k2 k3 => by rw [← m0 k k3]; simp [wI_g, upd_g, k1, k2]
  have t48 : (wI (wI Mb 0 48 (M2.1 0 15)) 0 49 (M2.1 0 39)).1 0 48 = M2.1 0 15 := by simp [wI_g, upd_g]
  have t49 : (wI (wI Mb 0 48 (M2.1 0 15)) 0 49 (M2.1 0 39)).1 0 49 = M2.1 0 39 := by simp [wI_g, upd_g]
  have t50 : (wI (wI Mb 0 48 (M2.1 0 15)) 0 49 (M2.1 0 39)).1 0 50 = 1 := by rw [← m50]; simp [wI_g, upd_g]
  have to : ∀ k, k ≠ 0 → (wI (wI Mb 0 48 (M2.1 0 15)) 0 49 (M2.1 0 39)).1 k = Mb.1 k := fun k hk => by simp [wI_g, hk]
  have hh : f_X12_harbours N (wI (wI Mb 0 48 (M2.1 0 15)) 0 49 (M2.1 0 39)) = some (nI (rk (bt (M1.1 1 0)) 4), wI (wI Mb 0 48 (M2.1 0 15)) 0 49 (M2.1 0 39)) := harb_e (by rw [GB.1 2 (by decide)]; exact tn.1)
  rw [bd_of hh] at hg
  generalize hMF : wI (wI Mb 0 48 (M2.1 0 15)) 0 49 (M2.1 0 39) = MF at *
  have k14 : ∀ k, k ≠ 0 → (wI Ma 0 2 1).1 k = Ma.1 k := fun k hk => by rw [wI_g, if_neg hk]
  refine ⟨_, _, MF, rfl, hg, ⟨?_, ?_, ?_, ?_⟩, Or.inr ⟨by simp [wI_g, upd_g], t50, ?_, ?_, ?_, ?_⟩, RestR.fr (FA.on (by decide)) e10 (s1 6 (by omega)) (GB.on (by decide)) (t0 5 (by omega) (by omega) (by omega)) (t0 14 (by omega) (by omega) (by omega)) (t0 37 (by omega) (by omega) (by omega)) ⟨c1, c2, c3, c4⟩, d.fr (FA.on (by decide)), e.fr (FA.on (by decide)) (GB.on (by decide)) (t0 2 (by omega) (by omega) (by omega))⟩
  · rw [FA.1 1 (by decide), FA.1 2 (by decide), GB.1 2 (by decide)]; exact tn
  · rw [FA.1 1 (by decide), FA.1 3 (by decide), t0 15 (by omega) (by omega) (by omega), GB.1 11 (by decide), GB.1 6 (by decide), GB.1 7 (by decide)]; exact tl
  · rw [GB.1 12 (by decide), GB.1 8 (by decide), GB.1 9 (by decide)]
    exact r.fr (fun k hk => ⟨FA.1 _ (by simp; omega), FA.1 _ (by simp; omega)⟩)
  · rw [FA.1 1 (by decide), FA.1 13 (by decide), t0 39 (by omega) (by omega) (by omega), GB.1 24 (by decide)]; exact y
  · rw [k14 14 (by omega), k14 15 (by omega), to 25 (by omega)]
    exact tn.cg a3 a7 (fun i hi => by rw [b2 i hi, mo 2 (by omega)])
  · rw [k14 14 (by omega), k14 16 (by omega), to 31 (by omega), to 26 (by omega), to 27 (by omega)]
    exact tl.cg a4 a5 a8 t48 (fun i hi => by rw [b5 i hi, mo 11 (by omega)]) (fun i hi => by rw [b3 i hi, mo 6 (by omega)]) (fun i hi => by rw [b4 i hi, mo 7 (by omega)])
  · intro h hh'
    rw [to 32 (by omega), to 28 (by omega), to 29 (by omega), k14 _ (by omega), k14 _ (by omega)]
    have q := a9 h hh'
    rw [show 18 + 2 * h = 14 + 4 + 2 * h by omega, show 5 + 2 * h = 1 + 4 + 2 * h by omega, show 19 + 2 * h = 14 + 5 + 2 * h by omega, show 6 + 2 * h = 1 + 5 + 2 * h by omega] at q
    exact (r h hh').cg q.1 q.2 (by rw [b8 h hh', mo 12 (by omega)]) (fun i hi => by rw [b6 _ (by omega), mo 8 (by omega)]) (by rw [b7 h hh', mo 9 (by omega)])
  · rw [k14 14 (by omega), k14 26 (by omega), to 30 (by omega)]
    exact y.cg a3 a6 a10 t49 (fun i hi => by rw [b9 i hi, mo 24 (by omega)])
theorem step_restore (hN : 100000 ≤ N) (H : Rel M1 M2) : Ans (f_X11_restore N M1) (f_X12_restore N M2) := by
  have H0 := H
  obtain ⟨t, b, ⟨c1, c2, c3, c4⟩, d, e⟩ := H
  unfold f_X11_restore f_X12_restore
  rcases b with ⟨i1, i2⟩ | ⟨i1, i2, kn, kl, kr, ky⟩
  · rw [if_pos i1, if_pos i2]; exact ref3 H0
  · rw [if_neg (show ¬ M1.1 0 2 = 0 by rw [i1]; decide), if_neg (show ¬ M2.1 0 50 = 0 by rw [i2]; decide)]
    obtain ⟨Ma, a1, a2, ⟨a3, a4, a5, a6⟩, a7, a8, a9, a10⟩ := copyb_e (M := M1) hN
    obtain ⟨Mb, b1, ⟨b2, b3, b4, b5, b6, b7, b8, b9⟩, bG⟩ := mrestore_e (M := M2) hN
    have FA : Fr [1, 2, 3, 5, 6, 7, 8, 9, 10, 11, 12, 13, 27, 38] M1 (wI (wI Ma 27 3 0) 38 3 1) := ((a2.mono (by simp)).wI (by simp)).wI (by simp)
    have co : ∀ k, k ≠ 27 → k ≠ 38 → (wI (wI Ma 27 3 0) 38 3 1).1 k = Ma.1 k := fun k h1 h2 => by simp [wI_g, h1, h2]
    rw [bd_of a1]
    simp only [lt_eq]
    rw [forget_e, bd_s]
    have e10 : (wI (wI Ma 27 3 0) 38 3 1).1 1 0 = M1.1 14 0 := by rw [co 1 (by omega) (by omega)]; exact a3
    rw [e10, bd_of (there_bc kn.2.1)]
    have hg := bG (fun M20 => bd (f_X12_harbours N (wI (wI (wI (wI M20 0 15 (M20.1 0 48)) 0 39 ((wI M20 0 15 (M20.1 0 48)).1 0 49)) 0 5 0) 0 2 0)) fun r25 M26 => some (r25, M26))
    have m0 : Mb.1 0 = M2.1 0 := b1.1 0 (by decide)
    have e49 : (wI Mb 0 15 (Mb.1 0 48)).1 0 49 = M2.1 0 49 := by rw [← m0]; simp [wI_g, upd_g]
    rw [e49, m0] at hg
    have GB : Fr [0, 2, 6, 7, 8, 9, 11, 12, 24] M2 (wI (wI (wI (wI Mb 0 15 (M2.1 0 48)) 0 39 (M2.1 0 49)) 0 5 0) 0 2 0) := ((((b1.mono (by simp)).wI (by simp)).wI (by simp)).wI (by simp)).wI (by simp)
    have t0 : ∀ k, k ≠ 2 → k ≠ 5 → k ≠ 15 → k ≠ 39 → (wI (wI (wI (wI Mb 0 15 (M2.1 0 48)) 0 39 (M2.1 0 49)) 0 5 0) 0 2 0).1 0 k = M2.1 0 k := fun k k1 k2 k3 k4 => by rw [← m0]; simp [wI_g, upd_g, k1, k2, k3, k4]
    have t15 : (wI (wI (wI (wI Mb 0 15 (M2.1 0 48)) 0 39 (M2.1 0 49)) 0 5 0) 0 2 0).1 0 15 = M2.1 0 48 := by simp [wI_g, upd_g]
    have t39 : (wI (wI (wI (wI Mb 0 15 (M2.1 0 48)) 0 39 (M2.1 0 49)) 0 5 0) 0 2 0).1 0 39 = M2.1 0 49 := by simp [wI_g, upd_g]
    have t5 : (wI (wI (wI (wI Mb 0 15 (M2.1 0 48)) 0 39 (M2.1 0 49)) 0 5 0) 0 2 0).1 0 5 = 0 := by simp [wI_g, upd_g]
    have t2 : (wI (wI (wI (wI Mb 0 15 (M2.1 0 48)) 0 39 (M2.1 0 49)) 0 5 0) 0 2 0).1 0 2 = 0 := by simp [wI_g, upd_g]
    have to : ∀ k, k ≠ 0 → (wI (wI (wI (wI Mb 0 15 (M2.1 0 48)) 0 39 (M2.1 0 49)) 0 5 0) 0 2 0).1 k = Mb.1 k := fun k hk => by simp [wI_g, hk]
    have hh : f_X12_harbours N (wI (wI (wI (wI Mb 0 15 (M2.1 0 48)) 0 39 (M2.1 0 49)) 0 5 0) 0 2 0) = some (nI (rk (bt (M1.1 14 0)) 4), wI (wI (wI (wI Mb 0 15 (M2.1 0 48)) 0 39 (M2.1 0 49)) 0 5 0) 0 2 0) := harb_e (fun h hh => by rw [to 2 (by omega), b2 _ (by omega)]; exact kn.1 h hh)
    rw [bd_of hh] at hg
    generalize hMF : wI (wI (wI (wI Mb 0 15 (M2.1 0 48)) 0 39 (M2.1 0 49)) 0 5 0) 0 2 0 = MF at *
    have g272 : (wI (wI Ma 27 3 0) 38 3 1).1 27 2 = M1.1 27 2 := by
      have : Ma.1 27 = M1.1 27 := a2.1 27 (by decide)
      rw [← this]; simp [wI_g, upd_g]
    have g273 : (wI (wI Ma 27 3 0) 38 3 1).1 27 3 = 0 := by simp [wI_g, upd_g]
    have g383 : (wI (wI Ma 27 3 0) 38 3 1).1 38 3 = 1 := by simp [wI_g, upd_g]
    refine ⟨_, _, MF, rfl, hg, ⟨?_, ?_, ?_, ?_⟩, ImgR.fr (by rw [FA.1 0 (by decide)]) (FA.on (by decide)) (GB.on (by decide)) (t0 48 (by omega) (by omega) (by omega) (by omega)) (t0 49 (by omega) (by omega) (by omega) (by omega)) (t0 50 (by omega) (by omega) (by omega) (by omega)) (Or.inr ⟨i1, i2, kn, kl, kr, ky⟩), ⟨?_, ?_, ?_, ?_⟩, fun h0 => absurd (g383.symm.trans h0) (by decide), Or.inl t2⟩
    · rw [co 1 (by omega) (by omega), co 2 (by omega) (by omega), to 2 (by omega)]
      exact kn.cg a3 a7 b2
    · rw [co 1 (by omega) (by omega), co 3 (by omega) (by omega), to 11 (by omega), to 6 (by omega), to 7 (by omega)]
      exact kl.cg a4 a5 a8 t15 b5 b3 b4
    · intro h hh'
      rw [to 12 (by omega), to 8 (by omega), to 9 (by omega), co _ (by omega) (by omega), co _ (by omega) (by omega)]
      have q := a9 h hh'
      rw [show 18 + 2 * h = 14 + 4 + 2 * h by omega, show 5 + 2 * h = 1 + 4 + 2 * h by omega, show 19 + 2 * h = 14 + 5 + 2 * h by omega, show 6 + 2 * h = 1 + 5 + 2 * h by omega] at q
      exact (kr h hh').cg q.1 q.2 (b8 h hh') (fun i hi => b6 _ (by omega)) (b7 h hh')
    · rw [co 1 (by omega) (by omega), co 13 (by omega) (by omega), to 24 (by omega)]
      exact ky.cg a3 a6 a10 t39 b9
    · rw [FA.1 33 (by decide), GB.1 1 (by decide)]; exact c1
    · obtain ⟨x, z, x1, x2, x3, x4, x5, x6⟩ := c2
      exact ⟨x, 0, x1, by omega, by rw [g272]; exact x3, by rw [g273]; rfl, by rw [t5]; rfl, fun k hk => by omega⟩
    · rw [FA.1 30 (by decide), FA.1 31 (by decide), t0 14 (by omega) (by omega) (by omega) (by omega), GB.1 5 (by decide)]; exact c3
    · rw [FA.1 0 (by decide), FA.1 32 (by decide), t0 37 (by omega) (by omega) (by omega) (by omega), GB.1 23 (by decide)]; exact c4
end Image
