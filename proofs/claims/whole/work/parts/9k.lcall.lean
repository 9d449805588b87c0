/-! THE LAW: calls and makings -/
section LCall
variable {Z : Zx} {b Ln : Nat} {xs : Nat → Int32} {P : Heap → Prop} {pc pc' n k : Nat} {L st : List Value} {Q : State → Prop}
/-- a call of a method of one world, with another beside it -/
theorem l_call {K K2 : Wk} {w w2 : W0} {M M1 M2 : Mm} {y : MethodName} {bytes : ByteArray} {maxL np idx d ci N : Nat} {ty : FieldType} {T : u_T} {fs As rest : List Value} {Fc : Rs} {r : Int32} (g : GLw Z b Ln xs) (hK : va_K w.1 vwCl (tysOf w) Z.1.2.2.2.2) (hAp : Apart K w) (hE : Ex K w Z.1.2.2.2.2 Z.1.2.2.2.2.heap) (hA : ∀ i, i < K.1 → AL Z (w.2.1 i)) (hdis : ∀ i j, i < K.1 → j < K2.1 → w.2.1 i ≠ w2.2.1 j) (hd : decode cL_law pc = .ok (.invokevirtual idx, 3)) (hp : pc + 3 = pc') (hw : Cond.methodLink RL idx y ∈ Ug) (mw : Mw y bytes maxL (some ty) np) (mv : Mv y) (hD : d ≤ 100) (hC : Ct Z.1.2.1 K w d y bytes maxL (some ty) (rf w 0 :: As) M Fc) (hF : Fc = some (r, M1)) (hn : As.length = np) (h0 : 0 < K.1) (he : K.2.1 w 0 (M.1 0) (M.2 0) = .inr (ci, fs)) (hc : vwCl[ci]? = some (y.cls, T, N)) (hst : st = As.reverse ++ rf w 0 :: rest) (hcat : (rest.map fun v => v.category).sum ≤ 8) (hnk : n ≤ 600000 ∧ k ≤ 7302250)
    (kk : LX Z (fun H => va_P w.1 vwCl (wsOf K w M1) H ∧ va_P w2.1 vwCl (wsOf K2 w2 M2) H) pc' L (.int r :: rest) n k Q) : LX Z (fun H => va_P w.1 vwCl (wsOf K w M) H ∧ va_P w2.1 vwCl (wsOf K2 w2 M2) H) pc L st n k Q := by
  subst hp
  intro ls H lo h1 h23 h4
  obtain ⟨h2, h3⟩ := h23
  have ht := g.2.2.2.2.1
  have cb : CallB Z.1.2.2.2.1 Z.1.2.2.2.2 Z.2.1.2.1 RL idx y bytes maxL (some ty) (Cond.code y bytes maxL (some ty) :: Ug) (rmd d) 0 0 np := by
    refine callB_of (Ts := Ug) (ws' := Ug) np ht (fun u hu => ?_) rfl rfl rfl (ht _ mw.2.1) (ht _ hw) mw.2.2.1 ?_
    · rcases List.mem_cons.mp hu with rfl | hu
      · exact Ug_good _ mw.1
      · exact Ug_good _ hu
    · rw [g.2.2.2.2.2.1]
      have := mw.2.2.2
      exact ⟨show d + 1 ≤ 2048 by omega, show 8 + (maxL + 11) + 64 * d ≤ 84000 by omega⟩
  have pre : ∀ U : State, U.heap = H → Z.1.2.2.2.2.WarmedH U.vm → va_Pc (rf w 0 :: As) (PreM K w M) (rf w 0 :: As).toArray U := by
    intro U hU hW
    refine ⟨rfl, by rw [hU]; exact h2, va_K.moved hW.alike hK, hAp, fun q => ?_⟩
    rw [hU]
    exact ((hE q).warm hW).kept (fun a z1 z2 => h4.2.1 a z1 (Nat.not_le.mpr z1))
  have hr := va_runV (p := Z.1.1) (l := Z.1.2.1) (e := Z.1.2.2.1) (below := Z.2.1.2.2.1) (meth := Z.2.1.2.2.2.1) (H := H) (locs := lo) (cells := n) (slots := k) (g := F0 Z.2.1.1 pc ls st) (As := As) (rest := rest) (b := w.2.1 0) (C := y.cls) ⟨g.1, g.2.1, g.2.2.1, g.2.2.2.1, ht⟩ (hC r M1 hF) ⟨cb, ht _ mv.1, ht _ mv.2⟩ ⟨blindM, va_recv hK h2 (q := (y.cls, T, N)) hc (by rw [wsOf_get h0, he]), pre⟩ rfl hn h1.1.1 hst (lv_room hcat) hd ⟨by rw [g.2.2.2.2.2.1]; exact hnk.1, by rw [g.2.2.2.2.2.1]; exact hnk.2⟩
  intro S hS X
  obtain ⟨v, st₀, t, T', L', e0, X', hL, e1, e2, ⟨hv, hP1, hz, hk⟩, stp⟩ := hr S hS X
  rw [e0] at hz hk
  have hv2 : v = some (Value.int r) := by injection hv
  have hAA : ∀ q, AV K w q → AL Z q := fun q ⟨i, z1, z2⟩ => by rw [z2]; exact hA i z1
  obtain ⟨t2, a1, b1⟩ := kk ls T'.heap (lo ++ L') h1 ⟨by rw [e1]; exact hP1, by
      rw [e1]
      refine va_P.kept h3 (fun j x hx => ?_)
      obtain ⟨z1, z2⟩ := wsOf_of hx
      refine hk x.1 ((h3 j x hx).lt) (fun ⟨i, z3, z4⟩ => ?_)
      rw [z2] at z4
      exact hdis i j z3 z1 z4.symm⟩
    ⟨Nat.le_trans h4.1 (by rw [e1]; exact hz), fun q z1 z2 => by rw [e1, hk q (Nat.lt_of_lt_of_le z1 h4.1) (fun z => z2 (hAA q z))]; exact h4.2.1 q z1 z2, fun q hq => by
      rcases List.mem_append.mp hq with z | z
      · exact h4.2.2 q z
      · exact hAA _ (hL q z)⟩ T' rfl X'
  rw [hv2] at stp
  exact ⟨t2, stp t2 a1, b1⟩
theorem l_swap {P' : Heap → Prop} (h : ∀ H, P H → P' H) (kk : LX Z P' pc L st n k Q) : LX Z P pc L st n k Q := fun ls H lo h1 h2 h4 => kk ls H lo h1 (h H h2) h4
def PW (G : va_G) (A : Nat → Prop) (ws : va_W) : Heap → Prop := fun H => va_P G vwCl ws H ∧ va_D A ws
theorem l_new {G : va_G} {t : Nat → ClassId} {ws : va_W} {C : String} {T : u_T} {N ci idx : Nat} {ty : Nat → FieldType} {fs : List Value} (g : GLw Z b Ln xs) (hK : va_K G vwCl (tyL t) Z.1.2.2.2.2) (hd : decode cL_law pc = .ok (.new idx, 3)) (hp : pc + 3 = pc') (kf : Kf ci C T N ty) (hcl : Cond.classLink RL idx C ∈ Ug) (hin : Cond.instantiable C N ∈ Ug) (hi : Cond.initialized C ∈ Ug) (hfs : ∀ j, j < N → defaultValue (ty j) = vp_V fs j) (hc : n + 1 ≤ 600000) (hs : k + N ≤ 7302250) (kk : ∀ q, LX Z (PW G (AL Z) (ws ++ [(q, .inr (ci, fs))])) pc' L (.ref q :: st) (n + 1) (k + N) Q) : LX Z (PW G (AL Z) ws) pc L st n k Q := by
  subst hp
  intro ls H lo h1 h23 h4
  have ht := g.2.2.2.2.1
  exact va_new (ci := ci) (fs := fs) (Ts := Ug) g.1 g.2.1 ht kf.1 ty kf.2.2.1 g.2.2.2.1 (ht _ hcl) (ht _ hin) (ht _ hi) hK h23.1 h23.2 h4 (fun q hq => hq) kf.2.1 hfs (by rw [g.2.2.2.2.2.1]; exact hc) (by rw [g.2.2.2.2.2.1]; exact hs) hd (fun q H1 z1 z2 z3 => kk q ls H1 lo h1 ⟨z1, z2⟩ z3)
theorem l_init {G : va_G} {t : Nat → ClassId} {y : MethodName} {bytes : ByteArray} {maxL np idx d' mc' ms' a : Nat} {e0 : va_E} {As rest : List Value} {wr : va_W} {post : (Nat → Nat) → va_W} (g : GLw Z b Ln xs) (hK : va_K G vwCl (tyL t) Z.1.2.2.2.2) (hN : NW Z.1.2.2.2.2) (hd : decode cL_law pc = .ok (.invokespecial idx, 3)) (hp : pc + 3 = pc') (hw : Cond.methodLink RL idx y ∈ Ug) (mw : Mw y bytes maxL none np) (hi : Cond.instanceMethod y ∈ Ug) (hy : y.name = "<init>") (hD : d' ≤ 100) (hC : Kt Z.1.2.1 G t d' mc' ms' y bytes maxL (.ref a :: As) a e0 post) (hn : As.length = np) (hst : st = As.reverse ++ .ref a :: rest) (hl : wr.length < 60) (hcat : (rest.map fun v => v.category).sum ≤ 8) (hc : n + mc' ≤ 600000) (hs : k + ms' ≤ 7302250)
    (kk : ∀ f, LX Z (PW G (AL Z) (wr ++ post f)) pc' L rest (n + mc') (k + ms') Q) : LX Z (PW G (AL Z) (wr ++ [(a, e0)])) pc L st n k Q := by
  subst hp
  intro ls H lo h1 h23 h4
  obtain ⟨h2, h3⟩ := h23
  have ht := g.2.2.2.2.1
  have cb : CallB Z.1.2.2.2.1 Z.1.2.2.2.2 Z.2.1.2.1 RL idx y bytes maxL none (Cond.code y bytes maxL none :: Ug) (rmk d' mc' ms') mc' ms' np := by
    refine callB_of (Ts := Ug) (ws' := Ug) np ht (fun u hu => ?_) rfl rfl rfl (ht _ mw.2.1) (ht _ hw) mw.2.2.1 ?_
    · rcases List.mem_cons.mp hu with rfl | hu
      · exact Ug_good _ mw.1
      · exact Ug_good _ hu
    · rw [g.2.2.2.2.2.1]
      have := mw.2.2.2
      exact ⟨show d' + 1 ≤ 2048 by omega, show 8 + (maxL + 11) + 64 * d' ≤ 84000 by omega⟩
  have pre : PreS Z.1.2.2.2.2 H (va_Pc (.ref a :: As) (fun U => U.heap.size = H.size ∧ va_P G vwCl [(a, e0)] U.heap ∧ va_K G vwCl (tyL t) U ∧ NW U)) (.ref a :: As) := by
    refine ⟨fun x U gg mk q => ?_, fun U hU hW => ⟨rfl, by rw [hU], ?_, va_K.moved hW.alike hK, hN.warm hW⟩⟩
    · obtain ⟨q0, q1, qP, qK, qN⟩ := q
      exact ⟨q0, q1, qP, va_K.moved (u := U) (U := U.calling gg mk x) (Vm.Alike.refl U.vm) qK, qN.same (U := U.calling gg mk x) rfl⟩
    · rw [hU]
      intro i q hq
      refine h2 (wr.length + i) q ?_
      rw [List.getElem?_append_right (by omega)]
      simpa using hq
  have hr := va_runI (p := Z.1.1) (l := Z.1.2.1) (e := Z.1.2.2.1) (below := Z.2.1.2.2.1) (meth := Z.2.1.2.2.2.1) (H := H) (locs := lo) (cells := n) (slots := k) (g := F0 Z.2.1.1 pc ls st) (As := As) (rest := rest) ⟨g.1, g.2.1, g.2.2.1, g.2.2.2.1, ht⟩ (hC H.size) ⟨cb, hy, ht _ hi⟩ pre rfl hn h1.1.1 hst (lv_room hcat) hd ⟨by rw [g.2.2.2.2.2.1]; exact hc, by rw [g.2.2.2.2.2.1]; exact hs⟩
  intro S hS X
  obtain ⟨v, st₀, u, T', L', e9, X', hL, e1, e2, ⟨hv, ⟨f, hP1, hD1⟩, hz, hk⟩, stp⟩ := hr S hS X
  rw [e9] at hz hk
  have hv2 : v = none := by injection hv
  have hFc := va_free (wc := [(a, e0)]) h3 h4 (fun q hq => hq) [wr.length] (by simp)
  obtain ⟨hP, hD2⟩ := va_join (wr := wr) (wc := [(a, e0)]) (w1 := post f) (H1 := u.heap) h2 h3 [wr.length] (List.range wr.length) (by simp) (by
    apply List.ext_getElem?
    intro i
    by_cases hi : i < wr.length
    · rw [List.getElem?_map, List.getElem?_range hi, List.getElem?_map]
      simp [List.getElem?_append_left hi, List.getElem?_eq_getElem hi]
    · rw [List.getElem?_eq_none (by simp; omega), List.getElem?_eq_none (by simp; omega)]) (nd_rng _ hl) (fun i hi hc => by
      have := List.mem_range.mp hi
      simp at hc
      omega) hk hFc hP1 hD1
  obtain ⟨t2, a1, b1⟩ := kk f ls T'.heap (lo ++ L') h1 ⟨by rw [e1]; exact hP, hD2⟩ ⟨Nat.le_trans h4.1 (by rw [e1]; exact hz), fun q z1 z2 => by
      rw [e1, hk q (Nat.lt_of_lt_of_le z1 h4.1) (fun z => z2 (hFc q z))]; exact h4.2.1 q z1 z2, fun q hq => by
      rcases List.mem_append.mp hq with z | z
      · exact h4.2.2 q z
      · exact hFc _ (hL q z)⟩ T' rfl X'
  rw [hv2] at stp
  exact ⟨t2, stp t2 a1, b1⟩
end LCall
