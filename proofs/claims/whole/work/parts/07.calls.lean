/-- the locals of a method's entry, by place -/
def lvp0 : List Value → List Value
  | [] => []
  | v :: vs => if v.category = 2 then v :: .null :: lvp0 vs else v :: lvp0 vs
def lvp (av : List Value) (nL : Nat) : List Value := lvp0 av ++ List.replicate (nL - (lvp0 av).length) .null
theorem lvp0_mem {v : Value} (hv : v ≠ .null) : ∀ (av : List Value) (i k : Nat), (lvp0 av)[i]? = some v → (k + i, v) ∈ lv_args k av := by
  intro av
  induction av with
  | nil => intro i k h; simp [lvp0] at h
  | cons u us ih =>
    intro i k h
    unfold lvp0 at h
    unfold lv_args
    by_cases hc : u.category = 2
    · rw [if_pos hc] at h
      rw [if_pos hc]
      match i, h with
      | 0, h => simp at h; subst h; exact List.mem_cons_self
      | 1, h => simp at h; exact absurd h.symm hv
      | j + 2, h =>
        simp at h
        have := ih j (k + 2) h
        rw [show k + 2 + j = k + (j + 2) by omega] at this
        exact List.mem_cons_of_mem _ this
    · rw [if_neg hc] at h
      rw [if_neg hc]
      match i, h with
      | 0, h => simp at h; subst h; exact List.mem_cons_self
      | j + 1, h =>
        simp at h
        have := ih j (k + 1) h
        rw [show k + 1 + j = k + (j + 1) by omega] at this
        exact List.mem_cons_of_mem _ this
theorem lvp_mem {av : List Value} {nL i : Nat} {v : Value} (h : (lvp av nL)[i]? = some v) (hv : v ≠ .null) : (i, v) ∈ lv_args 0 av := by
  unfold lvp at h
  by_cases hl : i < (lvp0 av).length
  · rw [List.getElem?_append_left hl] at h
    have := lvp0_mem hv av i 0 h
    rwa [Nat.zero_add] at this
  · rw [List.getElem?_append_right (Nat.not_lt.mp hl)] at h
    have h2 := List.mem_of_getElem? h
    exact absurd (List.eq_of_mem_replicate h2) hv
/-- a contract out of a walk of the body -/
theorem ct_of {l : Launch} {K : Wk} {w : W0} {d : Nat} {y : MethodName} {cc : ByteArray} {nL : Nat} {ret : Option FieldType} {av : List Value} {M : Mm} {F : Rs} (L0 : List Value) (hy : plainName y.cls = true) (hlen : (lg_sl av).length ≤ nL) (hL0 : lvp av nL = L0)
    (h : ∀ Z : Zx, Z.1.2.1 = l → Z.2.2.1 = nL → Z.2.2.2 = ret → Good K w Z cc y.cls d → Sim K w Z 0 L0 [] M F) : Ct l K w d y cc nL ret av M F := by
  intro r M' hF
  refine Met.ofW (cc := cc) (maxL := nL) (ret := ret) hy rfl ?_
  intro p e s m args below meth c s₁ B hml hv
  obtain ⟨rfl, hP, hK, hA, hE⟩ := hv
  have hts := atoms_spec (ws := Cond.code y cc nL ret :: Ug) B.pre
  have hl := lv_entry av (n := nL) hlen
  rw [lg_entry_eq]
  have g : Good K w ((p, l, e, rmd d, s), (m, av.toArray, below, meth, c), nL, ret) cc y.cls d := ⟨B.exec, B.bytes, hml, findClass_of_methodNamed B.named, fun u hu => hts u (List.mem_cons_of_mem _ hu), B.notSynchronized, B.returns, hK, hA, hE, rfl⟩
  have k := h ((p, l, e, rmd d, s), (m, av.toArray, below, meth, c), nL, ret) rfl rfl rfl g r M' hF _ s.heap [] (show Lc _ nL L0 from ⟨⟨hl.1, hl.2.1, fun q hq => by cases hq⟩, fun i v hi hv => hl.2.2 (i, v) (lvp_mem (by rw [hL0]; exact hi) hv)⟩) hP va_S.rf
  exact k
/-- what the tables know of a method -/
def Mw (y : MethodName) (bytes : ByteArray) (maxL : Nat) (ret : Option FieldType) (n : Nat) : Prop := Cond.code y bytes maxL ret ∈ Ug ∧ Cond.initialized y.cls ∈ Ug ∧ (y.cls ≠ "java/lang/invoke/MethodHandle" ∧ y.cls ≠ "java/lang/invoke/VarHandle" ∧ (parseMethodDescriptor y.desc).map (fun d => d.parameters.length) = some n) ∧ maxL ≤ 40
def Mv (y : MethodName) : Prop := Cond.instanceMethod y ∈ Ug ∧ Cond.selects y.cls y y ∈ Ug
section Calls
variable {K : Wk} {w : W0} {Z : Zx} {cc : ByteArray} {own : String} {D pc pc' : Nat} {L st : List Value} {M : Mm} {y : MethodName} {bytes : ByteArray} {maxL n idx d a : Nat} {ret : Option FieldType} {As rest : List Value} {Fc : Rs} {G : Int32 → Mm → Rs}
theorem cb_of (g : Good K w Z cc own D) (hw : Cond.methodLink own idx y ∈ Ug) (mw : Mw y bytes maxL ret n) (hD : d + 1 ≤ D) : CallB Z.1.2.2.2.1 Z.1.2.2.2.2 Z.2.1.2.1 own idx y bytes maxL ret (Cond.code y bytes maxL ret :: Ug) (rmd d) 0 0 n := by
  have ht := g.2.2.2.2.1
  refine callB_of (Ts := Ug) (ws' := Ug) n ht (fun u hu => ?_) rfl rfl rfl (ht _ mw.2.1) (ht _ hw) mw.2.2.1 ?_
  · rcases List.mem_cons.mp hu with rfl | hu
    · exact Ug_good _ mw.1
    · exact Ug_good _ hu
  · rw [g.2.2.2.2.2.2.2.2.2.2]
    have := mw.2.2.2
    exact ⟨show d + 1 ≤ D from hD, show 8 + (maxL + 11) + 64 * d ≤ 64 * D by omega⟩
theorem pre_of {H : Heap} {l : List Loc} {av : List Value} (g : Good K w Z cc own D) (h2 : va_P w.1 vwCl (wsOf K w M) H) (h3 : va_S (AV K w) Z.1.2.2.2.2.heap H l) : ∀ U : State, U.heap = H → Z.1.2.2.2.2.WarmedH U.vm → va_Pc av (PreM K w M) av.toArray U := by
  intro U hU hW
  refine ⟨rfl, by rw [hU]; exact h2, va_K.moved hW.alike g.2.2.2.2.2.2.2.1, g.2.2.2.2.2.2.2.2.1, fun q => ?_⟩
  rw [hU]
  exact ((g.2.2.2.2.2.2.2.2.2.1 q).warm hW).kept (fun a h1 h2 => h3.2.1 a h1 h2)
/-- behind a call -/
theorem q_run {H : Heap} {l : List Loc} {ls : Array Slot} {r r' : Int32} {M1 M' : Mm} {vd : Bool} {a : Array Value} (h3 : va_S (AV K w) Z.1.2.2.2.2.heap H l)
    (hr : va_Run Z.1.1 Z.1.2.1 Z.1.2.2.1 Z.1.2.2.2.1 Z.1.2.2.2.2 Z.2.1.1 Z.2.1.2.1 Z.2.1.2.2.1 Z.2.1.2.2.2.1 Z.2.1.2.2.2.2 H l 0 0 0 0 (F0 Z.2.1.1 pc ls st) rest (Qof K w vd r M1 a) (AV K w))
    (kk : ∀ (H1 : Heap) (l1 : List Loc), va_P w.1 vwCl (wsOf K w M1) H1 → va_S (AV K w) Z.1.2.2.2.2.heap H1 l1 → WZ Z H1 l1 (QZ K w Z r' M') (F0 Z.2.1.1 (pc + 3) ls ((if vd then none else some (Value.int r)).toList ++ rest))) : WZ Z H l (QZ K w Z r' M') (F0 Z.2.1.1 pc ls st) := by
  intro T hT X
  obtain ⟨v, st₀, t, T', L', h0, X', hL, e1, e2, ⟨hv, hP1, hz, hk⟩, stp⟩ := hr T hT X
  rw [h0] at hz hk
  have hv2 : v = (if vd then none else some (Value.int r)) := by
    injection hv
  obtain ⟨t2, a1, b1⟩ := kk T'.heap (l ++ L') (by rw [e1]; exact hP1)
    ⟨Nat.le_trans h3.1 (by rw [e1]; exact hz), fun q h1 h2 => by rw [e1, hk q (Nat.lt_of_lt_of_le h1 h3.1) h2]; exact h3.2.1 q h1 h2, fun q hq => by
      rcases List.mem_append.mp hq with h | h
      · exact h3.2.2 q h
      · exact hL q h⟩ T' rfl X'
  rw [← hv2] at a1
  exact ⟨t2, stp t2 a1, b1⟩
theorem bd_some {z : Int32 × Mm} (h : bd Fc G = some z) : ∃ r M1, Fc = some (r, M1) ∧ G r M1 = some z := by
  unfold bd at h
  cases hF : Fc with
  | none => rw [hF] at h; cases h
  | some u => obtain ⟨r, m⟩ := u; rw [hF] at h; exact ⟨r, m, rfl, h⟩
theorem r_callV {ci N : Nat} {T : u_T} {fs : List Value} (g : Good K w Z cc own D) (hd : decode cc pc = .ok (.invokevirtual idx, 3)) (hp : pc + 3 = pc') (hw : Cond.methodLink own idx y ∈ Ug) (mw : Mw y bytes maxL ret n) (mv : Mv y) (hD : d + 1 ≤ D) (hC : Ct Z.1.2.1 K w d y bytes maxL ret (rf w a :: As) M Fc) (hn : As.length = n) (ha : a < K.1) (he : K.2.1 w a (M.1 a) (M.2 a) = .inr (ci, fs)) (hc : vwCl[ci]? = some (y.cls, T, N)) (hst : st = As.reverse ++ rf w a :: rest) (hcat : (rest.map fun v => v.category).sum ≤ 8)
    (k : ∀ r M1, Sim K w Z pc' L ((if ret.isNone then none else some (Value.int r)).toList ++ rest) M1 (G r M1)) : Sim K w Z pc L st M (bd Fc G) := by
  subst hp
  intro r' M' hF ls H l h1 h2 h3
  obtain ⟨r, M1, hFc, hG⟩ := bd_some hF
  refine q_run h3 (va_runV (As := As) (rest := rest) (b := w.2.1 a) (C := y.cls) ⟨g.1, g.2.1, g.2.2.1, g.2.2.2.1, g.2.2.2.2.1⟩ (hC r M1 hFc) ⟨cb_of g hw mw hD, g.2.2.2.2.1 _ mv.1, g.2.2.2.2.1 _ mv.2⟩ ⟨blindM, va_recv g.2.2.2.2.2.2.2.1 h2 (q := (y.cls, T, N)) hc (by rw [wsOf_get ha, he]), pre_of g h2 h3⟩ rfl hn h1.1.1 hst (lv_room hcat) hd ⟨Nat.zero_le _, Nat.zero_le _⟩) (fun H1 l1 hP hS => k r M1 r' M' hG ls H1 l1 h1 hP hS)
theorem r_callS (g : Good K w Z cc own D) (hd : decode cc pc = .ok (.invokestatic idx, 3)) (hp : pc + 3 = pc') (hw : Cond.methodLink own idx y ∈ Ug) (mw : Mw y bytes maxL ret n) (ms : Cond.static y ∈ Ug) (hD : d + 1 ≤ D) (hC : Ct Z.1.2.1 K w d y bytes maxL ret As M Fc) (hn : As.length = n) (hst : st = As.reverse ++ rest) (hcat : (rest.map fun v => v.category).sum ≤ 8)
    (k : ∀ r M1, Sim K w Z pc' L ((if ret.isNone then none else some (Value.int r)).toList ++ rest) M1 (G r M1)) : Sim K w Z pc L st M (bd Fc G) := by
  subst hp
  intro r' M' hF ls H l h1 h2 h3
  obtain ⟨r, M1, hFc, hG⟩ := bd_some hF
  refine q_run h3 (va_runS (As := As) (rest := rest) ⟨g.1, g.2.1, g.2.2.1, g.2.2.2.1, g.2.2.2.2.1⟩ (hC r M1 hFc) ⟨cb_of g hw mw hD, g.2.2.2.2.1 _ ms⟩ ⟨blindM, pre_of g h2 h3⟩ rfl hn h1.1.1 hst (lv_room hcat) hd ⟨Nat.zero_le _, Nat.zero_le _⟩) (fun H1 l1 hP hS => k r M1 r' M' hG ls H1 l1 h1 hP hS)
/-- a private static method of a nest mate -/
theorem r_callN {host : String} (g : Good K w Z cc own D) (hd : decode cc pc = .ok (.invokestatic idx, 3)) (hp : pc + 3 = pc') (hw : va_Nw (.methodLinkNest own idx y host) Z.1.2.2.2.2) (mw : Mw y bytes maxL ret n) (ms : Cond.static y ∈ Ug) (hD : d + 1 ≤ D) (hC : Ct Z.1.2.1 K w d y bytes maxL ret As M Fc) (hn : As.length = n) (hst : st = As.reverse ++ rest) (hcat : (rest.map fun v => v.category).sum ≤ 8)
    (k : ∀ r M1, Sim K w Z pc' L ((if ret.isNone then none else some (Value.int r)).toList ++ rest) M1 (G r M1)) : Sim K w Z pc L st M (bd Fc G) := by
  subst hp
  intro r' M' hF ls H l h1 h2 h3
  obtain ⟨r, M1, hFc, hG⟩ := bd_some hF
  have ht := g.2.2.2.2.1
  have cn : va_CN Z.1.2.2.2.1 Z.1.2.2.2.2 Z.2.1.2.1 own idx y host bytes maxL ret (Cond.code y bytes maxL ret :: Ug) (rmd d) 0 0 n := by
    refine va_cnB (Ts := Ug) (ws' := Ug) n ht (fun u hu => ?_) rfl rfl rfl hw (ht _ mw.2.1) mw.2.2.1 ?_
    · rcases List.mem_cons.mp hu with rfl | hu
      · exact Ug_good _ mw.1
      · exact Ug_good _ hu
    · rw [g.2.2.2.2.2.2.2.2.2.2]
      have := mw.2.2.2
      exact ⟨show d + 1 ≤ D from hD, show 8 + (maxL + 11) + 64 * d ≤ 64 * D by omega⟩
  refine q_run h3 (va_runSN (As := As) (rest := rest) ⟨g.1, g.2.1, g.2.2.1, g.2.2.2.1, g.2.2.2.2.1⟩ (hC r M1 hFc) ⟨cn, ht _ ms, trivial⟩ ⟨blindM, pre_of g h2 h3⟩ rfl hn h1.1.1 hst (lv_room hcat) hd ⟨Nat.zero_le _, Nat.zero_le _⟩) (fun H1 l1 hP hS => k r M1 r' M' hG ls H1 l1 h1 hP hS)
end Calls
