section Rows2
variable {K : Wk} {w : W0} {Z : Zx} {cc : ByteArray} {own : String} {D pc pc' tgt : Nat} {L st : List Value} {M : Mm} {F A B : Rs} {off : Int} {x y : Int32}
theorem ft {c : Prop} [Decidable c] {A B : Rs} {z : Int32 × Mm} (h : (if c then A else B) = some z) (hc : c) : A = some z := by rwa [if_pos hc] at h
theorem ff {c : Prop} [Decidable c] {A B : Rs} {z : Int32 × Mm} (h : (if c then A else B) = some z) (hc : ¬ c) : B = some z := by rwa [if_neg hc] at h
theorem r_ifeq (g : Good K w Z cc own D) (hd : decode cc pc = .ok (.ifCond .eq off, 3)) (hp : pc + 3 = pc') (ht : (pc : Int) + off = (tgt : Int)) (kt : Sim K w Z tgt L st M A) (kf : Sim K w Z pc' L st M B) : Sim K w Z pc L (.int x :: st) M (if x = 0 then A else B) := by
  subst hp; exact fun r M' h ls H lo h1 h2 h3 => lv_if_eq g.1 g.2.1 hd ht (fun q => kt r M' (ft h q) ls H lo h1 h2 h3) (fun q => kf r M' (ff h q) ls H lo h1 h2 h3)
theorem r_ifne (g : Good K w Z cc own D) (hd : decode cc pc = .ok (.ifCond .ne off, 3)) (hp : pc + 3 = pc') (ht : (pc : Int) + off = (tgt : Int)) (kt : Sim K w Z tgt L st M B) (kf : Sim K w Z pc' L st M A) : Sim K w Z pc L (.int x :: st) M (if x = 0 then A else B) := by
  subst hp; exact fun r M' h ls H lo h1 h2 h3 => lv_if_ne g.1 g.2.1 hd ht (fun q => kt r M' (ff h q) ls H lo h1 h2 h3) (fun q => kf r M' (ft h q) ls H lo h1 h2 h3)
theorem r_iflt (g : Good K w Z cc own D) (hd : decode cc pc = .ok (.ifCond .lt off, 3)) (hp : pc + 3 = pc') (ht : (pc : Int) + off = (tgt : Int)) (kt : Sim K w Z tgt L st M A) (kf : Sim K w Z pc' L st M B) : Sim K w Z pc L (.int x :: st) M (if x < 0 then A else B) := by
  subst hp; exact fun r M' h ls H lo h1 h2 h3 => lv_if_lt g.1 g.2.1 hd ht (fun q => kt r M' (ft h q) ls H lo h1 h2 h3) (fun q => kf r M' (ff h q) ls H lo h1 h2 h3)
theorem r_ifge (g : Good K w Z cc own D) (hd : decode cc pc = .ok (.ifCond .ge off, 3)) (hp : pc + 3 = pc') (ht : (pc : Int) + off = (tgt : Int)) (kt : Sim K w Z tgt L st M B) (kf : Sim K w Z pc' L st M A) : Sim K w Z pc L (.int x :: st) M (if x < 0 then A else B) := by
  subst hp; exact fun r M' h ls H lo h1 h2 h3 => lv_if_ge g.1 g.2.1 hd ht (fun q => kt r M' (ff h (fun z => Int32.not_le.mpr z q)) ls H lo h1 h2 h3) (fun q => kf r M' (ft h (Int32.not_le.mp q)) ls H lo h1 h2 h3)
theorem r_ifgt (g : Good K w Z cc own D) (hd : decode cc pc = .ok (.ifCond .gt off, 3)) (hp : pc + 3 = pc') (ht : (pc : Int) + off = (tgt : Int)) (kt : Sim K w Z tgt L st M A) (kf : Sim K w Z pc' L st M B) : Sim K w Z pc L (.int x :: st) M (if 0 < x then A else B) := by
  subst hp; exact fun r M' h ls H lo h1 h2 h3 => lv_if_gt g.1 g.2.1 hd ht (fun q => kt r M' (ft h q) ls H lo h1 h2 h3) (fun q => kf r M' (ff h q) ls H lo h1 h2 h3)
theorem r_ifle (g : Good K w Z cc own D) (hd : decode cc pc = .ok (.ifCond .le off, 3)) (hp : pc + 3 = pc') (ht : (pc : Int) + off = (tgt : Int)) (kt : Sim K w Z tgt L st M B) (kf : Sim K w Z pc' L st M A) : Sim K w Z pc L (.int x :: st) M (if 0 < x then A else B) := by
  subst hp; exact fun r M' h ls H lo h1 h2 h3 => lv_if_le g.1 g.2.1 hd ht (fun q => kt r M' (ff h (fun z => Int32.not_le.mpr z q)) ls H lo h1 h2 h3) (fun q => kf r M' (ft h (Int32.not_le.mp q)) ls H lo h1 h2 h3)
theorem r_ceq (g : Good K w Z cc own D) (hd : decode cc pc = .ok (.if_icmp .eq off, 3)) (hp : pc + 3 = pc') (ht : (pc : Int) + off = (tgt : Int)) (kt : Sim K w Z tgt L st M A) (kf : Sim K w Z pc' L st M B) : Sim K w Z pc L (.int y :: .int x :: st) M (if x = y then A else B) := by
  subst hp; exact fun r M' h ls H lo h1 h2 h3 => lv_icmp_eq g.1 g.2.1 hd ht (fun q => kt r M' (ft h q) ls H lo h1 h2 h3) (fun q => kf r M' (ff h q) ls H lo h1 h2 h3)
theorem r_cne (g : Good K w Z cc own D) (hd : decode cc pc = .ok (.if_icmp .ne off, 3)) (hp : pc + 3 = pc') (ht : (pc : Int) + off = (tgt : Int)) (kt : Sim K w Z tgt L st M B) (kf : Sim K w Z pc' L st M A) : Sim K w Z pc L (.int y :: .int x :: st) M (if x = y then A else B) := by
  subst hp; exact fun r M' h ls H lo h1 h2 h3 => lv_icmp_ne g.1 g.2.1 hd ht (fun q => kt r M' (ff h q) ls H lo h1 h2 h3) (fun q => kf r M' (ft h q) ls H lo h1 h2 h3)
theorem r_clt (g : Good K w Z cc own D) (hd : decode cc pc = .ok (.if_icmp .lt off, 3)) (hp : pc + 3 = pc') (ht : (pc : Int) + off = (tgt : Int)) (kt : Sim K w Z tgt L st M A) (kf : Sim K w Z pc' L st M B) : Sim K w Z pc L (.int y :: .int x :: st) M (if x < y then A else B) := by
  subst hp; exact fun r M' h ls H lo h1 h2 h3 => lv_icmp_lt g.1 g.2.1 hd ht (fun q => kt r M' (ft h q) ls H lo h1 h2 h3) (fun q => kf r M' (ff h q) ls H lo h1 h2 h3)
theorem r_cge (g : Good K w Z cc own D) (hd : decode cc pc = .ok (.if_icmp .ge off, 3)) (hp : pc + 3 = pc') (ht : (pc : Int) + off = (tgt : Int)) (kt : Sim K w Z tgt L st M B) (kf : Sim K w Z pc' L st M A) : Sim K w Z pc L (.int y :: .int x :: st) M (if x < y then A else B) := by
  subst hp; exact fun r M' h ls H lo h1 h2 h3 => lv_icmp_ge g.1 g.2.1 hd ht (fun q => kt r M' (ff h (fun z => Int32.not_le.mpr z q)) ls H lo h1 h2 h3) (fun q => kf r M' (ft h (Int32.not_le.mp q)) ls H lo h1 h2 h3)
theorem r_cgt (g : Good K w Z cc own D) (hd : decode cc pc = .ok (.if_icmp .gt off, 3)) (hp : pc + 3 = pc') (ht : (pc : Int) + off = (tgt : Int)) (kt : Sim K w Z tgt L st M A) (kf : Sim K w Z pc' L st M B) : Sim K w Z pc L (.int y :: .int x :: st) M (if y < x then A else B) := by
  subst hp; exact fun r M' h ls H lo h1 h2 h3 => lv_icmp_gt g.1 g.2.1 hd ht (fun q => kt r M' (ft h q) ls H lo h1 h2 h3) (fun q => kf r M' (ff h q) ls H lo h1 h2 h3)
theorem r_cle (g : Good K w Z cc own D) (hd : decode cc pc = .ok (.if_icmp .le off, 3)) (hp : pc + 3 = pc') (ht : (pc : Int) + off = (tgt : Int)) (kt : Sim K w Z tgt L st M B) (kf : Sim K w Z pc' L st M A) : Sim K w Z pc L (.int y :: .int x :: st) M (if y < x then A else B) := by
  subst hp; exact fun r M' h ls H lo h1 h2 h3 => lv_icmp_le g.1 g.2.1 hd ht (fun q => kt r M' (ff h (fun z => Int32.not_le.mpr z q)) ls H lo h1 h2 h3) (fun q => kf r M' (ft h (Int32.not_le.mp q)) ls H lo h1 h2 h3)
/-- a switch, one value after the other -/
theorem r_tab {v : Int32} {dflt lo hi : Int} {offs : Array Int} {len : Nat} (g : Good K w Z cc own D) (hd : decode cc pc = .ok (.tableswitch dflt lo hi offs, len)) (h1 : ¬ v.toInt < lo) (h2 : ¬ hi < v.toInt) (ho : offs[(v.toInt - lo).toNat]? = some off) (ht : (pc : Int) + off = (tgt : Int)) (kt : Sim K w Z tgt L st M A) (kf : ¬ x = v → Sim K w Z pc L (.int x :: st) M B) : Sim K w Z pc L (.int x :: st) M (if x = v then A else B) := by
  intro r M' h ls H l h3 h4 h5
  by_cases q : x = v
  · subst q
    exact lv_tableIn g.1 g.2.1 hd h1 h2 ho ht (kt r M' (ft h rfl) ls H l h3 h4 h5)
  · exact kf q r M' (ff h q) ls H l h3 h4 h5
theorem r_tabd {dflt lo hi : Int} {offs : Array Int} {len : Nat} (g : Good K w Z cc own D) (hd : decode cc pc = .ok (.tableswitch dflt lo hi offs, len)) (h : x.toInt < lo ∨ hi < x.toInt) (ht : (pc : Int) + dflt = (tgt : Int)) (k : Sim K w Z tgt L st M A) : Sim K w Z pc L (.int x :: st) M A :=
  fun r M' hF ls H l h3 h4 h5 => lv_tableOut g.1 g.2.1 hd h ht (k r M' hF ls H l h3 h4 h5)
theorem r_iret {v : Int32} (g : Good K w Z cc own D) (hr : Z.2.2.2 = some .int) (hd : decode cc pc = .ok (.ireturn, 1)) : Sim K w Z pc L [.int v] M (some (v, M)) := by
  intro r M' h ls H l h1 h2 h3
  cases h
  exact W.iret g.1 g.2.1 (g.2.2.2.2.2.2.1.trans hr) (fun t ht hW => ⟨by rw [hr]; rfl, by rw [ht]; exact h2, h3.F ht⟩) h3.2.2 hd g.2.2.2.2.2.1
theorem r_zret {v : Int32} (g : Good K w Z cc own D) (hr : Z.2.2.2 = some .boolean) (hd : decode cc pc = .ok (.ireturn, 1)) : Sim K w Z pc L [.int v] M (if bz v then some (v, M) else none) := by
  intro r M' h ls H l h1 h2 h3
  by_cases q : bz v = true
  · have h := ft h q
    cases h
    exact W.zret g.1 g.2.1 (g.2.2.2.2.2.2.1.trans hr) (bz_nar q) (fun t ht hW => ⟨by rw [hr]; rfl, by rw [ht]; exact h2, h3.F ht⟩) h3.2.2 hd g.2.2.2.2.2.1
  · cases ff h q
theorem r_zretc {v : Int32} (g : Good K w Z cc own D) (hr : Z.2.2.2 = some .boolean) (hv : bz v = true) (hd : decode cc pc = .ok (.ireturn, 1)) : Sim K w Z pc L [.int v] M (some (v, M)) := by
  intro r M' h ls H l h1 h2 h3
  cases h
  exact W.zret g.1 g.2.1 (g.2.2.2.2.2.2.1.trans hr) (bz_nar hv) (fun t ht hW => ⟨by rw [hr]; rfl, by rw [ht]; exact h2, h3.F ht⟩) h3.2.2 hd g.2.2.2.2.2.1
theorem r_vret (g : Good K w Z cc own D) (hr : Z.2.2.2 = none) (hd : decode cc pc = .ok (.return_, 1)) : Sim K w Z pc L [] M (some (0, M)) := by
  intro r M' h ls H l h1 h2 h3
  cases h
  exact W.vret g.1 g.2.1 (g.2.2.2.2.2.2.1.trans hr) (fun t ht hW => ⟨by rw [hr]; rfl, by rw [ht]; exact h2, h3.F ht⟩) h3.2.2 hd g.2.2.2.2.2.1
/-- what the tables know of a class -/
def Kf (ci : Nat) (C : String) (T : u_T) (N : Nat) (ty : Nat → FieldType) : Prop := (∀ u ∈ u_ws C T N, u ∈ Ug) ∧ vwCl[ci]? = some (C, T, N) ∧ (∀ k, k < N → parseFieldDescriptor (T k).2.2.1 = some (ty k)) ∧ ∀ a, a < N → ∀ b, b < N → a ≠ b → (T a).2.1 ≠ (T b).2.1
/-- what the tables know of a field where a class's pool names it -/
def Fl (own : String) (idx ci k : Nat) (C : String) (T : u_T) (N : Nat) (ty : Nat → FieldType) (fin : Bool) : Prop := Kf ci C T N ty ∧ k < N ∧ (T k).2.2.2 = fin ∧ (T k).1 = C ∧ Cond.fieldLink own idx C (T k).2.1 (T k).2.2.1 ∈ Ug
section Heap
variable {idx ci j a : Nat} {C : String} {T : u_T} {N : Nat} {ty : Nat → FieldType} {fin : Bool} {fs : List Value} {v : Value}
theorem r_get (g : Good K w Z cc own D) (hd : decode cc pc = .ok (.getfield idx, 3)) (hp : pc + 3 = pc') (fl : Fl own idx ci j C T N ty fin) (ha : a < K.1) (he : K.2.1 w a (M.1 a) (M.2 a) = .inr (ci, fs)) (hv : fs[j]? = some v) (k : Sim K w Z pc' L (v :: st) M F) : Sim K w Z pc L (rf w a :: st) M F := by
  subst hp
  intro r M' h ls H l h1 h2 h3
  exact va_get g.1 g.2.1 g.2.2.2.2.1 fl.1.1 g.2.2.2.1 g.2.2.2.2.2.2.2.1 h2 a (by rw [wsOf_get ha, he]) fl.1.2.1 j fl.2.1 (g.2.2.2.2.1 _ fl.2.2.2.2) (fun q hq => by rw [fl.2.2.2.1] at hq; exact hq) hv hd (k r M' h ls H l h1 h2 h3)
theorem wI_1 {M : Mm} {a i : Nat} {v : Int32} : (wI M a i v).1 a = upd (M.1 a) i v := if_pos rfl
theorem wI_ne {M : Mm} {a i b : Nat} {v : Int32} (h : b ≠ a) : (wI M a i v).1 b = M.1 b := if_neg h
theorem wI_2 {M : Mm} {a i b : Nat} {v : Int32} : (wI M a i v).2 b = M.2 b := rfl
theorem wL_2 {M : Mm} {a i : Nat} {v : Int64} : (wL M a i v).2 a = vp_updL (M.2 a) i v := if_pos rfl
theorem wL_ne {M : Mm} {a i b : Nat} {v : Int64} (h : b ≠ a) : (wL M a i v).2 b = M.2 b := if_neg h
theorem wL_1 {M : Mm} {a i b : Nat} {v : Int64} : (wL M a i v).1 b = M.1 b := rfl
theorem wR_1 {M : Mm} {a : Nat} {f : Nat → Int32} : (wR M a f).1 a = f := if_pos rfl
theorem wR_ne {M : Mm} {a b : Nat} {f : Nat → Int32} (h : b ≠ a) : (wR M a f).1 b = M.1 b := if_neg h
theorem wI_set {M : Mm} {a i : Nat} {x : Int32} {e : va_E} (ha : a < K.1) (he : K.2.1 w a (upd (M.1 a) i x) (M.2 a) = e) : (wsOf K w M).set a (w.2.1 a, e) = wsOf K w (wI M a i x) :=
  wsOf_set ha (by rw [wI_1, wI_2, he]) (fun b hb => wI_ne hb) (fun b _ => wI_2)
theorem wR_set {M : Mm} {a : Nat} {f : Nat → Int32} {e : va_E} (ha : a < K.1) (he : K.2.1 w a f (M.2 a) = e) : (wsOf K w M).set a (w.2.1 a, e) = wsOf K w (wR M a f) :=
  wsOf_set ha (by rw [wR_1]; exact he.symm) (fun b hb => wR_ne hb) (fun b _ => rfl)
theorem wL_set {M : Mm} {a i : Nat} {x : Int64} {e : va_E} (ha : a < K.1) (he : K.2.1 w a (M.1 a) (vp_updL (M.2 a) i x) = e) : (wsOf K w M).set a (w.2.1 a, e) = wsOf K w (wL M a i x) :=
  wsOf_set ha (by rw [wL_1, wL_2, he]) (fun b _ => wL_1) (fun b hb => wL_ne hb)
/-- a number into a field -/
theorem r_put {x : Int32} (g : Good K w Z cc own D) (hd : decode cc pc = .ok (.putfield idx, 3)) (hp : pc + 3 = pc') (fl : Fl own idx ci j C T N ty false) (ht : ty j = .int) (ha : a < K.1) (he : K.2.1 w a (M.1 a) (M.2 a) = .inr (ci, fs)) (hl : j < fs.length) (hs : K.2.1 w a (upd (M.1 a) j x) (M.2 a) = .inr (ci, fs.set j (.int x))) (k : Sim K w Z pc' L st (wI M a j x) F) : Sim K w Z pc L (.int x :: rf w a :: st) M F := by
  subst hp
  intro r M' h ls H l h1 h2 h3
  refine va_put g.1 g.2.1 g.2.2.2.2.1 fl.1.1 ty fl.1.2.2.1 fl.1.2.2.2 g.2.2.2.1 g.2.2.2.2.2.2.2.1 h2 (ap_D g.2.2.2.2.2.2.2.2.1 M) h3 a (by rw [wsOf_get ha, he]) fl.1.2.1 j fl.2.1 (g.2.2.2.2.1 _ fl.2.2.2.2) (fun q hq => by rw [fl.2.2.2.1] at hq; exact hq) fl.2.2.1 (ty := .int) (by rw [fl.1.2.2.1 j fl.2.1, ht]) rfl rfl hl hd (fun H1 l1 hP _ hS => ?_)
  rw [wI_set ha hs] at hP
  exact k r M' h ls H1 l1 h1 hP hS
theorem r_putz {x : Int32} (g : Good K w Z cc own D) (hd : decode cc pc = .ok (.putfield idx, 3)) (hp : pc + 3 = pc') (fl : Fl own idx ci j C T N ty false) (ht : ty j = .boolean) (hz : bz x = true) (ha : a < K.1) (he : K.2.1 w a (M.1 a) (M.2 a) = .inr (ci, fs)) (hl : j < fs.length) (hs : K.2.1 w a (upd (M.1 a) j x) (M.2 a) = .inr (ci, fs.set j (.int x))) (k : Sim K w Z pc' L st (wI M a j x) F) : Sim K w Z pc L (.int x :: rf w a :: st) M F := by
  subst hp
  intro r M' h ls H l h1 h2 h3
  refine va_put g.1 g.2.1 g.2.2.2.2.1 fl.1.1 ty fl.1.2.2.1 fl.1.2.2.2 g.2.2.2.1 g.2.2.2.2.2.2.2.1 h2 (ap_D g.2.2.2.2.2.2.2.2.1 M) h3 a (by rw [wsOf_get ha, he]) fl.1.2.1 j fl.2.1 (g.2.2.2.2.1 _ fl.2.2.2.2) (fun q hq => by rw [fl.2.2.2.1] at hq; exact hq) fl.2.2.1 (ty := .boolean) (by rw [fl.1.2.2.1 j fl.2.1, ht]) (bz_nar hz) (bz_fits hz) hl hd (fun H1 l1 hP _ hS => ?_)
  rw [wI_set ha hs] at hP
  exact k r M' h ls H1 l1 h1 hP hS
theorem r_putzd {x : Int32} (g : Good K w Z cc own D) (hd : decode cc pc = .ok (.putfield idx, 3)) (hp : pc + 3 = pc') (fl : Fl own idx ci j C T N ty false) (ht : ty j = .boolean) (ha : a < K.1) (he : K.2.1 w a (M.1 a) (M.2 a) = .inr (ci, fs)) (hl : j < fs.length) (hs : K.2.1 w a (upd (M.1 a) j x) (M.2 a) = .inr (ci, fs.set j (.int x))) (k : Sim K w Z pc' L st (wI M a j x) F) : Sim K w Z pc L (.int x :: rf w a :: st) M (if bz x then F else none) := by
  intro r M' h ls H l h1 h2 h3
  by_cases q : bz x = true
  · exact r_putz g hd hp fl ht q ha he hl hs k r M' (ft h q) ls H l h1 h2 h3
  · cases ff h q
/-- arrays of ints -/
theorem r_ialdc {n : Nat} {i : Int32} (g : Good K w Z cc own D) (hd : decode cc pc = .ok (.iaload, 1)) (hp : pc + 1 = pc') (ha : a < K.1) (he : K.2.1 w a (M.1 a) (M.2 a) = .inl (w.2.2.1 0, n, .inl (M.1 a))) (hi : inb i n = true) (k : Sim K w Z pc' L (.int (M.1 a (ix i)) :: st) M F) : Sim K w Z pc L (.int i :: rf w a :: st) M F := by
  subst hp
  intro r M' h ls H l h1 h2 h3
  exact va_iald g.1 g.2.1 g.2.2.2.2.2.2.2.1 h2 a 0 (by rw [wsOf_get ha, he]) rfl (inb_in hi) hd (k r M' h ls H l h1 h2 h3)
theorem r_iald {n : Nat} {i : Int32} (g : Good K w Z cc own D) (hd : decode cc pc = .ok (.iaload, 1)) (hp : pc + 1 = pc') (ha : a < K.1) (he : K.2.1 w a (M.1 a) (M.2 a) = .inl (w.2.2.1 0, n, .inl (M.1 a))) (k : Sim K w Z pc' L (.int (M.1 a (ix i)) :: st) M F) : Sim K w Z pc L (.int i :: rf w a :: st) M (if inb i n then F else none) := by
  intro r M' h ls H l h1 h2 h3
  by_cases q : inb i n = true
  · exact r_ialdc g hd hp ha he q k r M' (ft h q) ls H l h1 h2 h3
  · cases ff h q
theorem r_zald {n : Nat} {i : Int32} (g : Good K w Z cc own D) (hd : decode cc pc = .ok (.baload, 1)) (hp : pc + 1 = pc') (ha : a < K.1) (he : K.2.1 w a (M.1 a) (M.2 a) = .inl (w.2.2.1 2, n, .inl (M.1 a))) (k : Sim K w Z pc' L (.int (M.1 a (ix i)) :: st) M F) : Sim K w Z pc L (.int i :: rf w a :: st) M (if inb i n then F else none) := by
  subst hp
  intro r M' h ls H l h1 h2 h3
  by_cases q : inb i n = true
  · exact va_zald g.1 g.2.1 g.2.2.2.2.2.2.2.1 h2 a 2 (by rw [wsOf_get ha, he]) rfl (inb_in q) hd (k r M' (ft h q) ls H l h1 h2 h3)
  · cases ff h q
theorem r_lald {n : Nat} {i : Int32} (g : Good K w Z cc own D) (hd : decode cc pc = .ok (.laload, 1)) (hp : pc + 1 = pc') (ha : a < K.1) (he : K.2.1 w a (M.1 a) (M.2 a) = .inl (w.2.2.1 1, n, .inr (.inl (M.2 a)))) (k : Sim K w Z pc' L (.long (M.2 a (ix i)) :: st) M F) : Sim K w Z pc L (.int i :: rf w a :: st) M (if inb i n then F else none) := by
  subst hp
  intro r M' h ls H l h1 h2 h3
  by_cases q : inb i n = true
  · exact va_lald g.1 g.2.1 g.2.2.2.2.2.2.2.1 h2 a 1 (by rw [wsOf_get ha, he]) rfl (inb_in q) hd (k r M' (ft h q) ls H l h1 h2 h3)
  · cases ff h q
theorem r_iastc {n : Nat} {i x : Int32} (g : Good K w Z cc own D) (hd : decode cc pc = .ok (.iastore, 1)) (hp : pc + 1 = pc') (ha : a < K.1) (he : ∀ m, K.2.1 w a m (M.2 a) = .inl (w.2.2.1 0, n, .inl m)) (hi : inb i n = true) (k : Sim K w Z pc' L st (wI M a (ix i) x) F) : Sim K w Z pc L (.int x :: .int i :: rf w a :: st) M F := by
  subst hp
  intro r M' h ls H l h1 h2 h3
  refine va_iast g.1 g.2.1 g.2.2.2.2.2.2.2.1 h2 (ap_D g.2.2.2.2.2.2.2.2.1 M) h3 a 0 (by rw [wsOf_get ha, he]) rfl (inb_in hi) hd (fun H1 l1 hP _ hS => ?_)
  rw [wI_set ha (he _)] at hP
  exact k r M' h ls H1 l1 h1 hP hS
theorem r_iast {n : Nat} {i x : Int32} (g : Good K w Z cc own D) (hd : decode cc pc = .ok (.iastore, 1)) (hp : pc + 1 = pc') (ha : a < K.1) (he : ∀ m, K.2.1 w a m (M.2 a) = .inl (w.2.2.1 0, n, .inl m)) (k : Sim K w Z pc' L st (wI M a (ix i) x) F) : Sim K w Z pc L (.int x :: .int i :: rf w a :: st) M (if inb i n then F else none) := by
  intro r M' h ls H l h1 h2 h3
  by_cases q : inb i n = true
  · exact r_iastc g hd hp ha he q k r M' (ft h q) ls H l h1 h2 h3
  · cases ff h q
abbrev zn (x : Int32) : Int32 := vp_nar .boolean x
theorem r_zast {n : Nat} {i x : Int32} (g : Good K w Z cc own D) (hd : decode cc pc = .ok (.bastore, 1)) (hp : pc + 1 = pc') (ha : a < K.1) (he : ∀ m, K.2.1 w a m (M.2 a) = .inl (w.2.2.1 2, n, .inl m)) (k : Sim K w Z pc' L st (wI M a (ix i) (zn x)) F) : Sim K w Z pc L (.int x :: .int i :: rf w a :: st) M (if inb i n then F else none) := by
  subst hp
  intro r M' h ls H l h1 h2 h3
  by_cases q : inb i n = true
  · refine va_zast g.1 g.2.1 g.2.2.2.2.2.2.2.1 h2 (ap_D g.2.2.2.2.2.2.2.2.1 M) h3 a 2 (by rw [wsOf_get ha, he]) rfl (inb_in q) hd (fun H1 l1 hP _ hS => ?_)
    rw [wI_set ha (he _)] at hP
    exact k r M' (ft h q) ls H1 l1 h1 hP hS
  · cases ff h q
theorem r_last {n : Nat} {i : Int32} {x : Int64} (g : Good K w Z cc own D) (hd : decode cc pc = .ok (.lastore, 1)) (hp : pc + 1 = pc') (ha : a < K.1) (he : ∀ m, K.2.1 w a (M.1 a) m = .inl (w.2.2.1 1, n, .inr (.inl m))) (k : Sim K w Z pc' L st (wL M a (ix i) x) F) : Sim K w Z pc L (.long x :: .int i :: rf w a :: st) M (if inb i n then F else none) := by
  subst hp
  intro r M' h ls H l h1 h2 h3
  by_cases q : inb i n = true
  · refine va_last g.1 g.2.1 g.2.2.2.2.2.2.2.1 h2 (ap_D g.2.2.2.2.2.2.2.2.1 M) h3 a 1 (by rw [wsOf_get ha, he]) rfl (inb_in q) hd (fun H1 l1 hP _ hS => ?_)
    rw [wL_set ha (he _)] at hP
    exact k r M' (ft h q) ls H1 l1 h1 hP hS
  · cases ff h q
theorem r_aald {n : Nat} {i : Int32} {f : Nat → Nat} (g : Good K w Z cc own D) (hd : decode cc pc = .ok (.aaload, 1)) (hp : pc + 1 = pc') (ha : a < K.1) (he : K.2.1 w a (M.1 a) (M.2 a) = .inl (w.2.2.1 3, n, .inr (.inr (.inr (.inr (fun j => some (w.2.1 (f j)))))))) (k : inb i n = true → Sim K w Z pc' L (rf w (f (ix i)) :: st) M F) : Sim K w Z pc L (.int i :: rf w a :: st) M (if inb i n then F else none) := by
  subst hp
  intro r M' h ls H l h1 h2 h3
  by_cases q : inb i n = true
  · exact va_aldq (f := fun j => some (w.2.1 (f j))) g.1 g.2.1 g.2.2.2.2.2.2.2.1 h2 a 3 (by rw [wsOf_get ha, he]) rfl (inb_in q) hd (k q r M' (ft h q) ls H l h1 h2 h3)
  · cases ff h q
theorem r_alen {n : Nat} {t : Nat} {v : Int32} {c : ClassId} {e : (Nat → Int32) ⊕ (Nat → Int64) ⊕ (Nat → UInt32) ⊕ (Nat → UInt64) ⊕ (Nat → Option Nat)} {q : FieldType} (g : Good K w Z cc own D) (hd : decode cc pc = .ok (.arraylength, 1)) (hp : pc + 1 = pc') (ha : a < K.1) (he : K.2.1 w a (M.1 a) (M.2 a) = .inl (c, n, e)) (ht : (tysOf w)[t]? = some (c, q)) (hv : Int32.ofNat n = v) (k : Sim K w Z pc' L (.int v :: st) M F) : Sim K w Z pc L (rf w a :: st) M F := by
  subst hp
  intro r M' h ls H l h1 h2 h3
  exact va_alen g.1 g.2.1 g.2.2.2.2.2.2.2.1 h2 a t (by rw [wsOf_get ha, he]) ht hv hd (k r M' h ls H l h1 h2 h3)
end Heap
/-- static tables -/
theorem r_gets {idx : Nat} {nm : String} {v : Value} (g : Good K w Z cc own D) (hd : decode cc pc = .ok (.getstatic idx, 3)) (hp : pc + 3 = pc') (hw : Cond.fieldLink own idx "FerryPlans" nm "[I" ∈ Ug) (hZ : va_Z "FerryPlans" nm "[I" v (AV K w) Z.1.2.2.2.2 Z.1.2.2.2.2.heap) (k : Sim K w Z pc' L (v :: st) M F) : Sim K w Z pc L st M F := by
  subst hp
  intro r M' h ls H l h1 h2 h3
  exact va_gets g.1 g.2.1 hZ h3 g.2.2.2.1 (g.2.2.2.2.1 _ hw) (fun _ q => q) hd (k r M' h ls H l h1 h2 h3)
theorem r_tald {t n : Nat} {f : Nat → Int32} {i : Int32} (g : Good K w Z cc own D) (hd : decode cc pc = .ok (.iaload, 1)) (hp : pc + 1 = pc') (hT : va_T .int t n (fun j => .int (f j)) (AV K w) Z.1.2.2.2.2 Z.1.2.2.2.2.heap) (k : Sim K w Z pc' L (.int (f (ix i)) :: st) M F) : Sim K w Z pc L (.int i :: .ref t :: st) M (if inb i n then F else none) := by
  subst hp
  intro r M' h ls H l h1 h2 h3
  by_cases q : inb i n = true
  · exact va_ti g.1 g.2.1 hT h3 (inb_in q) rfl hd (k r M' (ft h q) ls H l h1 h2 h3)
  · cases ff h q
theorem r_tlen {t n : Nat} {f : Nat → Int32} {v : Int32} (g : Good K w Z cc own D) (hd : decode cc pc = .ok (.arraylength, 1)) (hp : pc + 1 = pc') (hT : va_T .int t n (fun j => .int (f j)) (AV K w) Z.1.2.2.2.2 Z.1.2.2.2.2.heap) (hv : Int32.ofNat n = v) (k : Sim K w Z pc' L (.int v :: st) M F) : Sim K w Z pc L (.ref t :: st) M F := by
  subst hp
  intro r M' h ls H l h1 h2 h3
  exact va_tlen g.1 g.2.1 hT h3 hv hd (k r M' h ls H l h1 h2 h3)
/-- the JDK's own -/
theorem r_max {idx : Nat} {a b : Int32} (g : Good K w Z cc own (D + 1)) (hd : decode cc pc = .ok (.invokestatic idx, 3)) (hp : pc + 3 = pc') (hw : Cond.methodLink own idx Lib.Math.max.name ∈ Ug) (hs : Cond.static Lib.Math.max.name ∈ Ug) (hi : Cond.initialized "java/lang/Math" ∈ Ug) (hc : Cond.code Lib.Math.max.name Lib.Math.max.code 2 (some .int) ∈ Ug) (hcat : (st.map fun v => v.category).sum ≤ 8) (k : Sim K w Z pc' L (.int (if a < b then b else a) :: st) M F) : Sim K w Z pc L (.int b :: .int a :: st) M F := by
  subst hp
  intro r M' h ls H l h1 h2 h3
  have hR := g.2.2.2.2.2.2.2.2.2.2
  exact va_mmax g.1 g.2.1 (g.2.2.1.trans h1.1.1.symm) g.2.2.2.1 (g.2.2.2.2.1 _ hw) (g.2.2.2.2.1 _ hs) (g.2.2.2.2.1 _ hi) (g.2.2.2.2.1 _ hc) (by rw [hR]; show 1 ≤ D + 1; omega) (by rw [hR]; show _ ≤ 64 * (D + 1); omega) (Nat.zero_le _) (Nat.zero_le _) hd (k r M' h ls H l h1 h2 h3)
theorem r_min {idx : Nat} {a b : Int32} (g : Good K w Z cc own (D + 1)) (hd : decode cc pc = .ok (.invokestatic idx, 3)) (hp : pc + 3 = pc') (hw : Cond.methodLink own idx Lib.Math.min.name ∈ Ug) (hs : Cond.static Lib.Math.min.name ∈ Ug) (hi : Cond.initialized "java/lang/Math" ∈ Ug) (hc : Cond.code Lib.Math.min.name Lib.Math.min.code 2 (some .int) ∈ Ug) (hcat : (st.map fun v => v.category).sum ≤ 8) (k : Sim K w Z pc' L (.int (if b < a then b else a) :: st) M F) : Sim K w Z pc L (.int b :: .int a :: st) M F := by
  subst hp
  intro r M' h ls H l h1 h2 h3
  have hR := g.2.2.2.2.2.2.2.2.2.2
  exact va_mmin g.1 g.2.1 (g.2.2.1.trans h1.1.1.symm) g.2.2.2.1 (g.2.2.2.2.1 _ hw) (g.2.2.2.2.1 _ hs) (g.2.2.2.2.1 _ hi) (g.2.2.2.2.1 _ hc) (by rw [hR]; show 1 ≤ D + 1; omega) (by rw [hR]; show _ ≤ 64 * (D + 1); omega) (Nat.zero_le _) (Nat.zero_le _) hd (k r M' h ls H l h1 h2 h3)
/-- the whole of an int array over another of the same length -/
theorem r_copy {idx a b n : Nat} {v : Int32} (g : Good K w Z cc own (D + 1)) (hd : decode cc pc = .ok (.invokestatic idx, 3)) (hp : pc + 3 = pc') (hw : Cond.methodLink own idx arraycopyName ∈ Ug) (hn : Cond.native arraycopyName ∈ Ug) (hs : Cond.static arraycopyName ∈ Ug) (hi : Cond.initialized "java/lang/System" ∈ Ug) (ha : a < K.1) (hb : b < K.1) (hea : K.2.1 w a (M.1 a) (M.2 a) = .inl (w.2.2.1 0, n, .inl (M.1 a))) (heb : ∀ m, K.2.1 w b m (M.2 b) = .inl (w.2.2.1 0, n, .inl m)) (hv : v.toInt = (n : Int)) (hcat : (st.map fun v => v.category).sum ≤ 8) (k : Sim K w Z pc' L st (wR M b (va_cpy (M.1 a) (M.1 b) 0 0 n)) F) : Sim K w Z pc L (.int v :: .int 0 :: rf w b :: .int 0 :: rf w a :: st) M F := by
  subst hp
  intro r M' h ls H l h1 h2 h3
  have hR := g.2.2.2.2.2.2.2.2.2.2
  have hvn : v.toNatClampNeg = n := by
    show v.toInt.toNat = n
    omega
  have hnw : nativeFrameWords "java/lang/System" "arraycopy" 5 ≤ 40 := by decide +kernel
  have q1 : ¬ (0 : Int32) < 0 := by decide
  have q3 : ¬ v < 0 := fun q => by
    have q4 := Int32.lt_iff_toInt_lt.mp q
    have q5 : (0 : Int32).toInt = 0 := rfl
    omega
  have q6 : (0 : Int32).toNatClampNeg + v.toNatClampNeg ≤ n := by rw [hvn]; show 0 + n ≤ n; omega
  have q7 : 1 ≤ Z.1.2.2.2.1.frames := by rw [hR]; show 1 ≤ D + 1; omega
  have q8 : (st.map fun v => v.category).sum + (nativeFrameWords "java/lang/System" "arraycopy" 5 + 11) ≤ Z.1.2.2.2.1.locals := by rw [hR]; show _ ≤ 64 * (D + 1); omega
  refine va_copyi (sp := 0) (dp := 0) (n := v) (n0 := n) (n1 := n) (f := M.1 a) (g := M.1 b) (c0 := w.2.2.1 0) (c1 := w.2.2.1 0) (a0 := w.2.1 a) (a := w.2.1 b) (R := Z.1.2.2.2.1) g.1 g.2.1 (g.2.2.1.trans h1.1.1.symm) g.2.2.2.1 (g.2.2.2.2.1 _ hw) (g.2.2.2.2.1 _ hn) (g.2.2.2.2.1 _ hs) (g.2.2.2.2.1 _ hi) g.2.2.2.2.2.2.2.1 h2 (ap_D g.2.2.2.2.2.2.2.2.1 M) h3 a b 0 0 (ty := .int) (by rw [wsOf_get ha, hea]) (by rw [wsOf_get hb, heb]) rfl rfl rfl q1 q1 q3 q6 q6 (fun _ _ => rfl) q7 q8 hd (fun H1 l1 hP _ hS => ?_)
  rw [hvn] at hP
  rw [show (0 : Int32).toNatClampNeg = 0 from rfl] at hP
  rw [wR_set hb (heb _)] at hP
  exact k r M' h ls H1 l1 h1 hP hS
end Rows2
