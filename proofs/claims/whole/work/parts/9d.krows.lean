/-! CONSTRUCTORS: rows over a world that grows. A constructor's walk: CW .. ws says: from here, with the cells ws, the machine comes to Q. -/
def yRul : MethodName := ⟨RX7, "<init>", "()V"⟩
def NW (U : State) : Prop := va_Nw (.methodLinkNest RX10 30 yX7_init "FerryPlans") U ∧ va_Nw (.methodLinkNest RX11 25 yX1_init "FerryPlans") U ∧ va_Nw (.methodLinkNest RX11 32 yX9_init "FerryPlans") U ∧ va_Nw (.methodLinkNest RX8 11 yX7_init "FerryPlans") U ∧ va_AO RX7 U
theorem NW.warm {s U : State} (hW : s.WarmedH U.vm) (h : NW s) : NW U := ⟨va_Nw.warmM hW h.1, va_Nw.warmM hW h.2.1, va_Nw.warmM hW h.2.2.1, va_Nw.warmM hW h.2.2.2.1, h.2.2.2.2.moved hW.alike⟩
theorem NW.same {s U : State} (hv : s.vm = U.vm) (h : NW s) : NW U := ⟨va_Nw.same rfl hv h.1, va_Nw.same rfl hv h.2.1, va_Nw.same rfl hv h.2.2.1, va_Nw.same rfl hv h.2.2.2.1, h.2.2.2.2.moved (by rw [hv]; exact Vm.Alike.refl _)⟩
def rmk (d mc ms : Nat) : Room := { frames := d, cells := mc, slots := ms, locals := 64 * d }
/-- the array classes that the worlds use -/
abbrev Ty : Type := List (ClassId × FieldType)
def tyL (t : Nat → ClassId) : Ty := [(t 0, .int), (t 1, .long), (t 2, .boolean), (t 3, .object RX7)]
/-- a constructor's contract: its own cell comes in as made by new; behind it stand the cells of post, at new places but its own -/
def Kt (l : Launch) (G : va_G) (t : Nat → ClassId) (d mc ms : Nat) (y : MethodName) (cc : ByteArray) (nL : Nat) (av : List Value) (h0 : Nat) (e0 : va_E) (post : (Nat → Nat) → va_W) : Prop :=
  ∀ sz, Met l y (Cond.code y cc nL none :: Ug) (rmk d mc ms) (va_Pc av (fun U => U.heap.size = sz ∧ va_P G vwCl [(h0, e0)] U.heap ∧ va_K G vwCl (tyL t) U ∧ NW U)) (fun _ st o u => o = .returned none ∧ (∃ f : Nat → Nat, va_P G vwCl (post f) u.heap ∧ va_D (va_A [(h0, e0)] sz) (post f)) ∧ va_F (va_A [(h0, e0)] sz) st u) mc ms (va_A [(h0, e0)] sz)
def GK (Z : Zx) (G : va_G) (t : Nat → ClassId) (A : Nat → Prop) (cc : ByteArray) (own : String) (d mc ms : Nat) : Prop :=
  Z.1.1.tables.exec = Jvm.exec ∧ Z.2.1.2.2.2.2.code = cc ∧ Z.2.1.2.2.2.2.maxLocals = Z.2.2.1 ∧ Z.1.2.2.2.2.vm.findClass own = some Z.2.1.1.cls ∧ (∀ u ∈ Ug, u.before Z.2.1.2.1 Z.1.2.2.2.2 = true) ∧ Z.2.1.2.2.2.1.locks = false ∧ Z.2.1.2.2.2.1.sig.returnType = none ∧ va_K G vwCl (tyL t) Z.1.2.2.2.2 ∧ NW Z.1.2.2.2.2 ∧ Z.1.2.2.2.1 = rmk d mc ms ∧ Z.2.1.2.2.2.1.name = "<init>" ∧ ∀ q, Z.1.2.2.2.2.heap.size ≤ q → A q
def CW (Z : Zx) (G : va_G) (A : Nat → Prop) (pc : Nat) (L st : List Value) (ws : va_W) (n k : Nat) (Q : State → Prop) : Prop :=
  ∀ (ls : Array Slot) (H : Heap) (locs : List Loc), Lc ls Z.2.2.1 L → va_P G vwCl ws H → va_D A ws → va_S A Z.1.2.2.2.2.heap H locs → W Z.1.1 Z.1.2.1 Z.1.2.2.1 Z.1.2.2.2.1 Z.1.2.2.2.2 Z.2.1.1 Z.2.1.2.1 Z.2.1.2.2.1 Z.2.1.2.2.2.1 Z.2.1.2.2.2.2 H locs n k Q (F0 Z.2.1.1 pc ls st)
/-- two array classes of one type are one -/
theorem ra_one {U : State} {a b : ClassId} {ty : FieldType} (h1 : va_RA U a ty) (h2 : va_RA U b ty) : a = b := by
  cases ty with
  | object C =>
    obtain ⟨_, _, _, _, _, q1⟩ := h1
    obtain ⟨_, _, _, _, _, q2⟩ := h2
    exact Option.some.inj (q1.symm.trans q2)
  | _ => exact Option.some.inj (h1.symm.trans h2)
theorem k_one {G : va_G} {t : Nat → ClassId} {s : State} {cA : ClassId} {ty : FieldType} {j : Nat} {c : ClassId} (hj : (tyL t)[j]? = some (c, ty)) (hK : va_K G vwCl (tyL t ++ [(cA, ty)]) s) : cA = c := by
  have h1 := (hK.2 4 (cA, ty) rfl).2
  have hl : j < 4 := (List.getElem?_eq_some_iff.mp hj).1
  have h2 := (hK.2 j (c, ty) (by rw [List.getElem?_append_left hl]; exact hj)).2
  exact ra_one h1 h2
section KRows
variable {Z : Zx} {G : va_G} {t : Nat → ClassId} {A : Nat → Prop} {cc : ByteArray} {own : String} {D mc ms pc pc' n k : Nat} {L st : List Value} {ws : va_W} {Q : State → Prop}
theorem k_aload_n {i : _root_.Fin 4} {a : Nat} (g : GK Z G t A cc own D mc ms) (hd : decode cc pc = .ok (.aload_n i, 1)) (hp : pc + 1 = pc') (hl : L[(i : Nat)]? = some (.ref a)) (kk : CW Z G A pc' L (.ref a :: st) ws n k Q) : CW Z G A pc L st ws n k Q := by
  subst hp; exact fun ls H lo h1 h2 h3 h4 => lv_aload_n g.1 g.2.1 hd rfl (h1.at hl (fun q => by cases q)) (kk ls H lo h1 h2 h3 h4)
theorem k_iload_n {i : _root_.Fin 4} {a : Int32} (g : GK Z G t A cc own D mc ms) (hd : decode cc pc = .ok (.iload_n i, 1)) (hp : pc + 1 = pc') (hl : L[(i : Nat)]? = some (.int a)) (kk : CW Z G A pc' L (.int a :: st) ws n k Q) : CW Z G A pc L st ws n k Q := by
  subst hp; exact fun ls H lo h1 h2 h3 h4 => lv_iload_n g.1 g.2.1 hd rfl (h1.at hl (fun q => by cases q)) (kk ls H lo h1 h2 h3 h4)
theorem k_istore_n {i : _root_.Fin 4} {a : Int32} {L' : List Value} (g : GK Z G t A cc own D mc ms) (hd : decode cc pc = .ok (.istore_n i, 1)) (hp : pc + 1 = pc') (hn : (i : Nat) < Z.2.2.1) (ho : nlong L (i : Nat) = true) (hl : L.set (i : Nat) (.int a) = L') (kk : CW Z G A pc' L' st ws n k Q) : CW Z G A pc L (.int a :: st) ws n k Q := by
  subst hp; subst hl; exact fun ls H lo h1 h2 h3 h4 => lv_istore_n g.1 g.2.1 hd rfl (lc_cv h1) hn rfl (fun ls' hl' => kk ls' H lo (lc_set ho hl') h2 h3 h4)
theorem k_iinc {i : Nat} {z : Int} {a b : Int32} {L' : List Value} (g : GK Z G t A cc own D mc ms) (hd : decode cc pc = .ok (.iinc i z, 3)) (hp : pc + 3 = pc') (ha : L[i]? = some (.int a)) (hv : Int32.ofInt z = b) (hn : i < Z.2.2.1) (ho : nlong L i = true) (hl : L.set i (.int (a + b)) = L') (kk : CW Z G A pc' L' st ws n k Q) : CW Z G A pc L st ws n k Q := by
  subst hp; subst hl; subst hv
  intro ls H lo h1 h2 h3 h4
  obtain ⟨j, hj⟩ := List.getElem?_of_mem (mem_cv ha (fun q => by cases q))
  exact lv_iinc g.1 g.2.1 hd (lc_cv h1) hj rfl hn rfl (fun ls' hl' => kk ls' H lo (lc_set ho hl') h2 h3 h4)
theorem k_iconst {z : Int} {v : Int32} (g : GK Z G t A cc own D mc ms) (hd : decode cc pc = .ok (.iconst z, 1)) (hp : pc + 1 = pc') (hv : Int32.ofInt z = v) (kk : CW Z G A pc' L (.int v :: st) ws n k Q) : CW Z G A pc L st ws n k Q := by
  subst hp; exact fun ls H lo h1 h2 h3 h4 => lv_iconst g.1 g.2.1 hd hv (kk ls H lo h1 h2 h3 h4)
theorem k_bipush {z : Int} {v : Int32} (g : GK Z G t A cc own D mc ms) (hd : decode cc pc = .ok (.bipush z, 2)) (hp : pc + 2 = pc') (hv : (Int8.ofInt z).toInt32 = v) (kk : CW Z G A pc' L (.int v :: st) ws n k Q) : CW Z G A pc L st ws n k Q := by
  subst hp; exact fun ls H lo h1 h2 h3 h4 => lv_bipush g.1 g.2.1 hd hv (kk ls H lo h1 h2 h3 h4)
theorem k_sipush {z : Int} {v : Int32} (g : GK Z G t A cc own D mc ms) (hd : decode cc pc = .ok (.sipush z, 3)) (hp : pc + 3 = pc') (hv : (Int16.ofInt z).toInt32 = v) (kk : CW Z G A pc' L (.int v :: st) ws n k Q) : CW Z G A pc L st ws n k Q := by
  subst hp; exact fun ls H lo h1 h2 h3 h4 => lv_sipush g.1 g.2.1 hd hv (kk ls H lo h1 h2 h3 h4)
theorem k_iadd {a b : Int32} (g : GK Z G t A cc own D mc ms) (hd : decode cc pc = .ok (.iadd, 1)) (hp : pc + 1 = pc') (kk : CW Z G A pc' L (.int (a + b) :: st) ws n k Q) : CW Z G A pc L (.int b :: .int a :: st) ws n k Q := by
  subst hp; exact fun ls H lo h1 h2 h3 h4 => lv_iadd g.1 g.2.1 hd (kk ls H lo h1 h2 h3 h4)
theorem k_dup {a : Nat} (g : GK Z G t A cc own D mc ms) (hd : decode cc pc = .ok (.dup, 1)) (hp : pc + 1 = pc') (kk : CW Z G A pc' L (.ref a :: .ref a :: st) ws n k Q) : CW Z G A pc L (.ref a :: st) ws n k Q := by
  subst hp; exact fun ls H lo h1 h2 h3 h4 => lv_dup g.1 g.2.1 hd rfl (kk ls H lo h1 h2 h3 h4)
theorem k_goto {off : Int} {tgt : Nat} (g : GK Z G t A cc own D mc ms) (hd : decode cc pc = .ok (.goto off, 3)) (ht : (pc : Int) + off = (tgt : Int)) (kk : CW Z G A tgt L st ws n k Q) : CW Z G A pc L st ws n k Q :=
  fun ls H lo h1 h2 h3 h4 => lv_goto g.1 g.2.1 hd ht (kk ls H lo h1 h2 h3 h4)
theorem k_cge {x y : Int32} {off : Int} {tgt : Nat} (g : GK Z G t A cc own D mc ms) (hd : decode cc pc = .ok (.if_icmp .ge off, 3)) (hp : pc + 3 = pc') (ht : (pc : Int) + off = (tgt : Int)) (kt : ¬ x < y → CW Z G A tgt L st ws n k Q) (kf : x < y → CW Z G A pc' L st ws n k Q) : CW Z G A pc L (.int y :: .int x :: st) ws n k Q := by
  subst hp; exact fun ls H lo h1 h2 h3 h4 => lv_icmp_ge g.1 g.2.1 hd ht (fun q => kt (fun z => Int32.not_le.mpr z q) ls H lo h1 h2 h3 h4) (fun q => kf (Int32.not_le.mp q) ls H lo h1 h2 h3 h4)
theorem k_obj {idx a : Nat} (g : GK Z G t A cc own D mc ms) (hd : decode cc pc = .ok (.invokespecial idx, 3)) (hp : pc + 3 = pc') (hw : Cond.methodLink own idx Lib.objectInit ∈ Ug) (hi : Cond.instanceMethod Lib.objectInit ∈ Ug) (hc : Cond.code Lib.objectInit ⟨#[0xb1]⟩ 1 none ∈ Ug) (hD : 1 ≤ D) (kk : CW Z G A pc' L [] ws n k Q) : CW Z G A pc L [.ref a] ws n k Q := by
  subst hp
  intro ls H lo h1 h2 h3 h4
  have ht := g.2.2.2.2.1
  have hR := g.2.2.2.2.2.2.2.2.2.1
  exact W.objInit g.1 g.2.1 g.2.2.2.1 (ht _ hw) (ht _ hi) (ht _ hc) rfl (by rw [g.2.2.1]; exact h1.1.1) rfl hd (by rw [hR]; exact hD) (by
    rw [hR]
    show 2 * (F0 Z.2.1.1 pc ls [Value.ref a]).monitorRoom + 0 + 12 ≤ 64 * D
    have : (F0 Z.2.1.1 pc ls [Value.ref a]).monitorRoom = 0 := rfl
    omega) (kk ls H lo h1 h2 h3 h4)
theorem k_new {C : String} {T : u_T} {N ci idx : Nat} {ty : Nat → FieldType} {fs : List Value} (g : GK Z G t A cc own D mc ms) (hd : decode cc pc = .ok (.new idx, 3)) (hp : pc + 3 = pc') (kf : Kf ci C T N ty) (hcl : Cond.classLink own idx C ∈ Ug) (hin : Cond.instantiable C N ∈ Ug) (hi : Cond.initialized C ∈ Ug) (hfs : ∀ j, j < N → defaultValue (ty j) = vp_V fs j) (hc : n + 1 ≤ mc) (hs : k + N ≤ ms) (kk : ∀ q, CW Z G A pc' L (.ref q :: st) (ws ++ [(q, .inr (ci, fs))]) (n + 1) (k + N) Q) : CW Z G A pc L st ws n k Q := by
  subst hp
  intro ls H lo h1 h2 h3 h4
  have ht := g.2.2.2.2.1
  have hR := g.2.2.2.2.2.2.2.2.2.1
  exact va_new (ci := ci) (fs := fs) (Ts := Ug) g.1 g.2.1 ht kf.1 ty kf.2.2.1 g.2.2.2.1 (ht _ hcl) (ht _ hin) (ht _ hi) g.2.2.2.2.2.2.2.1 h2 h3 h4 g.2.2.2.2.2.2.2.2.2.2.2 kf.2.1 hfs (by rw [hR]; exact hc) (by rw [hR]; exact hs) hd (fun q H1 z1 z2 z3 => kk q ls H1 lo h1 z1 z2 z3)
theorem k_newa {atype : ArrayType} {ty : FieldType} {x : Int32} {N' j : Nat} {a0 : vp_A} {c : ClassId} (g : GK Z G t A cc own D mc ms) (hd : decode cc pc = .ok (.newarray atype, 2)) (hp : pc + 2 = pc') (hty : newarray.typeOf atype = ty) (hw : Cond.arrayClass ty ∈ Ug) (hj : (tyL t)[j]? = some (c, ty)) (ha : ∀ cA : ClassId, vp_cell cA a0 = arrV cA N' (fun _ => defaultValue ty)) (hn : ¬ x < 0) (hN : x.toNatClampNeg = N') (hb : N' * componentBytes ty ≤ 536870912) (hc : n + 1 ≤ mc) (hs : k + N' ≤ ms) (kk : ∀ q, CW Z G A pc' L (.ref q :: st) (ws ++ [(q, .inl (c, a0))]) (n + 1) (k + N') Q) : CW Z G A pc L (.int x :: st) ws n k Q := by
  subst hp; subst hty
  intro ls H lo h1 h2 h3 h4
  have ht := g.2.2.2.2.1
  have hR := g.2.2.2.2.2.2.2.2.2.1
  refine va_newa g.1 g.2.1 (ht _ hw) rfl g.2.2.2.2.2.2.2.1 h2 h3 h4 g.2.2.2.2.2.2.2.2.2.2.2 ha hn hN hb (by rw [hR]; exact hc) (by rw [hR]; exact hs) hd (fun q cA H1 zK z1 z2 z3 => ?_)
  have e := k_one hj zK
  subst e
  exact kk q ls H1 lo h1 z1 z2 z3
theorem k_newq {idx N' : Nat} {x : Int32} (g : GK Z G t A cc own D mc ms) (hd : decode cc pc = .ok (.anewarray idx, 3)) (hp : pc + 3 = pc') (hcl : Cond.classLink own idx RX7 ∈ Ug) (hn : ¬ x < 0) (hN : x.toNatClampNeg = N') (hb : N' * 4 ≤ 536870912) (hc : n + 1 ≤ mc) (hs : k + N' ≤ ms) (kk : ∀ q, CW Z G A pc' L (.ref q :: st) (ws ++ [(q, .inl (t 3, N', .inr (.inr (.inr (.inr (fun _ => none))))))]) (n + 1) (k + N') Q) : CW Z G A pc L (.int x :: st) ws n k Q := by
  subst hp
  intro ls H lo h1 h2 h3 h4
  have ht := g.2.2.2.2.1
  have hR := g.2.2.2.2.2.2.2.2.2.1
  refine va_newq (C := RX7) g.1 g.2.1 g.2.2.2.1 (ht _ hcl) g.2.2.2.2.2.2.2.2.1.2.2.2.2 g.2.2.2.2.2.2.2.1 h2 h3 h4 g.2.2.2.2.2.2.2.2.2.2.2 hn hN hb (by rw [hR]; exact hc) (by rw [hR]; exact hs) hd (fun q cA H1 zK z1 z2 z3 => ?_)
  have e := k_one (j := 3) rfl zK
  subst e
  exact kk q ls H1 lo h1 z1 z2 z3
theorem k_put {idx ci f q0 N a : Nat} {C : String} {T : u_T} {ty0 : Nat → FieldType} {fin : Bool} {ty : FieldType} {v : Value} {fs : List Value} {ws' : va_W} (g : GK Z G t A cc own D mc ms) (hd : decode cc pc = .ok (.putfield idx, 3)) (hp : pc + 3 = pc') (fl : Fl own idx ci f C T N ty0 fin) (hC : C = own) (he : ws[q0]? = some (a, .inr (ci, fs))) (hpd : parseFieldDescriptor (T f).2.2.1 = some ty) (hnr : narrow ty v = v) (hfit : fits ty v = true) (hl : f < fs.length) (hw : ws.set q0 (a, .inr (ci, fs.set f v)) = ws') (kk : CW Z G A pc' L st ws' n k Q) : CW Z G A pc L (v :: .ref a :: st) ws n k Q := by
  subst hp; subst hw
  intro ls H lo h1 h2 h3 h4
  have ht := g.2.2.2.2.1
  obtain ⟨kf, hk, hfin, hdec, hlk⟩ := fl
  cases fin
  · exact va_put (Ts := Ug) (C := C) g.1 g.2.1 ht kf.1 ty0 kf.2.2.1 kf.2.2.2 g.2.2.2.1 g.2.2.2.2.2.2.2.1 h2 h3 h4 q0 he kf.2.1 f hk (ht _ hlk) (fun _ h9 => by rw [hdec] at h9; exact h9) hfin hpd hnr hfit hl hd (fun H1 lo1 z1 z2 z3 => kk ls H1 lo1 h1 z1 z2 z3)
  · exact va_putF (Ts := Ug) (C := C) g.1 g.2.1 ht kf.1 ty0 kf.2.2.1 kf.2.2.2 g.2.2.2.1 g.2.2.2.2.2.2.2.1 h2 h3 h4 q0 he kf.2.1 f hk (ht _ hlk) (fun _ h9 => by rw [hdec] at h9; exact h9) hfin g.2.2.2.2.2.2.2.2.2.2.1 (by rw [hdec]; exact hC) hpd hnr hfit hl hd (fun H1 lo1 z1 z2 z3 => kk ls H1 lo1 h1 z1 z2 z3)
theorem k_get {idx ci f q0 N a : Nat} {C : String} {T : u_T} {ty0 : Nat → FieldType} {fin : Bool} {v : Value} {fs : List Value} (g : GK Z G t A cc own D mc ms) (hd : decode cc pc = .ok (.getfield idx, 3)) (hp : pc + 3 = pc') (fl : Fl own idx ci f C T N ty0 fin) (he : ws[q0]? = some (a, .inr (ci, fs))) (hv : fs[f]? = some v) (kk : CW Z G A pc' L (v :: st) ws n k Q) : CW Z G A pc L (.ref a :: st) ws n k Q := by
  subst hp
  intro ls H lo h1 h2 h3 h4
  have ht := g.2.2.2.2.1
  obtain ⟨kf, hk, hfin, hdec, hlk⟩ := fl
  exact va_get (Ts := Ug) (C := C) g.1 g.2.1 ht kf.1 g.2.2.2.1 g.2.2.2.2.2.2.2.1 h2 q0 he kf.2.1 f hk (ht _ hlk) (fun _ h9 => by rw [hdec] at h9; exact h9) hv hd (kk ls H lo h1 h2 h3 h4)
theorem k_iast {q0 N a : Nat} {f : Nat → Int32} {i x : Int32} {ws' : va_W} (g : GK Z G t A cc own D mc ms) (hd : decode cc pc = .ok (.iastore, 1)) (hp : pc + 1 = pc') (he : ws[q0]? = some (a, .inl (t 0, N, .inl f))) (hin : vp_in i N) (hw : ws.set q0 (a, .inl (t 0, N, .inl (upd f i.toNatClampNeg x))) = ws') (kk : CW Z G A pc' L st ws' n k Q) : CW Z G A pc L (.int x :: .int i :: .ref a :: st) ws n k Q := by
  subst hp; subst hw
  exact fun ls H lo h1 h2 h3 h4 => va_iast g.1 g.2.1 g.2.2.2.2.2.2.2.1 h2 h3 h4 q0 0 he rfl hin hd (fun H1 lo1 z1 z2 z3 => kk ls H1 lo1 h1 z1 z2 z3)
theorem k_aast {q0 qk N a v : Nat} {f : Nat → Option Nat} {vs : List Value} {i : Int32} {ws' : va_W} (g : GK Z G t A cc own D mc ms) (hd : decode cc pc = .ok (.aastore, 1)) (hp : pc + 1 = pc') (he : ws[q0]? = some (a, .inl (t 3, N, .inr (.inr (.inr (.inr f)))))) (hv : ws[qk]? = some (v, .inr (5, vs))) (hin : vp_in i N) (hw : ws.set q0 (a, .inl (t 3, N, .inr (.inr (.inr (.inr (va_up f i.toNatClampNeg (some v))))))) = ws') (kk : CW Z G A pc' L st ws' n k Q) : CW Z G A pc L (.ref v :: .int i :: .ref a :: st) ws n k Q := by
  subst hp; subst hw
  exact fun ls H lo h1 h2 h3 h4 => va_astq (r := (RX7, TX7, 2)) g.1 g.2.1 g.2.2.2.2.2.2.2.1 h2 h3 h4 q0 3 qk 5 he rfl hv rfl hin hd (fun H1 lo1 z1 z2 z3 => kk ls H1 lo1 h1 z1 z2 z3)
theorem nd_rng : ∀ (n : Nat), n < 60 → va_nd (List.range n) = true := by decide +kernel
/-- behind a constructor's call -/
theorem k_back {wr : va_W} {a : Nat} {e0 : va_E} {post : (Nat → Nat) → va_W} {rest : List Value} {y : MethodName} {mc' ms' : Nat} {ls : Array Slot} {H : Heap} {lo : List Loc} (g : GK Z G t A cc own D mc ms) (hl : wr.length < 60) (h1 : Lc ls Z.2.2.1 L) (h2 : va_P G vwCl (wr ++ [(a, e0)]) H) (h3 : va_D A (wr ++ [(a, e0)])) (h4 : va_S A Z.1.2.2.2.2.heap H lo)
    (hr : va_Run Z.1.1 Z.1.2.1 Z.1.2.2.1 Z.1.2.2.2.1 Z.1.2.2.2.2 Z.2.1.1 Z.2.1.2.1 Z.2.1.2.2.1 Z.2.1.2.2.2.1 Z.2.1.2.2.2.2 H lo n k mc' ms' (F0 Z.2.1.1 pc ls st) rest (fun st0 o u => o = .returned none ∧ (∃ f : Nat → Nat, va_P G vwCl (post f) u.heap ∧ va_D (va_A [(a, e0)] H.size) (post f)) ∧ va_F (va_A [(a, e0)] H.size) st0 u) (va_A [(a, e0)] H.size))
    (kk : ∀ f, CW Z G A (pc + 3) L rest (wr ++ post f) (n + mc') (k + ms') Q) : W Z.1.1 Z.1.2.1 Z.1.2.2.1 Z.1.2.2.2.1 Z.1.2.2.2.2 Z.2.1.1 Z.2.1.2.1 Z.2.1.2.2.1 Z.2.1.2.2.2.1 Z.2.1.2.2.2.2 H lo n k Q (F0 Z.2.1.1 pc ls st) := by
  intro T hT X
  obtain ⟨v, st₀, u, T', L', h0, X', hL, e1, e2, ⟨hv, ⟨f, hP1, hD1⟩, hz, hk⟩, stp⟩ := hr T hT X
  rw [h0] at hz hk
  have hv2 : v = none := by injection hv
  have hFc := va_free (wc := [(a, e0)]) h3 h4 g.2.2.2.2.2.2.2.2.2.2.2 [wr.length] (by simp)
  obtain ⟨hP, hD⟩ := va_join (wr := wr) (wc := [(a, e0)]) (w1 := post f) (H1 := u.heap) h2 h3 [wr.length] (List.range wr.length) (by simp) (by
    apply List.ext_getElem?
    intro i
    by_cases hi : i < wr.length
    · rw [List.getElem?_map, List.getElem?_range hi, List.getElem?_map]
      simp [List.getElem?_append_left hi, List.getElem?_eq_getElem hi]
    · rw [List.getElem?_eq_none (by simp; omega), List.getElem?_eq_none (by simp; omega)]) (nd_rng _ hl) (fun i hi hc => by
      have := List.mem_range.mp hi
      simp at hc
      omega) hk hFc hP1 hD1
  obtain ⟨t2, a1, b1⟩ := kk f ls T'.heap (lo ++ L') h1 (by rw [e1]; exact hP) hD ⟨Nat.le_trans h4.1 (by rw [e1]; exact hz), fun q z1 z2 => by
      rw [e1, hk q (Nat.lt_of_lt_of_le z1 h4.1) (fun z => z2 (hFc q z))]; exact h4.2.1 q z1 z2, fun q hq => by
      rcases List.mem_append.mp hq with z | z
      · exact h4.2.2 q z
      · exact hFc _ (hL q z)⟩ T' rfl X'
  rw [hv2] at stp
  exact ⟨t2, stp t2 a1, b1⟩
theorem kt_pre {wr : va_W} {a : Nat} {e0 : va_E} {As : List Value} {H : Heap} (g : GK Z G t A cc own D mc ms) (h2 : va_P G vwCl (wr ++ [(a, e0)]) H) : PreS Z.1.2.2.2.2 H (va_Pc (.ref a :: As) (fun U => U.heap.size = H.size ∧ va_P G vwCl [(a, e0)] U.heap ∧ va_K G vwCl (tyL t) U ∧ NW U)) (.ref a :: As) := by
  refine ⟨fun x U gg mk q => ?_, fun U hU hW => ⟨rfl, by rw [hU], ?_, va_K.moved hW.alike g.2.2.2.2.2.2.2.1, g.2.2.2.2.2.2.2.2.1.warm hW⟩⟩
  · obtain ⟨q0, q1, qP, qK, qN⟩ := q
    exact ⟨q0, q1, qP, va_K.moved (u := U) (U := U.calling gg mk x) (Vm.Alike.refl U.vm) qK, qN.same (U := U.calling gg mk x) rfl⟩
  · rw [hU]
    intro i q hq
    refine h2 (wr.length + i) q ?_
    rw [List.getElem?_append_right (by omega)]
    simpa using hq
theorem k_init {y : MethodName} {bytes : ByteArray} {maxL np idx d' mc' ms' a : Nat} {e0 : va_E} {As rest : List Value} {wr : va_W} {post : (Nat → Nat) → va_W} (g : GK Z G t A cc own D mc ms) (hd : decode cc pc = .ok (.invokespecial idx, 3)) (hp : pc + 3 = pc') (hw : Cond.methodLink own idx y ∈ Ug) (mw : Mw y bytes maxL none np) (hi : Cond.instanceMethod y ∈ Ug) (hy : y.name = "<init>") (hD : d' + 1 ≤ D) (hC : Kt Z.1.2.1 G t d' mc' ms' y bytes maxL (.ref a :: As) a e0 post) (hn : As.length = np) (hst : st = As.reverse ++ .ref a :: rest) (hws : ws = wr ++ [(a, e0)]) (hl : wr.length < 60) (hcat : (rest.map fun v => v.category).sum ≤ 8) (hc : n + mc' ≤ mc) (hs : k + ms' ≤ ms)
    (kk : ∀ f, CW Z G A pc' L rest (wr ++ post f) (n + mc') (k + ms') Q) : CW Z G A pc L st ws n k Q := by
  subst hp; subst hws
  intro ls H lo h1 h2 h3 h4
  have ht := g.2.2.2.2.1
  have hR := g.2.2.2.2.2.2.2.2.2.1
  have cb : CallB Z.1.2.2.2.1 Z.1.2.2.2.2 Z.2.1.2.1 own idx y bytes maxL none (Cond.code y bytes maxL none :: Ug) (rmk d' mc' ms') mc' ms' np := by
    refine callB_of (Ts := Ug) (ws' := Ug) np ht (fun u hu => ?_) rfl rfl rfl (ht _ mw.2.1) (ht _ hw) mw.2.2.1 ?_
    · rcases List.mem_cons.mp hu with rfl | hu
      · exact Ug_good _ mw.1
      · exact Ug_good _ hu
    · rw [hR]
      have := mw.2.2.2
      exact ⟨show d' + 1 ≤ D from hD, show 8 + (maxL + 11) + 64 * d' ≤ 64 * D by omega⟩
  refine k_back (y := y) (mc' := mc') (ms' := ms') (rest := rest) g hl h1 h2 h3 h4 (va_runI (As := As) (rest := rest) ⟨g.1, g.2.1, g.2.2.1, g.2.2.2.1, ht⟩ (hC H.size) ⟨cb, hy, ht _ hi⟩ (kt_pre g h2) rfl hn h1.1.1 hst (lv_room hcat) hd ⟨by rw [hR]; exact hc, by rw [hR]; exact hs⟩) kk
theorem k_initN {y : MethodName} {host : String} {bytes : ByteArray} {maxL np idx d' mc' ms' a : Nat} {e0 : va_E} {As rest : List Value} {wr : va_W} {post : (Nat → Nat) → va_W} (g : GK Z G t A cc own D mc ms) (hd : decode cc pc = .ok (.invokespecial idx, 3)) (hp : pc + 3 = pc') (hw : va_Nw (.methodLinkNest own idx y host) Z.1.2.2.2.2) (mw : Mw y bytes maxL none np) (hi : Cond.instanceMethod y ∈ Ug) (hy : y.name = "<init>") (hD : d' + 1 ≤ D) (hC : Kt Z.1.2.1 G t d' mc' ms' y bytes maxL (.ref a :: As) a e0 post) (hn : As.length = np) (hst : st = As.reverse ++ .ref a :: rest) (hws : ws = wr ++ [(a, e0)]) (hl : wr.length < 60) (hcat : (rest.map fun v => v.category).sum ≤ 8) (hc : n + mc' ≤ mc) (hs : k + ms' ≤ ms)
    (kk : ∀ f, CW Z G A pc' L rest (wr ++ post f) (n + mc') (k + ms') Q) : CW Z G A pc L st ws n k Q := by
  subst hp; subst hws
  intro ls H lo h1 h2 h3 h4
  have ht := g.2.2.2.2.1
  have hR := g.2.2.2.2.2.2.2.2.2.1
  have cn : va_CN Z.1.2.2.2.1 Z.1.2.2.2.2 Z.2.1.2.1 own idx y host bytes maxL none (Cond.code y bytes maxL none :: Ug) (rmk d' mc' ms') mc' ms' np := by
    refine va_cnB (Ts := Ug) (ws' := Ug) np ht (fun u hu => ?_) rfl rfl rfl hw (ht _ mw.2.1) mw.2.2.1 ?_
    · rcases List.mem_cons.mp hu with rfl | hu
      · exact Ug_good _ mw.1
      · exact Ug_good _ hu
    · rw [hR]
      have := mw.2.2.2
      exact ⟨show d' + 1 ≤ D from hD, show 8 + (maxL + 11) + 64 * d' ≤ 64 * D by omega⟩
  refine k_back (y := y) (mc' := mc') (ms' := ms') (rest := rest) g hl h1 h2 h3 h4 (va_runIN (As := As) (rest := rest) ⟨g.1, g.2.1, g.2.2.1, g.2.2.2.1, ht⟩ (hC H.size) ⟨cn, hy, ht _ hi⟩ (kt_pre g h2) rfl hn h1.1.1 hst (lv_room hcat) hd ⟨by rw [hR]; exact hc, by rw [hR]; exact hs⟩) kk
end KRows
/-- a contract out of a walk -/
theorem kt_of {l : Launch} {G : va_G} {t : Nat → ClassId} {d mc ms : Nat} {y : MethodName} {cc : ByteArray} {nL : Nat} {av : List Value} {h0 : Nat} {e0 : va_E} {post : (Nat → Nat) → va_W} (L0 : List Value) (hy : plainName y.cls = true) (hyn : y.name = "<init>") (hlen : (lg_sl av).length ≤ nL) (hL0 : lvp av nL = L0)
    (h : ∀ (Z : Zx) (A : Nat → Prop), Z.1.2.1 = l → Z.2.2.1 = nL → GK Z G t A cc y.cls d mc ms → A = va_A [(h0, e0)] Z.1.2.2.2.2.heap.size → (∀ f (n : Nat), decode cc n = .ok (.return_, 1) → CW Z G A n L0 [] (post f) mc ms (MQ Z.2.1.2.2.1 (fun _ st o u => o = .returned none ∧ (∃ f : Nat → Nat, va_P G vwCl (post f) u.heap ∧ va_D A (post f)) ∧ va_F A st u) Z.2.1.2.1 Z.1.2.2.2.2 mc ms A)) → (∀ f (n : Nat) (L : List Value), decode cc n = .ok (.return_, 1) → CW Z G A n L [] (post f) mc ms (MQ Z.2.1.2.2.1 (fun _ st o u => o = .returned none ∧ (∃ f : Nat → Nat, va_P G vwCl (post f) u.heap ∧ va_D A (post f)) ∧ va_F A st u) Z.2.1.2.1 Z.1.2.2.2.2 mc ms A)) → CW Z G A 0 L0 [] [(h0, e0)] 0 0 (MQ Z.2.1.2.2.1 (fun _ st o u => o = .returned none ∧ (∃ f : Nat → Nat, va_P G vwCl (post f) u.heap ∧ va_D A (post f)) ∧ va_F A st u) Z.2.1.2.1 Z.1.2.2.2.2 mc ms A)) : Kt l G t d mc ms y cc nL av h0 e0 post := by
  intro sz
  refine Met.ofW (cc := cc) (maxL := nL) (ret := none) hy rfl ?_
  intro p e s m args below meth c s₁ B hml hv
  obtain ⟨rfl, rfl, hP, hK, hN⟩ := hv
  have hts := atoms_spec (ws := Cond.code y cc nL none :: Ug) B.pre
  have hl := lv_entry av (n := nL) hlen
  rw [lg_entry_eq]
  have g : GK ((p, l, e, rmk d mc ms, s), (m, av.toArray, below, meth, c), nL, none) G t (va_A [(h0, e0)] s.heap.size) cc y.cls d mc ms := ⟨B.exec, B.bytes, hml, findClass_of_methodNamed B.named, fun u hu => hts u (List.mem_cons_of_mem _ hu), B.notSynchronized, B.returns, hK, hN, rfl, by rw [← hyn]; exact (name_of_methodNamed B.named B.method).1, fun q hq => Or.inr hq⟩
  have ret : ∀ f (n : Nat) (L : List Value), decode cc n = .ok (.return_, 1) → CW ((p, l, e, rmk d mc ms, s), (m, av.toArray, below, meth, c), nL, none) G (va_A [(h0, e0)] s.heap.size) n L [] (post f) mc ms (MQ below (fun _ st o u => o = .returned none ∧ (∃ f : Nat → Nat, va_P G vwCl (post f) u.heap ∧ va_D (va_A [(h0, e0)] s.heap.size) (post f)) ∧ va_F (va_A [(h0, e0)] s.heap.size) st u) av.toArray s mc ms (va_A [(h0, e0)] s.heap.size)) := by
    intro f n L hd ls H lo h1 h2 h3 h4
    exact W.vret B.exec B.bytes B.returns (fun u hu hW => ⟨rfl, ⟨f, by rw [hu]; exact h2, h3⟩, h4.F hu⟩) h4.2.2 hd B.notSynchronized
  have k := h ((p, l, e, rmk d mc ms, s), (m, av.toArray, below, meth, c), nL, none) (va_A [(h0, e0)] s.heap.size) rfl rfl g rfl (fun f n hd => ret f n L0 hd) ret _ s.heap [] (show Lc _ nL L0 from ⟨⟨hl.1, hl.2.1, fun q hq => by cases hq⟩, fun i v hi hv => hl.2.2 (i, v) (lvp_mem (by rw [hL0]; exact hi) hv)⟩) hP ⟨fun i j p q hp hq _ => ?_, fun i q hq => ?_⟩ va_S.rf
  · exact k
  · have z1 : i < 1 := (List.getElem?_eq_some_iff.mp hp).1
    have z2 : j < 1 := (List.getElem?_eq_some_iff.mp hq).1
    omega
  · have z1 : i < 1 := (List.getElem?_eq_some_iff.mp hq).1
    have : i = 0 := by omega
    subst this
    cases hq
    exact Or.inl ⟨0, e0, rfl⟩
