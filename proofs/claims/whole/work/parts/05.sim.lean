/-! THE ABSTRACT MACHINE. A world is a fixed set of cells; a memory is what their number slots hold; 'Sim .. F' says: if the pure value F is some (r, M'), the machine comes from here to its method's end with answer r and memory M'. -/
/-- the words that every contract takes: the tables' good ones -/
def Ug : List Cond := lw_tbl.filter goodWord
theorem Ug_good : GoodIn Ug Ug := fun w h => ⟨h, good_of_word (List.mem_filter.mp h).2⟩
theorem Ug_tbl {w : Cond} (h : w ∈ Ug) : w ∈ lw_tbl := (List.mem_filter.mp h).1
theorem ug_t {w : Cond} (h : w ∈ tables_1) (g : goodWord w = true) : w ∈ Ug := List.mem_filter.mpr ⟨List.mem_append_right _ h, g⟩
theorem ug_1 {w : Cond} (h : w ∈ tables_1_1) (g : goodWord w = true) : w ∈ Ug := ug_t (List.mem_append_left _ h) g
theorem ug_2 {w : Cond} (h : w ∈ tables_1_2) (g : goodWord w = true) : w ∈ Ug := ug_t (List.mem_append_right _ (List.mem_append_left _ h)) g
theorem ug_3 {w : Cond} (h : w ∈ tables_1_3) (g : goodWord w = true) : w ∈ Ug := ug_t (List.mem_append_right _ (List.mem_append_right _ (List.mem_append_left _ h))) g
theorem ug_4 {w : Cond} (h : w ∈ tables_1_4) (g : goodWord w = true) : w ∈ Ug := ug_t (List.mem_append_right _ (List.mem_append_right _ (List.mem_append_right _ (List.mem_append_left _ h)))) g
theorem ug_5 {w : Cond} (h : w ∈ tables_1_5) (g : goodWord w = true) : w ∈ Ug := ug_t (List.mem_append_right _ (List.mem_append_right _ (List.mem_append_right _ (List.mem_append_right _ (List.mem_append_left _ h))))) g
theorem ug_6 {w : Cond} (h : w ∈ tables_1_6) (g : goodWord w = true) : w ∈ Ug := ug_t (List.mem_append_right _ (List.mem_append_right _ (List.mem_append_right _ (List.mem_append_right _ (List.mem_append_right _ h))))) g
theorem ug_p {q : MethodName × Nat} (h : q ∈ lw_privs) : Cond.selects q.1.cls q.1 q.1 ∈ Ug := List.mem_filter.mpr ⟨List.mem_append_left _ (List.mem_map.mpr ⟨q, h, rfl⟩), rfl⟩
/-- a memory: what cell a holds at slot i, whole numbers of 32 and of 64 bits -/
abbrev Mm : Type := (Nat → Nat → Int32) × (Nat → Nat → Int64)
def wI (M : Mm) (a i : Nat) (v : Int32) : Mm := (fun b => if b = a then upd (M.1 a) i v else M.1 b, M.2)
def wL (M : Mm) (a i : Nat) (v : Int64) : Mm := (M.1, fun b => if b = a then vp_updL (M.2 a) i v else M.2 b)
/-- a whole row of a cell -/
def wR (M : Mm) (a : Nat) (f : Nat → Int32) : Mm := (fun b => if b = a then f else M.1 b, M.2)
abbrev Rs : Type := Option (Int32 × Mm)
def bd (x : Rs) (G : Int32 → Mm → Rs) : Rs := match x with
  | none => none
  | some (r, m) => G r m
def lt' {α β : Type} (a : α) (k : α → β) : β := k a
abbrev ix (i : Int32) : Nat := i.toNatClampNeg
def inb (i : Int32) (n : Nat) : Bool := decide (0 ≤ i.toInt) && decide (i.toInt < (n : Int))
theorem inb_in {i : Int32} {n : Nat} (h : inb i n = true) : vp_in i n := by
  unfold inb at h
  simp only [Bool.and_eq_true, decide_eq_true_eq] at h
  exact vp_in_iff.mpr h
def bz (v : Int32) : Bool := decide (v = 0) || decide (v = 1)
theorem bz_nar {v : Int32} (h : bz v = true) : narrow .boolean (.int v) = .int v := by
  unfold bz at h
  simp only [Bool.or_eq_true, decide_eq_true_eq] at h
  rcases h with rfl | rfl <;> rfl
theorem bz_fits {v : Int32} (h : bz v = true) : fits .boolean (.int v) = true := by
  unfold bz at h
  simp only [Bool.or_eq_true, decide_eq_true_eq] at h
  rcases h with rfl | rfl <;> rfl
/-- what a world is made of: the classes' numbers and slots; the cells' addresses; the array classes (ints, longs, booleans, rules); the static tables -/
abbrev W0 : Type := va_G × (Nat → Nat) × (Nat → ClassId) × (Nat → Nat)
abbrev rf (w : W0) (k : Nat) : Value := .ref (w.2.1 k)
abbrev Ent : Type := W0 → Nat → (Nat → Int32) → (Nat → Int64) → va_E
/-- a kind of world: how many cells, what each is, whether it knows the static tables -/
abbrev Wk : Type := Nat × Ent × Bool
def wsOf (K : Wk) (w : W0) (M : Mm) : va_W := (List.range K.1).map fun k => (w.2.1 k, K.2.1 w k (M.1 k) (M.2 k))
theorem wsOf_get {K : Wk} {w : W0} {M : Mm} {k : Nat} (h : k < K.1) : (wsOf K w M)[k]? = some (w.2.1 k, K.2.1 w k (M.1 k) (M.2 k)) := by
  unfold wsOf
  rw [List.getElem?_map, List.getElem?_range h]
  rfl
theorem wsOf_of {K : Wk} {w : W0} {M : Mm} {k : Nat} {q : Nat × va_E} (h : (wsOf K w M)[k]? = some q) : k < K.1 ∧ q = (w.2.1 k, K.2.1 w k (M.1 k) (M.2 k)) := by
  have hl : k < K.1 := by
    have h1 := (List.getElem?_eq_some_iff.mp h).1
    unfold wsOf at h1
    simpa using h1
  rw [wsOf_get hl] at h
  exact ⟨hl, (Option.some.inj h).symm⟩
/-- the cells that a world may change -/
def AV (K : Wk) (w : W0) : Nat → Prop := fun a => ∃ k, k < K.1 ∧ a = w.2.1 k
def Apart (K : Wk) (w : W0) : Prop := ∀ i j, i < K.1 → j < K.1 → w.2.1 i = w.2.1 j → i = j
theorem ap_D {K : Wk} {w : W0} (h : Apart K w) (M : Mm) : va_D (AV K w) (wsOf K w M) := by
  refine ⟨fun i j p q hp hq he => ?_, fun k q hk => ?_⟩
  · obtain ⟨h1, rfl⟩ := wsOf_of hp
    obtain ⟨h2, rfl⟩ := wsOf_of hq
    exact h i j h1 h2 he
  · obtain ⟨h1, rfl⟩ := wsOf_of hk
    exact ⟨k, h1, rfl⟩
theorem wsOf_set {K : Wk} {w : W0} {M M' : Mm} {k : Nat} {e : va_E} (hk : k < K.1) (he : e = K.2.1 w k (M'.1 k) (M'.2 k)) (h1 : ∀ j, j ≠ k → M'.1 j = M.1 j) (h2 : ∀ j, j ≠ k → M'.2 j = M.2 j) : (wsOf K w M).set k (w.2.1 k, e) = wsOf K w M' := by
  apply List.ext_getElem?
  intro j
  by_cases hj : j = k
  · subst hj
    rw [List.getElem?_set_self (by unfold wsOf; simpa using hk), wsOf_get hk, he]
  · rw [List.getElem?_set_ne (fun q => hj q.symm)]
    by_cases hl : j < K.1
    · rw [wsOf_get hl, wsOf_get hl, h1 j hj, h2 j hj]
    · rw [List.getElem?_eq_none (by unfold wsOf; simpa using hl), List.getElem?_eq_none (by unfold wsOf; simpa using hl)]
def tysOf (w : W0) : List (ClassId × FieldType) := [(w.2.2.1 0, .int), (w.2.2.1 1, .long), (w.2.2.1 2, .boolean), (w.2.2.1 3, .object "FerryPlans$Rule")]
def g0 (j : Nat) : Int32 := match j with | 2 => 999 | 5 => 9 | _ => 99
def g1 (j : Nat) : Int32 := match j with | 0 => 1 | _ => 0
def g2 (j : Nat) : Int32 := match j with | 0 => 50 | 1 => 999 | _ => 4
def yAlike : MethodName := ⟨"FerryPlans", "alike", "(III)I"⟩
/-- the static tables of the class, and the one link between nest mates that a method of a made object uses -/
def Sg (w : W0) (A : Nat → Prop) (U : State) (H : Heap) : Prop :=
  va_Z "FerryPlans" "GREATEST" "[I" (.ref (w.2.2.2 0)) A U H ∧ va_T .int (w.2.2.2 0) 6 (fun j => .int (g0 j)) A U H ∧
  va_Z "FerryPlans" "COMMON_LEAST" "[I" (.ref (w.2.2.2 1)) A U H ∧ va_T .int (w.2.2.2 1) 3 (fun j => .int (g1 j)) A U H ∧
  va_Z "FerryPlans" "COMMON_GREATEST" "[I" (.ref (w.2.2.2 2)) A U H ∧ va_T .int (w.2.2.2 2) 3 (fun j => .int (g2 j)) A U H ∧
  va_Nw (.methodLinkNest "FerryPlans$Laws" 62 yAlike "FerryPlans") U
theorem Sg.warm {w : W0} {A : Nat → Prop} {s U : State} {H : Heap} (hW : s.WarmedH U.vm) (h : Sg w A s H) : Sg w A U H := by
  obtain ⟨h1, h2, h3, h4, h5, h6, h7⟩ := h
  exact ⟨h1.moved hW.alike, h2.moved hW.alike, h3.moved hW.alike, h4.moved hW.alike, h5.moved hW.alike, h6.moved hW.alike, va_Nw.warmM hW h7⟩
theorem Sg.same {w : W0} {A : Nat → Prop} {s U : State} {H : Heap} (hv : s.vm = U.vm) (h : Sg w A s H) : Sg w A U H := by
  obtain ⟨h1, h2, h3, h4, h5, h6, h7⟩ := h
  have ha : s.vm.Alike U.vm := by rw [hv]; exact Vm.Alike.refl _
  exact ⟨h1.moved ha, h2.moved ha, h3.moved ha, h4.moved ha, h5.moved ha, h6.moved ha, va_Nw.same rfl hv h7⟩
theorem Sg.kept {w : W0} {A : Nat → Prop} {U : State} {H H1 : Heap} (h : Sg w A U H) (hq : ∀ a : Nat, a < H.size → ¬ A a → H1[a]? = H[a]?) : Sg w A U H1 := by
  obtain ⟨h1, h2, h3, h4, h5, h6, h7⟩ := h
  exact ⟨h1.kept hq, h2.kept hq, h3.kept hq, h4.kept hq, h5.kept hq, h6.kept hq, h7⟩
def Ex (K : Wk) (w : W0) (U : State) (H : Heap) : Prop := K.2.2 = true → Sg w (AV K w) U H
/-- a method's start -/
def PreM (K : Wk) (w : W0) (M : Mm) : State → Prop := fun U => va_P w.1 vwCl (wsOf K w M) U.heap ∧ va_K w.1 vwCl (tysOf w) U ∧ Apart K w ∧ Ex K w U U.heap
/-- a method's end -/
def Qof (K : Wk) (w : W0) (vd : Bool) (r : Int32) (M' : Mm) : Array Value → State → Outcome → State → Prop := fun _ st o t =>
  o = .returned (if vd then none else some (.int r)) ∧ va_P w.1 vwCl (wsOf K w M') t.heap ∧ va_F (AV K w) st t
def rmd (d : Nat) : Room := { frames := d, cells := 0, slots := 0, locals := 64 * d }
/-- a method's contract: from memory M, with these arguments, what F says -/
def Ct (l : Launch) (K : Wk) (w : W0) (d : Nat) (y : MethodName) (cc : ByteArray) (nL : Nat) (ret : Option FieldType) (av : List Value) (M : Mm) (F : Rs) : Prop :=
  ∀ r M', F = some (r, M') → Met l y (Cond.code y cc nL ret :: Ug) (rmd d) (va_Pc av (PreM K w M)) (Qof K w ret.isNone r M') 0 0 (AV K w)
theorem blindM {K : Wk} {w : W0} {M : Mm} {av : List Value} : FrameBlind (va_Pc av (PreM K w M)) := by
  intro a U g mk h
  obtain ⟨h0, h1, h2, h3, h4⟩ := h
  exact ⟨h0, h1, va_K.moved (u := U) (U := U.calling g mk a) (Vm.Alike.refl U.vm) h2, h3, fun q => (h4 q).same (U := U.calling g mk a) rfl⟩
/-- the machine around a stretch of code: program, launch, oracle, room, start, method, arguments, frames below, method and code; how many locals; what it returns -/
abbrev Zx : Type := (Program × Launch × Env × Room × State) × (MethodId × Array Value × List Frame × Method × Code) × Nat × Option FieldType
def Lc (ls : Array Slot) (nL : Nat) (L : List Value) : Prop := lv_has ls nL [] ∧ ∀ (i : Nat) (v : Value), L[i]? = some v → v ≠ .null → ls[i]? = some (.val v)
def WZ (Z : Zx) (H : Heap) (locs : List Loc) (Q : State → Prop) (g : JFrame) : Prop := W Z.1.1 Z.1.2.1 Z.1.2.2.1 Z.1.2.2.2.1 Z.1.2.2.2.2 Z.2.1.1 Z.2.1.2.1 Z.2.1.2.2.1 Z.2.1.2.2.2.1 Z.2.1.2.2.2.2 H locs 0 0 Q g
def QZ (K : Wk) (w : W0) (Z : Zx) (r : Int32) (M' : Mm) : State → Prop := MQ Z.2.1.2.2.1 (Qof K w Z.2.2.2.isNone r M') Z.2.1.2.1 Z.1.2.2.2.2 0 0 (AV K w)
def Sim (K : Wk) (w : W0) (Z : Zx) (pc : Nat) (L st : List Value) (M : Mm) (F : Rs) : Prop :=
  ∀ r M', F = some (r, M') → ∀ (ls : Array Slot) (H : Heap) (locs : List Loc), Lc ls Z.2.2.1 L → va_P w.1 vwCl (wsOf K w M) H → va_S (AV K w) Z.1.2.2.2.2.heap H locs → WZ Z H locs (QZ K w Z r M') (F0 Z.2.1.1 pc ls st)
/-- what holds around a method's body -/
def Good (K : Wk) (w : W0) (Z : Zx) (cc : ByteArray) (own : String) (D : Nat) : Prop :=
  Z.1.1.tables.exec = Jvm.exec ∧ Z.2.1.2.2.2.2.code = cc ∧ Z.2.1.2.2.2.2.maxLocals = Z.2.2.1 ∧ Z.1.2.2.2.2.vm.findClass own = some Z.2.1.1.cls ∧ (∀ u ∈ Ug, u.before Z.2.1.2.1 Z.1.2.2.2.2 = true) ∧ Z.2.1.2.2.2.1.locks = false ∧ Z.2.1.2.2.2.1.sig.returnType = Z.2.2.2 ∧ va_K w.1 vwCl (tysOf w) Z.1.2.2.2.2 ∧ Apart K w ∧ Ex K w Z.1.2.2.2.2 Z.1.2.2.2.2.heap ∧ Z.1.2.2.2.1 = rmd D
section Rows
variable {K : Wk} {w : W0} {Z : Zx} {cc : ByteArray} {own : String} {D pc pc' : Nat} {L st : List Value} {M : Mm} {F A B : Rs}
theorem r_none : Sim K w Z pc L st M none := fun r M' h => by cases h
theorem r_lt {α : Type} {a : α} {k : α → Rs} (h : ∀ j, j = a → Sim K w Z pc L st M (k j)) : Sim K w Z pc L st M (lt' a k) := h a rfl
theorem r_ltM {k : Mm → Rs} (h : ∀ M1, Sim K w Z pc L st M1 (k M1)) : Sim K w Z pc L st M (lt' M k) := h M
theorem r_ltI {x : Int32} {k : Int32 → Rs} (h : ∀ y, Sim K w Z pc L (.int y :: st) M (k y)) : Sim K w Z pc L (.int x :: st) M (lt' x k) := h x
theorem r_ltL {x : Int64} {k : Int64 → Rs} (h : ∀ y, Sim K w Z pc L (.long y :: st) M (k y)) : Sim K w Z pc L (.long x :: st) M (lt' x k) := h x
theorem r_iadd {a b : Int32} (g : Good K w Z cc own D) (hd : decode cc pc = .ok (.iadd, 1)) (hp : pc + 1 = pc') (k : Sim K w Z pc' L (.int (a + b) :: st) M F) : Sim K w Z pc L (.int b :: .int a :: st) M F := by
  subst hp; exact fun r M' h ls H lo h1 h2 h3 => lv_iadd g.1 g.2.1 hd (k r M' h ls H lo h1 h2 h3)
theorem r_isub {a b : Int32} (g : Good K w Z cc own D) (hd : decode cc pc = .ok (.isub, 1)) (hp : pc + 1 = pc') (k : Sim K w Z pc' L (.int (a - b) :: st) M F) : Sim K w Z pc L (.int b :: .int a :: st) M F := by
  subst hp; exact fun r M' h ls H lo h1 h2 h3 => lv_isub g.1 g.2.1 hd (k r M' h ls H lo h1 h2 h3)
theorem r_imul {a b : Int32} (g : Good K w Z cc own D) (hd : decode cc pc = .ok (.imul, 1)) (hp : pc + 1 = pc') (k : Sim K w Z pc' L (.int (a * b) :: st) M F) : Sim K w Z pc L (.int b :: .int a :: st) M F := by
  subst hp; exact fun r M' h ls H lo h1 h2 h3 => lv_imul g.1 g.2.1 hd (k r M' h ls H lo h1 h2 h3)
theorem r_iand {a b : Int32} (g : Good K w Z cc own D) (hd : decode cc pc = .ok (.iand, 1)) (hp : pc + 1 = pc') (k : Sim K w Z pc' L (.int (a &&& b) :: st) M F) : Sim K w Z pc L (.int b :: .int a :: st) M F := by
  subst hp; exact fun r M' h ls H lo h1 h2 h3 => lv_iand g.1 g.2.1 hd (k r M' h ls H lo h1 h2 h3)
theorem r_ior {a b : Int32} (g : Good K w Z cc own D) (hd : decode cc pc = .ok (.ior, 1)) (hp : pc + 1 = pc') (k : Sim K w Z pc' L (.int (a ||| b) :: st) M F) : Sim K w Z pc L (.int b :: .int a :: st) M F := by
  subst hp; exact fun r M' h ls H lo h1 h2 h3 => lv_ior g.1 g.2.1 hd (k r M' h ls H lo h1 h2 h3)
theorem r_ixor {a b : Int32} (g : Good K w Z cc own D) (hd : decode cc pc = .ok (.ixor, 1)) (hp : pc + 1 = pc') (k : Sim K w Z pc' L (.int (a ^^^ b) :: st) M F) : Sim K w Z pc L (.int b :: .int a :: st) M F := by
  subst hp; exact fun r M' h ls H lo h1 h2 h3 => lv_ixor g.1 g.2.1 hd (k r M' h ls H lo h1 h2 h3)
theorem r_ineg {a : Int32} (g : Good K w Z cc own D) (hd : decode cc pc = .ok (.ineg, 1)) (hp : pc + 1 = pc') (k : Sim K w Z pc' L (.int (-a) :: st) M F) : Sim K w Z pc L (.int a :: st) M F := by
  subst hp; exact fun r M' h ls H lo h1 h2 h3 => lv_ineg g.1 g.2.1 hd (k r M' h ls H lo h1 h2 h3)
theorem r_ishl {a b : Int32} (g : Good K w Z cc own D) (hd : decode cc pc = .ok (.ishl, 1)) (hp : pc + 1 = pc') (k : Sim K w Z pc' L (.int (a <<< (b &&& 31)) :: st) M F) : Sim K w Z pc L (.int b :: .int a :: st) M F := by
  subst hp; exact fun r M' h ls H lo h1 h2 h3 => lv_ishl g.1 g.2.1 hd (k r M' h ls H lo h1 h2 h3)
theorem r_ishr {a b : Int32} (g : Good K w Z cc own D) (hd : decode cc pc = .ok (.ishr, 1)) (hp : pc + 1 = pc') (k : Sim K w Z pc' L (.int (a >>> (b &&& 31)) :: st) M F) : Sim K w Z pc L (.int b :: .int a :: st) M F := by
  subst hp; exact fun r M' h ls H lo h1 h2 h3 => lv_ishr g.1 g.2.1 hd (k r M' h ls H lo h1 h2 h3)
def ushr (x y : Int32) : Int32 := (x.toUInt32 >>> (y.toUInt32 &&& Int32.toUInt32 31)).toInt32
theorem r_iushr {a b : Int32} (g : Good K w Z cc own D) (hd : decode cc pc = .ok (.iushr, 1)) (hp : pc + 1 = pc') (k : Sim K w Z pc' L (.int (ushr a b) :: st) M F) : Sim K w Z pc L (.int b :: .int a :: st) M F := by
  subst hp; exact fun r M' h ls H lo h1 h2 h3 => lv_iushr g.1 g.2.1 hd rfl (k r M' h ls H lo h1 h2 h3)
theorem r_idiv {a b : Int32} (g : Good K w Z cc own D) (hd : decode cc pc = .ok (.idiv, 1)) (hp : pc + 1 = pc') (hb : ¬ b = 0) (k : Sim K w Z pc' L (.int (a / b) :: st) M F) : Sim K w Z pc L (.int b :: .int a :: st) M F := by
  subst hp; exact fun r M' h ls H lo h1 h2 h3 => lv_idiv g.1 g.2.1 hd hb (k r M' h ls H lo h1 h2 h3)
theorem r_irem {a b : Int32} (g : Good K w Z cc own D) (hd : decode cc pc = .ok (.irem, 1)) (hp : pc + 1 = pc') (hb : ¬ b = 0) (k : Sim K w Z pc' L (.int (a - a / b * b) :: st) M F) : Sim K w Z pc L (.int b :: .int a :: st) M F := by
  subst hp; exact fun r M' h ls H lo h1 h2 h3 => lv_irem g.1 g.2.1 hd hb (k r M' h ls H lo h1 h2 h3)
theorem r_land {a b : Int64} (g : Good K w Z cc own D) (hd : decode cc pc = .ok (.land, 1)) (hp : pc + 1 = pc') (k : Sim K w Z pc' L (.long (a &&& b) :: st) M F) : Sim K w Z pc L (.long b :: .long a :: st) M F := by
  subst hp; exact fun r M' h ls H lo h1 h2 h3 => lv_land g.1 g.2.1 hd (k r M' h ls H lo h1 h2 h3)
theorem r_lor {a b : Int64} (g : Good K w Z cc own D) (hd : decode cc pc = .ok (.lor, 1)) (hp : pc + 1 = pc') (k : Sim K w Z pc' L (.long (a ||| b) :: st) M F) : Sim K w Z pc L (.long b :: .long a :: st) M F := by
  subst hp; exact fun r M' h ls H lo h1 h2 h3 => lv_lor g.1 g.2.1 hd (k r M' h ls H lo h1 h2 h3)
def lshl (x : Int64) (y : Int32) : Int64 := x <<< (y.toInt64 &&& 63)
def lshr (x : Int64) (y : Int32) : Int64 := x >>> (y.toInt64 &&& 63)
def lushr (x : Int64) (y : Int32) : Int64 := (x.toUInt64 >>> (y.toInt64.toUInt64 &&& Int64.toUInt64 63)).toInt64
theorem r_lshl {a : Int64} {b : Int32} (g : Good K w Z cc own D) (hd : decode cc pc = .ok (.lshl, 1)) (hp : pc + 1 = pc') (k : Sim K w Z pc' L (.long (lshl a b) :: st) M F) : Sim K w Z pc L (.int b :: .long a :: st) M F := by
  subst hp; exact fun r M' h ls H lo h1 h2 h3 => lv_lshl g.1 g.2.1 hd rfl (k r M' h ls H lo h1 h2 h3)
theorem r_lshr {a : Int64} {b : Int32} (g : Good K w Z cc own D) (hd : decode cc pc = .ok (.lshr, 1)) (hp : pc + 1 = pc') (k : Sim K w Z pc' L (.long (lshr a b) :: st) M F) : Sim K w Z pc L (.int b :: .long a :: st) M F := by
  subst hp; exact fun r M' h ls H lo h1 h2 h3 => lv_lshr g.1 g.2.1 hd rfl (k r M' h ls H lo h1 h2 h3)
theorem r_lushr {a : Int64} {b : Int32} (g : Good K w Z cc own D) (hd : decode cc pc = .ok (.lushr, 1)) (hp : pc + 1 = pc') (k : Sim K w Z pc' L (.long (lushr a b) :: st) M F) : Sim K w Z pc L (.int b :: .long a :: st) M F := by
  subst hp; exact fun r M' h ls H lo h1 h2 h3 => lv_lushr g.1 g.2.1 hd rfl (k r M' h ls H lo h1 h2 h3)
theorem r_lcmp {a b : Int64} (g : Good K w Z cc own D) (hd : decode cc pc = .ok (.lcmp, 1)) (hp : pc + 1 = pc') (k : Sim K w Z pc' L (.int (lg_cmp a b) :: st) M F) : Sim K w Z pc L (.long b :: .long a :: st) M F := by
  subst hp; exact fun r M' h ls H lo h1 h2 h3 => W.lcmp g.1 g.2.1 hd (k r M' h ls H lo h1 h2 h3)
theorem r_i2l {a : Int32} (g : Good K w Z cc own D) (hd : decode cc pc = .ok (.i2l, 1)) (hp : pc + 1 = pc') (k : Sim K w Z pc' L (.long a.toInt64 :: st) M F) : Sim K w Z pc L (.int a :: st) M F := by
  subst hp; exact fun r M' h ls H lo h1 h2 h3 => lv_i2l g.1 g.2.1 hd rfl (k r M' h ls H lo h1 h2 h3)
theorem r_l2i {a : Int64} (g : Good K w Z cc own D) (hd : decode cc pc = .ok (.l2i, 1)) (hp : pc + 1 = pc') (k : Sim K w Z pc' L (.int a.toInt32 :: st) M F) : Sim K w Z pc L (.long a :: st) M F := by
  subst hp; exact fun r M' h ls H lo h1 h2 h3 => lv_l2i g.1 g.2.1 hd rfl (k r M' h ls H lo h1 h2 h3)
theorem r_iconst {n : Int} {v : Int32} (g : Good K w Z cc own D) (hd : decode cc pc = .ok (.iconst n, 1)) (hp : pc + 1 = pc') (hv : Int32.ofInt n = v) (k : Sim K w Z pc' L (.int v :: st) M F) : Sim K w Z pc L st M F := by
  subst hp; exact fun r M' h ls H lo h1 h2 h3 => lv_iconst g.1 g.2.1 hd hv (k r M' h ls H lo h1 h2 h3)
theorem r_bipush {n : Int} {v : Int32} (g : Good K w Z cc own D) (hd : decode cc pc = .ok (.bipush n, 2)) (hp : pc + 2 = pc') (hv : (Int8.ofInt n).toInt32 = v) (k : Sim K w Z pc' L (.int v :: st) M F) : Sim K w Z pc L st M F := by
  subst hp; exact fun r M' h ls H lo h1 h2 h3 => lv_bipush g.1 g.2.1 hd hv (k r M' h ls H lo h1 h2 h3)
theorem r_sipush {n : Int} {v : Int32} (g : Good K w Z cc own D) (hd : decode cc pc = .ok (.sipush n, 3)) (hp : pc + 3 = pc') (hv : (Int16.ofInt n).toInt32 = v) (k : Sim K w Z pc' L (.int v :: st) M F) : Sim K w Z pc L st M F := by
  subst hp; exact fun r M' h ls H lo h1 h2 h3 => lv_sipush g.1 g.2.1 hd hv (k r M' h ls H lo h1 h2 h3)
theorem r_lconst {n : Fin 2} {v : Int64} (g : Good K w Z cc own D) (hd : decode cc pc = .ok (.lconst n, 1)) (hp : pc + 1 = pc') (hv : Int64.ofNat (n : Nat) = v) (k : Sim K w Z pc' L (.long v :: st) M F) : Sim K w Z pc L st M F := by
  subst hp; exact fun r M' h ls H lo h1 h2 h3 => lv_lconst g.1 g.2.1 hd hv (k r M' h ls H lo h1 h2 h3)
theorem r_ldc {i : Nat} {v : Int32} (g : Good K w Z cc own D) (hd : decode cc pc = .ok (.ldc i, 2)) (hp : pc + 2 = pc') (hw : Cond.constant own i v ∈ Ug) (k : Sim K w Z pc' L (.int v :: st) M F) : Sim K w Z pc L st M F := by
  subst hp; exact fun r M' h ls H lo h1 h2 h3 => lv_ldc g.1 g.2.1 g.2.2.2.1 (g.2.2.2.2.1 _ hw) hd (k r M' h ls H lo h1 h2 h3)
theorem r_ldcw {i : Nat} {v : Int32} (g : Good K w Z cc own D) (hd : decode cc pc = .ok (.ldc_w i, 3)) (hp : pc + 3 = pc') (hw : Cond.constant own i v ∈ Ug) (k : Sim K w Z pc' L (.int v :: st) M F) : Sim K w Z pc L st M F := by
  subst hp; exact fun r M' h ls H lo h1 h2 h3 => lv_ldcw g.1 g.2.1 g.2.2.2.1 (g.2.2.2.2.1 _ hw) hd (k r M' h ls H lo h1 h2 h3)
theorem r_ldc2 {i : Nat} {v : Int64} (g : Good K w Z cc own D) (hd : decode cc pc = .ok (.ldc2_w i, 3)) (hp : pc + 3 = pc') (hw : Cond.constantLong own i v ∈ Ug) (k : Sim K w Z pc' L (.long v :: st) M F) : Sim K w Z pc L st M F := by
  subst hp; exact fun r M' h ls H lo h1 h2 h3 => lv_ldc2 g.1 g.2.1 g.2.2.2.1 (g.2.2.2.2.1 _ hw) hd (k r M' h ls H lo h1 h2 h3)
theorem r_dupi {a : Int32} (g : Good K w Z cc own D) (hd : decode cc pc = .ok (.dup, 1)) (hp : pc + 1 = pc') (k : Sim K w Z pc' L (.int a :: .int a :: st) M F) : Sim K w Z pc L (.int a :: st) M F := by
  subst hp; exact fun r M' h ls H lo h1 h2 h3 => lv_dup g.1 g.2.1 hd rfl (k r M' h ls H lo h1 h2 h3)
theorem r_dupa {a : Nat} (g : Good K w Z cc own D) (hd : decode cc pc = .ok (.dup, 1)) (hp : pc + 1 = pc') (k : Sim K w Z pc' L (.ref a :: .ref a :: st) M F) : Sim K w Z pc L (.ref a :: st) M F := by
  subst hp; exact fun r M' h ls H lo h1 h2 h3 => lv_dup g.1 g.2.1 hd rfl (k r M' h ls H lo h1 h2 h3)
theorem r_dup2 {a : Nat} {i : Int32} (g : Good K w Z cc own D) (hd : decode cc pc = .ok (.dup2, 1)) (hp : pc + 1 = pc') (k : Sim K w Z pc' L (.int i :: .ref a :: .int i :: .ref a :: st) M F) : Sim K w Z pc L (.int i :: .ref a :: st) M F := by
  subst hp; exact fun r M' h ls H lo h1 h2 h3 => lv_dup2_11 g.1 g.2.1 hd rfl rfl (k r M' h ls H lo h1 h2 h3)
theorem r_pop {a : Int32} (g : Good K w Z cc own D) (hd : decode cc pc = .ok (.pop, 1)) (hp : pc + 1 = pc') (k : Sim K w Z pc' L st M F) : Sim K w Z pc L (.int a :: st) M F := by
  subst hp; exact fun r M' h ls H lo h1 h2 h3 => lv_pop g.1 g.2.1 hd rfl (k r M' h ls H lo h1 h2 h3)
theorem r_goto {off : Int} {tgt : Nat} (g : Good K w Z cc own D) (hd : decode cc pc = .ok (.goto off, 3)) (ht : (pc : Int) + off = (tgt : Int)) (k : Sim K w Z tgt L st M F) : Sim K w Z pc L st M F :=
  fun r M' h ls H lo h1 h2 h3 => lv_goto g.1 g.2.1 hd ht (k r M' h ls H lo h1 h2 h3)
theorem Lc.at {ls : Array Slot} {nL i : Nat} {L : List Value} {v : Value} (h : Lc ls nL L) (hl : L[i]? = some v) (hv : v ≠ .null) : ls[i]? = some (.val v) := h.2 i v hl hv
theorem r_iload_n {n : Fin 4} {a : Int32} (g : Good K w Z cc own D) (hd : decode cc pc = .ok (.iload_n n, 1)) (hp : pc + 1 = pc') (hl : L[(n : Nat)]? = some (.int a)) (k : Sim K w Z pc' L (.int a :: st) M F) : Sim K w Z pc L st M F := by
  subst hp; exact fun r M' h ls H lo h1 h2 h3 => lv_iload_n g.1 g.2.1 hd rfl (h1.at hl (fun q => by cases q)) (k r M' h ls H lo h1 h2 h3)
theorem r_iload {i : Nat} {a : Int32} (g : Good K w Z cc own D) (hd : decode cc pc = .ok (.iload i, 2)) (hp : pc + 2 = pc') (hl : L[i]? = some (.int a)) (k : Sim K w Z pc' L (.int a :: st) M F) : Sim K w Z pc L st M F := by
  subst hp; exact fun r M' h ls H lo h1 h2 h3 => lv_iload g.1 g.2.1 hd (h1.at hl (fun q => by cases q)) (k r M' h ls H lo h1 h2 h3)
theorem r_lload_n {n : Fin 4} {a : Int64} (g : Good K w Z cc own D) (hd : decode cc pc = .ok (.lload_n n, 1)) (hp : pc + 1 = pc') (hl : L[(n : Nat)]? = some (.long a)) (k : Sim K w Z pc' L (.long a :: st) M F) : Sim K w Z pc L st M F := by
  subst hp; exact fun r M' h ls H lo h1 h2 h3 => lv_lload_n g.1 g.2.1 hd rfl (h1.at hl (fun q => by cases q)) (k r M' h ls H lo h1 h2 h3)
theorem r_lload {i : Nat} {a : Int64} (g : Good K w Z cc own D) (hd : decode cc pc = .ok (.lload i, 2)) (hp : pc + 2 = pc') (hl : L[i]? = some (.long a)) (k : Sim K w Z pc' L (.long a :: st) M F) : Sim K w Z pc L st M F := by
  subst hp; exact fun r M' h ls H lo h1 h2 h3 => lv_lload g.1 g.2.1 hd (h1.at hl (fun q => by cases q)) (k r M' h ls H lo h1 h2 h3)
theorem r_aload_n {n : Fin 4} {a : Nat} (g : Good K w Z cc own D) (hd : decode cc pc = .ok (.aload_n n, 1)) (hp : pc + 1 = pc') (hl : L[(n : Nat)]? = some (.ref a)) (k : Sim K w Z pc' L (.ref a :: st) M F) : Sim K w Z pc L st M F := by
  subst hp; exact fun r M' h ls H lo h1 h2 h3 => lv_aload_n g.1 g.2.1 hd rfl (h1.at hl (fun q => by cases q)) (k r M' h ls H lo h1 h2 h3)
theorem r_aload {i : Nat} {a : Nat} (g : Good K w Z cc own D) (hd : decode cc pc = .ok (.aload i, 2)) (hp : pc + 2 = pc') (hl : L[i]? = some (.ref a)) (k : Sim K w Z pc' L (.ref a :: st) M F) : Sim K w Z pc L st M F := by
  subst hp; exact fun r M' h ls H lo h1 h2 h3 => lv_aload g.1 g.2.1 hd (h1.at hl (fun q => by cases q)) (k r M' h ls H lo h1 h2 h3)
/-- the locals as the kit lists them -/
def cv1 (i : Nat) (o : Option Value) : Option (Nat × Value) := match o with
  | some Value.null => none
  | some v => some (i, v)
  | none => none
def cv (L : List Value) : List (Nat × Value) := (List.range L.length).filterMap fun i => cv1 i L[i]?
theorem cv_mem {L : List Value} {i : Nat} {v : Value} (h : (i, v) ∈ cv L) : L[i]? = some v ∧ v ≠ .null := by
  obtain ⟨j, -, hj⟩ := List.mem_filterMap.mp h
  revert hj
  cases hq : L[j]? with
  | none => intro hj; cases hj
  | some u => cases u <;> intro hj <;> first | (cases hj; done) | (cases hj; exact ⟨hq, fun q => by cases q⟩) | (simp [cv1] at hj)
theorem mem_cv {L : List Value} {i : Nat} {v : Value} (h : L[i]? = some v) (hv : v ≠ .null) : (i, v) ∈ cv L := by
  refine List.mem_filterMap.mpr ⟨i, List.mem_range.mpr (List.getElem?_eq_some_iff.mp h).1, ?_⟩
  rw [h]
  cases v <;> first | rfl | exact (hv rfl).elim
theorem lc_cv {ls : Array Slot} {nL : Nat} {L : List Value} (h : Lc ls nL L) : lv_has ls nL (cv L) := ⟨h.1.1, h.1.2.1, fun q hq => h.2 q.1 q.2 (cv_mem hq).1 (cv_mem hq).2⟩
def nlong (L : List Value) (i : Nat) : Bool := match i with
  | 0 => true
  | j + 1 => match L[j]? with
    | some (.long _) => false
    | some (.double _) => false
    | _ => true
theorem lc_set {ls' : Array Slot} {nL i : Nat} {L : List Value} {v : Value} (hn : nlong L i = true) (h : lv_has ls' nL ((i, v) :: (cv L).filter (fun q => !(q.1 == i) && !(q.1 + 1 == i && q.2.category == 2)))) : Lc ls' nL (L.set i v) := by
  refine ⟨⟨h.1, h.2.1, fun q hq => by cases hq⟩, fun j u hj hu => ?_⟩
  by_cases hji : j = i
  · subst hji
    have hl : j < L.length := by
      have := (List.getElem?_eq_some_iff.mp hj).1
      simpa using this
    rw [List.getElem?_set_self hl] at hj
    cases hj
    exact h.2.2 _ List.mem_cons_self
  · rw [List.getElem?_set_ne (fun q => hji q.symm)] at hj
    refine h.2.2 (j, u) (List.mem_cons_of_mem _ (List.mem_filter.mpr ⟨mem_cv hj hu, ?_⟩))
    have h1 : (j == i) = false := by simpa using hji
    by_cases h2 : j + 1 = i
    · subst h2
      have hn2 : (match L[j]? with
        | some (.long _) => false
        | some (.double _) => false
        | _ => true) = true := hn
      rw [hj] at hn2
      cases u <;> simp_all [Value.category]
    · have h3 : (j + 1 == i) = false := by simpa using h2
      simp only [h1, h3]; rfl
theorem r_istore_n {n : Fin 4} {a : Int32} {L' : List Value} (g : Good K w Z cc own D) (hd : decode cc pc = .ok (.istore_n n, 1)) (hp : pc + 1 = pc') (hn : (n : Nat) < Z.2.2.1) (ho : nlong L (n : Nat) = true) (hl : L.set (n : Nat) (.int a) = L') (k : Sim K w Z pc' L' st M F) : Sim K w Z pc L (.int a :: st) M F := by
  subst hp; subst hl; exact fun r M' h ls H lo h1 h2 h3 => lv_istore_n g.1 g.2.1 hd rfl (lc_cv h1) hn rfl (fun ls' hl' => k r M' h ls' H lo (lc_set ho hl') h2 h3)
theorem r_istore {i : Nat} {a : Int32} {L' : List Value} (g : Good K w Z cc own D) (hd : decode cc pc = .ok (.istore i, 2)) (hp : pc + 2 = pc') (hn : i < Z.2.2.1) (ho : nlong L i = true) (hl : L.set i (.int a) = L') (k : Sim K w Z pc' L' st M F) : Sim K w Z pc L (.int a :: st) M F := by
  subst hp; subst hl; exact fun r M' h ls H lo h1 h2 h3 => lv_istore g.1 g.2.1 hd (lc_cv h1) hn rfl (fun ls' hl' => k r M' h ls' H lo (lc_set ho hl') h2 h3)
theorem r_iinc {i : Nat} {n : Int} {a b : Int32} {L' : List Value} (g : Good K w Z cc own D) (hd : decode cc pc = .ok (.iinc i n, 3)) (hp : pc + 3 = pc') (ha : L[i]? = some (.int a)) (hv : Int32.ofInt n = b) (hn : i < Z.2.2.1) (ho : nlong L i = true) (hl : L.set i (.int (a + b)) = L') (k : Sim K w Z pc' L' st M F) : Sim K w Z pc L st M F := by
  subst hp; subst hl; subst hv
  intro r M' h ls H lo h1 h2 h3
  obtain ⟨j, hj⟩ := List.getElem?_of_mem (mem_cv ha (fun q => by cases q))
  exact lv_iinc g.1 g.2.1 hd (lc_cv h1) hj rfl hn rfl (fun ls' hl' => k r M' h ls' H lo (lc_set ho hl') h2 h3)
/-- fewer listed locals -/
def Lsub : List Value → List Value → Prop
  | [], _ => True
  | v :: vs, u :: us => (v = .null ∨ v = u) ∧ Lsub vs us
  | _ :: _, [] => False
theorem Lsub.at {L' : List Value} : ∀ {L : List Value}, Lsub L' L → ∀ (i : Nat) (v : Value), L'[i]? = some v → v ≠ .null → L[i]? = some v := by
  induction L' with
  | nil => intro L h i v hi; simp at hi
  | cons a l ih =>
    intro L h i v hi hv
    cases L with
    | nil => exact h.elim
    | cons b m =>
      cases i with
      | zero =>
        simp at hi
        subst hi
        rcases h.1 with q | q
        · exact absurd q hv
        · simp [q]
      | succ j =>
        simp at hi ⊢
        exact ih h.2 j v hi hv
theorem r_weak {L' : List Value} (h : Lsub L' L) (k : Sim K w Z pc L' st M F) : Sim K w Z pc L st M F :=
  fun r M' hF ls H lo h1 h2 h3 => k r M' hF ls H lo ⟨h1.1, fun i v hi hv => h1.2 i v (h.at i v hi hv) hv⟩ h2 h3
end Rows
