/-! THE LAW: rows over what holds of the heap -/
abbrev AL (Z : Zx) : Nat → Prop := fun q => Z.1.2.2.2.2.heap.size ≤ q
def GLw (Z : Zx) (b Ln : Nat) (xs : Nat → Int32) : Prop :=
  Z.1.1.tables.exec = Jvm.exec ∧ Z.2.1.2.2.2.2.code = cL_law ∧ Z.2.1.2.2.2.2.maxLocals = Z.2.2.1 ∧ Z.1.2.2.2.2.vm.findClass RL = some Z.2.1.1.cls ∧ (∀ u ∈ Ug, u.before Z.2.1.2.1 Z.1.2.2.2.2 = true) ∧ Z.1.2.2.2.1 = room_1 ∧ va_X b Ln xs Z.1.2.2.2.2 Z.1.2.2.2.2.heap ∧ b < Z.1.2.2.2.2.heap.size ∧ Z.2.2.1 = 4
def LX (Z : Zx) (P : Heap → Prop) (pc : Nat) (L st : List Value) (n k : Nat) (Q : State → Prop) : Prop :=
  ∀ (ls : Array Slot) (H : Heap) (locs : List Loc), Lc ls Z.2.2.1 L → P H → va_S (AL Z) Z.1.2.2.2.2.heap H locs → W Z.1.1 Z.1.2.1 Z.1.2.2.1 Z.1.2.2.2.1 Z.1.2.2.2.2 Z.2.1.1 Z.2.1.2.1 Z.2.1.2.2.1 Z.2.1.2.2.2.1 Z.2.1.2.2.2.2 H locs n k Q (F0 Z.2.1.1 pc ls st)
section LRows
variable {Z : Zx} {b Ln : Nat} {xs : Nat → Int32} {P : Heap → Prop} {pc pc' tgt n k : Nat} {off : Int} {L st : List Value} {Q : State → Prop}
theorem l_aload_n {i : _root_.Fin 4} {a : Nat} (g : GLw Z b Ln xs) (hd : decode cL_law pc = .ok (.aload_n i, 1)) (hp : pc + 1 = pc') (hl : L[(i : Nat)]? = some (.ref a)) (kk : LX Z P pc' L (.ref a :: st) n k Q) : LX Z P pc L st n k Q := by
  subst hp; exact fun ls H lo h1 h2 h4 => lv_aload_n g.1 g.2.1 hd rfl (h1.at hl (fun q => by cases q)) (kk ls H lo h1 h2 h4)
theorem l_iload_n {i : _root_.Fin 4} {a : Int32} (g : GLw Z b Ln xs) (hd : decode cL_law pc = .ok (.iload_n i, 1)) (hp : pc + 1 = pc') (hl : L[(i : Nat)]? = some (.int a)) (kk : LX Z P pc' L (.int a :: st) n k Q) : LX Z P pc L st n k Q := by
  subst hp; exact fun ls H lo h1 h2 h4 => lv_iload_n g.1 g.2.1 hd rfl (h1.at hl (fun q => by cases q)) (kk ls H lo h1 h2 h4)
theorem l_istore_n {i : _root_.Fin 4} {a : Int32} {L' : List Value} (g : GLw Z b Ln xs) (hd : decode cL_law pc = .ok (.istore_n i, 1)) (hp : pc + 1 = pc') (hn : (i : Nat) < Z.2.2.1) (ho : nlong L (i : Nat) = true) (hl : L.set (i : Nat) (.int a) = L') (kk : LX Z P pc' L' st n k Q) : LX Z P pc L (.int a :: st) n k Q := by
  subst hp; subst hl; exact fun ls H lo h1 h2 h4 => lv_istore_n g.1 g.2.1 hd rfl (lc_cv h1) hn rfl (fun ls' hl' => kk ls' H lo (lc_set ho hl') h2 h4)
theorem l_astore_n {i : _root_.Fin 4} {a : Nat} {L' : List Value} (g : GLw Z b Ln xs) (hd : decode cL_law pc = .ok (.astore_n i, 1)) (hp : pc + 1 = pc') (hn : (i : Nat) < Z.2.2.1) (ho : nlong L (i : Nat) = true) (hl : L.set (i : Nat) (.ref a) = L') (kk : LX Z P pc' L' st n k Q) : LX Z P pc L (.ref a :: st) n k Q := by
  subst hp; subst hl; exact fun ls H lo h1 h2 h4 => lv_astore_n g.1 g.2.1 hd rfl (lc_cv h1) hn rfl (fun ls' hl' => kk ls' H lo (lc_set ho hl') h2 h4)
theorem l_iinc {i : Nat} {z : Int} {a b' : Int32} {L' : List Value} (g : GLw Z b Ln xs) (hd : decode cL_law pc = .ok (.iinc i z, 3)) (hp : pc + 3 = pc') (ha : L[i]? = some (.int a)) (hv : Int32.ofInt z = b') (hn : i < Z.2.2.1) (ho : nlong L i = true) (hl : L.set i (.int (a + b')) = L') (kk : LX Z P pc' L' st n k Q) : LX Z P pc L st n k Q := by
  subst hp; subst hl; subst hv
  intro ls H lo h1 h2 h4
  obtain ⟨j, hj⟩ := List.getElem?_of_mem (mem_cv ha (fun q => by cases q))
  exact lv_iinc g.1 g.2.1 hd (lc_cv h1) hj rfl hn rfl (fun ls' hl' => kk ls' H lo (lc_set ho hl') h2 h4)
theorem l_iconst {z : Int} {v : Int32} (g : GLw Z b Ln xs) (hd : decode cL_law pc = .ok (.iconst z, 1)) (hp : pc + 1 = pc') (hv : Int32.ofInt z = v) (kk : LX Z P pc' L (.int v :: st) n k Q) : LX Z P pc L st n k Q := by
  subst hp; exact fun ls H lo h1 h2 h4 => lv_iconst g.1 g.2.1 hd hv (kk ls H lo h1 h2 h4)
theorem l_bipush {z : Int} {v : Int32} (g : GLw Z b Ln xs) (hd : decode cL_law pc = .ok (.bipush z, 2)) (hp : pc + 2 = pc') (hv : (Int8.ofInt z).toInt32 = v) (kk : LX Z P pc' L (.int v :: st) n k Q) : LX Z P pc L st n k Q := by
  subst hp; exact fun ls H lo h1 h2 h4 => lv_bipush g.1 g.2.1 hd hv (kk ls H lo h1 h2 h4)
theorem l_iadd {a b' : Int32} (g : GLw Z b Ln xs) (hd : decode cL_law pc = .ok (.iadd, 1)) (hp : pc + 1 = pc') (kk : LX Z P pc' L (.int (a + b') :: st) n k Q) : LX Z P pc L (.int b' :: .int a :: st) n k Q := by
  subst hp; exact fun ls H lo h1 h2 h4 => lv_iadd g.1 g.2.1 hd (kk ls H lo h1 h2 h4)
theorem l_isub {a b' : Int32} (g : GLw Z b Ln xs) (hd : decode cL_law pc = .ok (.isub, 1)) (hp : pc + 1 = pc') (kk : LX Z P pc' L (.int (a - b') :: st) n k Q) : LX Z P pc L (.int b' :: .int a :: st) n k Q := by
  subst hp; exact fun ls H lo h1 h2 h4 => lv_isub g.1 g.2.1 hd (kk ls H lo h1 h2 h4)
theorem l_iand {a b' : Int32} (g : GLw Z b Ln xs) (hd : decode cL_law pc = .ok (.iand, 1)) (hp : pc + 1 = pc') (kk : LX Z P pc' L (.int (a &&& b') :: st) n k Q) : LX Z P pc L (.int b' :: .int a :: st) n k Q := by
  subst hp; exact fun ls H lo h1 h2 h4 => lv_iand g.1 g.2.1 hd (kk ls H lo h1 h2 h4)
theorem l_i2l {a : Int32} (g : GLw Z b Ln xs) (hd : decode cL_law pc = .ok (.i2l, 1)) (hp : pc + 1 = pc') (kk : LX Z P pc' L (.long a.toInt64 :: st) n k Q) : LX Z P pc L (.int a :: st) n k Q := by
  subst hp; exact fun ls H lo h1 h2 h4 => lv_i2l g.1 g.2.1 hd rfl (kk ls H lo h1 h2 h4)
theorem l_lshl {a : Int64} {b' : Int32} (g : GLw Z b Ln xs) (hd : decode cL_law pc = .ok (.lshl, 1)) (hp : pc + 1 = pc') (kk : LX Z P pc' L (.long (lshl a b') :: st) n k Q) : LX Z P pc L (.int b' :: .long a :: st) n k Q := by
  subst hp; exact fun ls H lo h1 h2 h4 => lv_lshl g.1 g.2.1 hd rfl (kk ls H lo h1 h2 h4)
theorem l_land {a b' : Int64} (g : GLw Z b Ln xs) (hd : decode cL_law pc = .ok (.land, 1)) (hp : pc + 1 = pc') (kk : LX Z P pc' L (.long (a &&& b') :: st) n k Q) : LX Z P pc L (.long b' :: .long a :: st) n k Q := by
  subst hp; exact fun ls H lo h1 h2 h4 => lv_land g.1 g.2.1 hd (kk ls H lo h1 h2 h4)
theorem l_lor {a b' : Int64} (g : GLw Z b Ln xs) (hd : decode cL_law pc = .ok (.lor, 1)) (hp : pc + 1 = pc') (kk : LX Z P pc' L (.long (a ||| b') :: st) n k Q) : LX Z P pc L (.long b' :: .long a :: st) n k Q := by
  subst hp; exact fun ls H lo h1 h2 h4 => lv_lor g.1 g.2.1 hd (kk ls H lo h1 h2 h4)
theorem l_ldc2 {i : Nat} {v : Int64} (g : GLw Z b Ln xs) (hd : decode cL_law pc = .ok (.ldc2_w i, 3)) (hp : pc + 3 = pc') (hw : Cond.constantLong RL i v ∈ Ug) (kk : LX Z P pc' L (.long v :: st) n k Q) : LX Z P pc L st n k Q := by
  subst hp; exact fun ls H lo h1 h2 h4 => lv_ldc2 g.1 g.2.1 g.2.2.2.1 (g.2.2.2.2.1 _ hw) hd (kk ls H lo h1 h2 h4)
theorem l_dup {a : Nat} (g : GLw Z b Ln xs) (hd : decode cL_law pc = .ok (.dup, 1)) (hp : pc + 1 = pc') (kk : LX Z P pc' L (.ref a :: .ref a :: st) n k Q) : LX Z P pc L (.ref a :: st) n k Q := by
  subst hp; exact fun ls H lo h1 h2 h4 => lv_dup g.1 g.2.1 hd rfl (kk ls H lo h1 h2 h4)
theorem l_goto (g : GLw Z b Ln xs) (hd : decode cL_law pc = .ok (.goto off, 3)) (ht : (pc : Int) + off = (tgt : Int)) (kk : LX Z P tgt L st n k Q) : LX Z P pc L st n k Q :=
  fun ls H lo h1 h2 h4 => lv_goto g.1 g.2.1 hd ht (kk ls H lo h1 h2 h4)
theorem l_same {x : Int32} (g : GLw Z b Ln xs) (hd : decode cL_law pc = .ok (.if_icmp .eq off, 3)) (ht : (pc : Int) + off = (tgt : Int)) (kt : LX Z P tgt L st n k Q) : LX Z P pc L (.int x :: .int x :: st) n k Q :=
  fun ls H lo h1 h2 h4 => lv_icmp_eq g.1 g.2.1 hd ht (fun _ => kt ls H lo h1 h2 h4) (fun q => absurd rfl q)
theorem l_cgt {x y : Int32} (g : GLw Z b Ln xs) (hd : decode cL_law pc = .ok (.if_icmp .gt off, 3)) (hp : pc + 3 = pc') (ht : (pc : Int) + off = (tgt : Int)) (kt : y < x → LX Z P tgt L st n k Q) (kf : ¬ y < x → LX Z P pc' L st n k Q) : LX Z P pc L (.int y :: .int x :: st) n k Q := by
  subst hp; exact fun ls H lo h1 h2 h4 => lv_icmp_gt g.1 g.2.1 hd ht (fun q => kt q ls H lo h1 h2 h4) (fun q => kf q ls H lo h1 h2 h4)
theorem l_ifeq {x : Int32} (g : GLw Z b Ln xs) (hd : decode cL_law pc = .ok (.ifCond .eq off, 3)) (hp : pc + 3 = pc') (ht : (pc : Int) + off = (tgt : Int)) (kt : x = 0 → LX Z P tgt L st n k Q) (kf : ¬ x = 0 → LX Z P pc' L st n k Q) : LX Z P pc L (.int x :: st) n k Q := by
  subst hp; exact fun ls H lo h1 h2 h4 => lv_if_eq g.1 g.2.1 hd ht (fun q => kt q ls H lo h1 h2 h4) (fun q => kf q ls H lo h1 h2 h4)
theorem l_tab {x v : Int32} {dflt lo hi : Int} {offs : Array Int} {len : Nat} (g : GLw Z b Ln xs) (hd : decode cL_law pc = .ok (.tableswitch dflt lo hi offs, len)) (h1 : ¬ v.toInt < lo) (h2 : ¬ hi < v.toInt) (ho : offs[(v.toInt - lo).toNat]? = some off) (ht : (pc : Int) + off = (tgt : Int)) (kt : LX Z P tgt L st n k Q) (kf : ¬ x = v → LX Z P pc L (.int x :: st) n k Q) : LX Z P pc L (.int x :: st) n k Q := by
  by_cases q : x = v
  · subst q
    exact fun ls H l h3 h4 h5 => lv_tableIn g.1 g.2.1 hd h1 h2 ho ht (kt ls H l h3 h4 h5)
  · exact kf q
theorem l_tabd {x : Int32} {dflt lo hi : Int} {offs : Array Int} {len : Nat} (g : GLw Z b Ln xs) (hd : decode cL_law pc = .ok (.tableswitch dflt lo hi offs, len)) (h : x.toInt < lo ∨ hi < x.toInt) (ht : (pc : Int) + dflt = (tgt : Int)) (kk : LX Z P tgt L st n k Q) : LX Z P pc L (.int x :: st) n k Q :=
  fun ls H l h3 h4 h5 => lv_tableOut g.1 g.2.1 hd h ht (kk ls H l h3 h4 h5)
theorem l_len (g : GLw Z b Ln xs) (hd : decode cL_law pc = .ok (.arraylength, 1)) (hp : pc + 1 = pc') (kk : LX Z P pc' L (.int (nI Ln) :: st) n k Q) : LX Z P pc L (.ref b :: st) n k Q := by
  subst hp; exact fun ls H lo h1 h2 h4 => va_slen g.1 g.2.1 g.2.2.2.2.2.2.1 g.2.2.2.2.2.2.2.1 (Nat.not_le.mpr g.2.2.2.2.2.2.2.1) h4 hd (kk ls H lo h1 h2 h4)
theorem l_ild {i : Int32} (g : GLw Z b Ln xs) (hd : decode cL_law pc = .ok (.iaload, 1)) (hp : pc + 1 = pc') (hin : vp_in i Ln) (kk : LX Z P pc' L (.int (xs i.toNatClampNeg) :: st) n k Q) : LX Z P pc L (.int i :: .ref b :: st) n k Q := by
  subst hp; exact fun ls H lo h1 h2 h4 => va_sld g.1 g.2.1 g.2.2.2.2.2.2.1 g.2.2.2.2.2.2.2.1 (Nat.not_le.mpr g.2.2.2.2.2.2.2.1) h4 hin hd (kk ls H lo h1 h2 h4)
/-- an argument of a call: a number of the script -/
theorem l_arg {a1 a2 i j : Nat} {z : Int} (g : GLw Z b Ln xs) (hL : L = [.ref b, .ref a1, .ref a2, .int (nI i)]) (d0 : decode cL_law pc = .ok (.aload_n 0, 1)) (d1 : decode cL_law (pc + 1) = .ok (.iload_n 3, 1)) (d2 : decode cL_law (pc + 1 + 1) = .ok (.iconst z, 1)) (d3 : decode cL_law (pc + 1 + 1 + 1) = .ok (.iadd, 1)) (d4 : decode cL_law (pc + 1 + 1 + 1 + 1) = .ok (.iaload, 1)) (hz : Int32.ofInt z = nI j) (hj : i + j < Ln) (hLn : Ln ≤ 2048) (hp : pc + 5 = pc') (kk : LX Z P pc' L (.int (xs (i + j)) :: st) n k Q) : LX Z P pc L st n k Q := by
  subst hL; subst hp
  refine l_aload_n g d0 rfl rfl ?_
  refine l_iload_n g d1 rfl rfl ?_
  refine l_iconst g d2 rfl hz ?_
  refine l_iadd g d3 rfl ?_
  rw [nI_add]
  refine l_ild g d4 rfl (inb_in (inb_n hj (by omega))) ?_
  rw [show (nI (i + j)).toNatClampNeg = i + j from ix_n (by omega)]
  exact kk
end LRows
