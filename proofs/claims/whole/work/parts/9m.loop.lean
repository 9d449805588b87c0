/-! THE LAW: its loop -/
section Loop
variable {Z : Zx} {b Ln n k : Nat} {xs : Nat → Int32} {w1 w2 : W0} {Q : State → Prop}
theorem lw_sub {a i : Nat} (h : a ≤ 2048) (hi : i ≤ 4096) : nI a - 4 < nI i ↔ a < i + 4 := by
  rw [Int32.lt_iff_toInt_lt, Int32.toInt_sub, nI_toInt (by omega), nI_toInt (by omega), show (4 : Int32).toInt = 4 from rfl, Int.bmod_eq_of_le (by omega) (by omega)]
  omega
theorem lw_sw {M1 M2 : Mm} {i : Nat} (g : GLw Z b Ln xs) (D : LD Z w1 w2) (hLn : Ln ≤ 2048) (hi : i + 4 ≤ Ln) (hnk : n ≤ 600000 ∧ k ≤ 7302250) (H : Rel M1 M2) (kk : ∀ N1 N2, Rel N1 N2 → LX Z (Pw2 w1 w2 N1 N2) 1142 (Lv b w1 w2 i) [] n k Q) : ∀ v : Nat, v < 34 → LX Z (Pw2 w1 w2 M1 M2) 32 (Lv b w1 w2 i) [.int (nI v)] n k Q := by
  intro v hv
  match v, hv with
  | 0, _ => exact l_tin (tgt := 184) g dL_law_32 (by decide) (by decide) (off := 152) rfl rfl (lw_c0 g D hLn hi hnk H kk)
  | 1, _ => exact l_tin (tgt := 207) g dL_law_32 (by decide) (by decide) (off := 175) rfl rfl (lw_c1 g D hLn hi hnk H kk)
  | 2, _ => exact l_tin (tgt := 250) g dL_law_32 (by decide) (by decide) (off := 218) rfl rfl (lw_c2 g D hLn hi hnk H kk)
  | 3, _ => exact l_tin (tgt := 293) g dL_law_32 (by decide) (by decide) (off := 261) rfl rfl (lw_c3 g D hLn hi hnk H kk)
  | 4, _ => exact l_tin (tgt := 326) g dL_law_32 (by decide) (by decide) (off := 294) rfl rfl (lw_c4 g D hLn hi hnk H kk)
  | 5, _ => exact l_tin (tgt := 339) g dL_law_32 (by decide) (by decide) (off := 307) rfl rfl (lw_c5 g D hLn hi hnk H kk)
  | 6, _ => exact l_tin (tgt := 402) g dL_law_32 (by decide) (by decide) (off := 370) rfl rfl (lw_c6 g D hLn hi hnk H kk)
  | 7, _ => exact l_tin (tgt := 415) g dL_law_32 (by decide) (by decide) (off := 383) rfl rfl (lw_c7 g D hLn hi hnk H kk)
  | 8, _ => exact l_tin (tgt := 464) g dL_law_32 (by decide) (by decide) (off := 432) rfl rfl (lw_c8 g D hLn hi hnk H kk)
  | 9, _ => exact l_tin (tgt := 497) g dL_law_32 (by decide) (by decide) (off := 465) rfl rfl (lw_c9 g D hLn hi hnk H kk)
  | 10, _ => exact l_tin (tgt := 520) g dL_law_32 (by decide) (by decide) (off := 488) rfl rfl (lw_c10 g D hLn hi hnk H kk)
  | 11, _ => exact l_tin (tgt := 543) g dL_law_32 (by decide) (by decide) (off := 511) rfl rfl (lw_c11 g D hLn hi hnk H kk)
  | 12, _ => exact l_tin (tgt := 576) g dL_law_32 (by decide) (by decide) (off := 544) rfl rfl (lw_c12 g D hLn hi hnk H kk)
  | 13, _ => exact l_tin (tgt := 609) g dL_law_32 (by decide) (by decide) (off := 577) rfl rfl (lw_c13 g D hLn hi hnk H kk)
  | 14, _ => exact l_tin (tgt := 642) g dL_law_32 (by decide) (by decide) (off := 610) rfl rfl (lw_c14 g D hLn hi hnk H kk)
  | 15, _ => exact l_tin (tgt := 665) g dL_law_32 (by decide) (by decide) (off := 633) rfl rfl (lw_c15 g D hLn hi hnk H kk)
  | 16, _ => exact l_tin (tgt := 698) g dL_law_32 (by decide) (by decide) (off := 666) rfl rfl (lw_c16 g D hLn hi hnk H kk)
  | 17, _ => exact l_tin (tgt := 731) g dL_law_32 (by decide) (by decide) (off := 699) rfl rfl (lw_c17 g D hLn hi hnk H kk)
  | 18, _ => exact l_tin (tgt := 764) g dL_law_32 (by decide) (by decide) (off := 732) rfl rfl (lw_c18 g D hLn hi hnk H kk)
  | 19, _ => exact l_tin (tgt := 787) g dL_law_32 (by decide) (by decide) (off := 755) rfl rfl (lw_c19 g D hLn hi hnk H kk)
  | 20, _ => exact l_tin (tgt := 820) g dL_law_32 (by decide) (by decide) (off := 788) rfl rfl (lw_c20 g D hLn hi hnk H kk)
  | 21, _ => exact l_tin (tgt := 863) g dL_law_32 (by decide) (by decide) (off := 831) rfl rfl (lw_c21 g D hLn hi hnk H kk)
  | 22, _ => exact l_tin (tgt := 886) g dL_law_32 (by decide) (by decide) (off := 854) rfl rfl (lw_c22 g D hLn hi hnk H kk)
  | 23, _ => exact l_tin (tgt := 899) g dL_law_32 (by decide) (by decide) (off := 867) rfl rfl (lw_c23 g D hLn hi hnk H kk)
  | 24, _ => exact l_tin (tgt := 932) g dL_law_32 (by decide) (by decide) (off := 900) rfl rfl (lw_c24 g D hLn hi hnk H kk)
  | 25, _ => exact l_tin (tgt := 945) g dL_law_32 (by decide) (by decide) (off := 913) rfl rfl (lw_c25 g D hLn hi hnk H kk)
  | 26, _ => exact l_tin (tgt := 978) g dL_law_32 (by decide) (by decide) (off := 946) rfl rfl (lw_c26 g D hLn hi hnk H kk)
  | 27, _ => exact l_tin (tgt := 1011) g dL_law_32 (by decide) (by decide) (off := 979) rfl rfl (lw_c27 g D hLn hi hnk H kk)
  | 28, _ => exact l_tin (tgt := 1034) g dL_law_32 (by decide) (by decide) (off := 1002) rfl rfl (lw_c28 g D hLn hi hnk H kk)
  | 29, _ => exact l_tin (tgt := 1047) g dL_law_32 (by decide) (by decide) (off := 1015) rfl rfl (lw_c29 g D hLn hi hnk H kk)
  | 30, _ => exact l_tin (tgt := 1070) g dL_law_32 (by decide) (by decide) (off := 1038) rfl rfl (lw_c30 g D hLn hi hnk H kk)
  | 31, _ => exact l_tin (tgt := 1093) g dL_law_32 (by decide) (by decide) (off := 1061) rfl rfl (lw_c31 g D hLn hi hnk H kk)
  | 32, _ => exact l_tin (tgt := 1106) g dL_law_32 (by decide) (by decide) (off := 1074) rfl rfl (lw_c32 g D hLn hi hnk H kk)
  | 33, _ => exact l_tin (tgt := 1119) g dL_law_32 (by decide) (by decide) (off := 1087) rfl rfl (lw_c33 g D hLn hi hnk H kk)
  | v + 34, h => exact absurd h (by omega)
theorem lw_loop (g : GLw Z b Ln xs) (D : LD Z w1 w2) (hLn : Ln ≤ 2048) (hnk : n ≤ 600000 ∧ k ≤ 7302250) (hend : ∀ N1 N2 L, LX Z (Pw2 w1 w2 N1 N2) 1148 L [] n k Q) : ∀ (d i : Nat) (M1 M2 : Mm), Ln < i + 4 * d + 4 → i ≤ 4096 → Rel M1 M2 → LX Z (Pw2 w1 w2 M1 M2) 18 (Lv b w1 w2 i) [] n k Q := by
  intro d
  induction d with
  | zero =>
    intro i M1 M2 hd h2 H
    refine l_iload_n g dL_law_18 rfl rfl ?_
    refine l_aload_n g dL_law_19 rfl rfl ?_
    refine l_len g dL_law_20 rfl ?_
    refine l_iconst (v := 4) g dL_law_21 rfl rfl ?_
    refine l_isub g dL_law_22 rfl ?_
    exact l_cgt g dL_law_23 rfl (tgt := 1148) rfl (fun _ => hend _ _ _) (fun q => absurd ((lw_sub hLn h2).mpr (by omega)) q)
  | succ d ih =>
    intro i M1 M2 hd h2 H
    refine l_iload_n g dL_law_18 rfl rfl ?_
    refine l_aload_n g dL_law_19 rfl rfl ?_
    refine l_len g dL_law_20 rfl ?_
    refine l_iconst (v := 4) g dL_law_21 rfl rfl ?_
    refine l_isub g dL_law_22 rfl ?_
    refine l_cgt g dL_law_23 rfl (tgt := 1148) rfl (fun _ => hend _ _ _) (fun q => ?_)
    have hi : i + 4 ≤ Ln := Nat.not_lt.mp (fun z => q ((lw_sub hLn h2).mpr z))
    refine l_aload_n g dL_law_26 rfl rfl ?_
    refine l_iload_n g dL_law_27 rfl rfl ?_
    refine l_ild g dL_law_28 rfl (inb_in (inb_n (by omega) (by omega))) ?_
    refine l_bipush (v := 63) g dL_law_29 rfl rfl ?_
    refine l_iand g dL_law_31 rfl ?_
    have back : ∀ N1 N2, Rel N1 N2 → LX Z (Pw2 w1 w2 N1 N2) 1142 (Lv b w1 w2 i) [] n k Q := by
      intro N1 N2 H2
      refine l_iinc (b' := 4) g dL_law_1142 rfl rfl rfl (by rw [g.2.2.2.2.2.2.2.2]; decide) rfl rfl ?_
      refine l_goto g dL_law_1145 (tgt := 18) rfl ?_
      have := ih (i + 4) N1 N2 (by omega) (by omega) H2
      rw [show Lv b w1 w2 (i + 4) = [.ref b, .ref (w1.2.1 0), .ref (w2.2.1 0), .int (nI i + nI 4)] by rw [nI_add]] at this
      exact this
    generalize xs (nI i).toNatClampNeg &&& 63 = x
    by_cases hx : x.toInt < 0 ∨ 33 < x.toInt
    · exact l_tabd g dL_law_32 hx (tgt := 1142) rfl (back _ _ H)
    · have hv : x = nI x.toInt.toNat := by
        apply Int32.toInt_inj.mp
        rw [nI_toInt (by omega)]
        omega
      rw [hv]
      exact lw_sw g D hLn hi hnk H back _ (by omega)
end Loop
