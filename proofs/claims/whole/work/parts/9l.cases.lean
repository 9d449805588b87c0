/-! THE LAW: its cases -/
abbrev Pw2 (w1 w2 : W0) (M1 M2 : Mm) : Heap → Prop := fun H => va_P w1.1 vwCl (wsOf KC w1 M1) H ∧ va_P w2.1 vwCl (wsOf KM w2 M2) H
abbrev Lv (b : Nat) (w1 w2 : W0) (i : Nat) : List Value := [.ref b, .ref (w1.2.1 0), .ref (w2.2.1 0), .int (nI i)]
def LD (Z : Zx) (w1 w2 : W0) : Prop := va_K w1.1 vwCl (tysOf w1) Z.1.2.2.2.2 ∧ va_K w2.1 vwCl (tysOf w2) Z.1.2.2.2.2 ∧ Apart KC w1 ∧ Apart KM w2 ∧ Ex KC w1 Z.1.2.2.2.2 Z.1.2.2.2.2.heap ∧ Ex KM w2 Z.1.2.2.2.2 Z.1.2.2.2.2.heap ∧ (∀ i, i < KC.1 → AL Z (w1.2.1 i)) ∧ (∀ i, i < KM.1 → AL Z (w2.2.1 i)) ∧ ∀ i j, i < KC.1 → j < KM.1 → w1.2.1 i ≠ w2.2.1 j
section Cases
variable {Z : Zx} {b Ln i n k : Nat} {xs : Nat → Int32} {w1 w2 : W0} {M1 M2 : Mm} {Q : State → Prop}
theorem l_bool {P : Heap → Prop} {pc pc' : Nat} {L st : List Value} {x : Int32} (g : GLw Z b Ln xs) (d0 : decode cL_law pc = .ok (.ifCond .eq 7, 3)) (d1 : decode cL_law (pc + 3) = .ok (.iconst 1, 1)) (d2 : decode cL_law (pc + 3 + 1) = .ok (.goto 4, 3)) (d3 : decode cL_law (pc + 7) = .ok (.iconst 0, 1)) (hp : pc + 8 = pc') (kk : LX Z P pc' L (.int (b01 (!(x == 0))) :: st) n k Q) : LX Z P pc L (.int x :: st) n k Q := by
  subst hp
  refine l_ifeq g d0 rfl (tgt := pc + 7) (by omega) (fun q => ?_) (fun q => ?_)
  · subst q
    exact l_iconst g d3 rfl rfl kk
  · refine l_iconst g d1 rfl rfl ?_
    refine l_goto g d2 (tgt := pc + 8) (by omega) ?_
    have e : b01 (!(x == 0)) = 1 := by
      rw [show (x == 0) = false from beq_eq_false_iff_ne.mpr q]; rfl
    rw [e] at kk
    exact kk
theorem l_sw {P P' : Heap → Prop} {pc : Nat} {L st : List Value} (kk : LX Z (fun H => P' H ∧ P H) pc L st n k Q) : LX Z (fun H => P H ∧ P' H) pc L st n k Q := fun ls H lo h1 h2 h4 => kk ls H lo h1 ⟨h2.2, h2.1⟩ h4
theorem l_tin {P : Heap → Prop} {pc tgt : Nat} {L st : List Value} {v : Int32} {dflt lo hi off : Int} {offs : Array Int} {len : Nat} (g : GLw Z b Ln xs) (hd : decode cL_law pc = .ok (.tableswitch dflt lo hi offs, len)) (h1 : ¬ v.toInt < lo) (h2 : ¬ hi < v.toInt) (ho : offs[(v.toInt - lo).toNat]? = some off) (ht : (pc : Int) + off = (tgt : Int)) (kt : LX Z P tgt L st n k Q) : LX Z P pc L (.int v :: st) n k Q :=
  fun ls H l h3 h4 h5 => lv_tableIn g.1 g.2.1 hd h1 h2 ho ht (kt ls H l h3 h4 h5)
theorem lw_c0 (g : GLw Z b Ln xs) (D : LD Z w1 w2) (hLn : Ln ≤ 2048) (hi : i + 4 ≤ Ln) (hnk : n ≤ 600000 ∧ k ≤ 7302250) (H : Rel M1 M2) (kk : ∀ N1 N2, Rel N1 N2 → LX Z (Pw2 w1 w2 N1 N2) 1142 (Lv b w1 w2 i) [] n k Q) : LX Z (Pw2 w1 w2 M1 M2) 184 (Lv b w1 w2 i) [] n k Q := by
  obtain ⟨r, N1, N2, e1, e2, H2⟩ := step_harbour (N := 100000) (Nat.le_refl _) H (xs (i + 1))
  refine l_aload_n g dL_law_184 rfl rfl ?_
  refine l_arg (j := 1) g rfl dL_law_185 dL_law_186 dL_law_187 dL_law_188 dL_law_189 rfl (by omega) hLn rfl ?_
  refine l_call (K := KC) (K2 := KM) (w := w1) (w2 := w2) (M := M1) (M2 := M2) (d := 1) (As := [.int (xs (i + 1))]) (rest := []) g D.1 D.2.2.1 D.2.2.2.2.1 D.2.2.2.2.2.2.1 D.2.2.2.2.2.2.2.2 dL_law_190 rfl (ug_2 (List.mem_of_getElem? (i := 57) rfl) rfl) mw_X11_harbour mv_X11_harbour (Nat.le_of_ble_eq_true rfl) (c_X11_harbour _ w1 100000 (xs (i + 1)) M1) e1 rfl (Nat.le_of_ble_eq_true rfl) (eC_0 _ _ _) rfl rfl (Nat.le_of_ble_eq_true rfl) hnk ?_
  refine l_sw ?_
  refine l_aload_n g dL_law_193 rfl rfl ?_
  refine l_arg (j := 1) g rfl dL_law_194 dL_law_195 dL_law_196 dL_law_197 dL_law_198 rfl (by omega) hLn rfl ?_
  refine l_call (K := KM) (K2 := KC) (w := w2) (w2 := w1) (M := M2) (M2 := N1) (d := 1) (As := [.int (xs (i + 1))]) (rest := [.int r]) g D.2.1 D.2.2.2.1 D.2.2.2.2.2.1 D.2.2.2.2.2.2.2.1 (fun a c z1 z2 => (D.2.2.2.2.2.2.2.2 c a z2 z1).symm) dL_law_199 rfl (ug_4 (List.mem_of_getElem? (i := 199) rfl) rfl) mw_X12_harbour mv_X12_harbour (Nat.le_of_ble_eq_true rfl) (c_X12_harbour _ w2 100000 (xs (i + 1)) M2) e2 rfl (Nat.le_of_ble_eq_true rfl) (eM_0 _ _ _) rfl rfl (Nat.le_of_ble_eq_true rfl) hnk ?_
  refine l_sw ?_
  exact l_same g dL_law_202 (tgt := 1142) rfl (kk N1 N2 H2)
theorem lw_c1 (g : GLw Z b Ln xs) (D : LD Z w1 w2) (hLn : Ln ≤ 2048) (hi : i + 4 ≤ Ln) (hnk : n ≤ 600000 ∧ k ≤ 7302250) (H : Rel M1 M2) (kk : ∀ N1 N2, Rel N1 N2 → LX Z (Pw2 w1 w2 N1 N2) 1142 (Lv b w1 w2 i) [] n k Q) : LX Z (Pw2 w1 w2 M1 M2) 207 (Lv b w1 w2 i) [] n k Q := by
  obtain ⟨r, N1, N2, e1, e2, H2⟩ := step_tell (N := 100000) (Nat.le_refl _) H (xs (i + 1)) (xs (i + 2)) (xs (i + 3))
  refine l_aload_n g dL_law_207 rfl rfl ?_
  refine l_arg (j := 1) g rfl dL_law_208 dL_law_209 dL_law_210 dL_law_211 dL_law_212 rfl (by omega) hLn rfl ?_
  refine l_arg (j := 2) g rfl dL_law_213 dL_law_214 dL_law_215 dL_law_216 dL_law_217 rfl (by omega) hLn rfl ?_
  refine l_arg (j := 3) g rfl dL_law_218 dL_law_219 dL_law_220 dL_law_221 dL_law_222 rfl (by omega) hLn rfl ?_
  refine l_call (K := KC) (K2 := KM) (w := w1) (w2 := w2) (M := M1) (M2 := M2) (d := 2) (As := [.int (xs (i + 1)), .int (xs (i + 2)), .int (xs (i + 3))]) (rest := []) g D.1 D.2.2.1 D.2.2.2.2.1 D.2.2.2.2.2.2.1 D.2.2.2.2.2.2.2.2 dL_law_223 rfl (ug_2 (List.mem_of_getElem? (i := 73) rfl) rfl) mw_X11_tell mv_X11_tell (Nat.le_of_ble_eq_true rfl) (c_X11_tell _ w1 100000 (xs (i + 1)) (xs (i + 2)) (xs (i + 3)) M1) e1 rfl (Nat.le_of_ble_eq_true rfl) (eC_0 _ _ _) rfl rfl (Nat.le_of_ble_eq_true rfl) hnk ?_
  refine l_sw ?_
  refine l_aload_n g dL_law_226 rfl rfl ?_
  refine l_arg (j := 1) g rfl dL_law_227 dL_law_228 dL_law_229 dL_law_230 dL_law_231 rfl (by omega) hLn rfl ?_
  refine l_arg (j := 2) g rfl dL_law_232 dL_law_233 dL_law_234 dL_law_235 dL_law_236 rfl (by omega) hLn rfl ?_
  refine l_arg (j := 3) g rfl dL_law_237 dL_law_238 dL_law_239 dL_law_240 dL_law_241 rfl (by omega) hLn rfl ?_
  refine l_call (K := KM) (K2 := KC) (w := w2) (w2 := w1) (M := M2) (M2 := N1) (d := 1) (As := [.int (xs (i + 1)), .int (xs (i + 2)), .int (xs (i + 3))]) (rest := [.int r]) g D.2.1 D.2.2.2.1 D.2.2.2.2.2.1 D.2.2.2.2.2.2.2.1 (fun a c z1 z2 => (D.2.2.2.2.2.2.2.2 c a z2 z1).symm) dL_law_242 rfl (ug_4 (List.mem_of_getElem? (i := 215) rfl) rfl) mw_X12_tell mv_X12_tell (Nat.le_of_ble_eq_true rfl) (c_X12_tell _ w2 100000 (xs (i + 1)) (xs (i + 2)) (xs (i + 3)) M2) e2 rfl (Nat.le_of_ble_eq_true rfl) (eM_0 _ _ _) rfl rfl (Nat.le_of_ble_eq_true rfl) hnk ?_
  refine l_sw ?_
  exact l_same g dL_law_245 (tgt := 1142) rfl (kk N1 N2 H2)
theorem lw_c2 (g : GLw Z b Ln xs) (D : LD Z w1 w2) (hLn : Ln ≤ 2048) (hi : i + 4 ≤ Ln) (hnk : n ≤ 600000 ∧ k ≤ 7302250) (H : Rel M1 M2) (kk : ∀ N1 N2, Rel N1 N2 → LX Z (Pw2 w1 w2 N1 N2) 1142 (Lv b w1 w2 i) [] n k Q) : LX Z (Pw2 w1 w2 M1 M2) 250 (Lv b w1 w2 i) [] n k Q := by
  obtain ⟨r, N1, N2, e1, e2, H2⟩ := step_move (N := 100000) (Nat.le_refl _) H (xs (i + 1)) (xs (i + 2)) (xs (i + 3))
  refine l_aload_n g dL_law_250 rfl rfl ?_
  refine l_arg (j := 1) g rfl dL_law_251 dL_law_252 dL_law_253 dL_law_254 dL_law_255 rfl (by omega) hLn rfl ?_
  refine l_arg (j := 2) g rfl dL_law_256 dL_law_257 dL_law_258 dL_law_259 dL_law_260 rfl (by omega) hLn rfl ?_
  refine l_arg (j := 3) g rfl dL_law_261 dL_law_262 dL_law_263 dL_law_264 dL_law_265 rfl (by omega) hLn rfl ?_
  refine l_call (K := KC) (K2 := KM) (w := w1) (w2 := w2) (M := M1) (M2 := M2) (d := 2) (As := [.int (xs (i + 1)), .int (xs (i + 2)), .int (xs (i + 3))]) (rest := []) g D.1 D.2.2.1 D.2.2.2.2.1 D.2.2.2.2.2.2.1 D.2.2.2.2.2.2.2.2 dL_law_266 rfl (ug_2 (List.mem_of_getElem? (i := 87) rfl) rfl) mw_X11_move mv_X11_move (Nat.le_of_ble_eq_true rfl) (c_X11_move _ w1 100000 (xs (i + 1)) (xs (i + 2)) (xs (i + 3)) M1) e1 rfl (Nat.le_of_ble_eq_true rfl) (eC_0 _ _ _) rfl rfl (Nat.le_of_ble_eq_true rfl) hnk ?_
  refine l_sw ?_
  refine l_aload_n g dL_law_269 rfl rfl ?_
  refine l_arg (j := 1) g rfl dL_law_270 dL_law_271 dL_law_272 dL_law_273 dL_law_274 rfl (by omega) hLn rfl ?_
  refine l_arg (j := 2) g rfl dL_law_275 dL_law_276 dL_law_277 dL_law_278 dL_law_279 rfl (by omega) hLn rfl ?_
  refine l_arg (j := 3) g rfl dL_law_280 dL_law_281 dL_law_282 dL_law_283 dL_law_284 rfl (by omega) hLn rfl ?_
  refine l_call (K := KM) (K2 := KC) (w := w2) (w2 := w1) (M := M2) (M2 := N1) (d := 1) (As := [.int (xs (i + 1)), .int (xs (i + 2)), .int (xs (i + 3))]) (rest := [.int r]) g D.2.1 D.2.2.2.1 D.2.2.2.2.2.1 D.2.2.2.2.2.2.2.1 (fun a c z1 z2 => (D.2.2.2.2.2.2.2.2 c a z2 z1).symm) dL_law_285 rfl (ug_4 (List.mem_of_getElem? (i := 230) rfl) rfl) mw_X12_move mv_X12_move (Nat.le_of_ble_eq_true rfl) (c_X12_move _ w2 100000 (xs (i + 1)) (xs (i + 2)) (xs (i + 3)) M2) e2 rfl (Nat.le_of_ble_eq_true rfl) (eM_0 _ _ _) rfl rfl (Nat.le_of_ble_eq_true rfl) hnk ?_
  refine l_sw ?_
  exact l_same g dL_law_288 (tgt := 1142) rfl (kk N1 N2 H2)
theorem lw_c3 (g : GLw Z b Ln xs) (D : LD Z w1 w2) (hLn : Ln ≤ 2048) (hi : i + 4 ≤ Ln) (hnk : n ≤ 600000 ∧ k ≤ 7302250) (H : Rel M1 M2) (kk : ∀ N1 N2, Rel N1 N2 → LX Z (Pw2 w1 w2 N1 N2) 1142 (Lv b w1 w2 i) [] n k Q) : LX Z (Pw2 w1 w2 M1 M2) 293 (Lv b w1 w2 i) [] n k Q := by
  obtain ⟨r, N1, N2, e1, e2, H2⟩ := step_set (N := 100000) (Nat.le_refl _) H (xs (i + 1)) (xs (i + 2))
  refine l_aload_n g dL_law_293 rfl rfl ?_
  refine l_arg (j := 1) g rfl dL_law_294 dL_law_295 dL_law_296 dL_law_297 dL_law_298 rfl (by omega) hLn rfl ?_
  refine l_arg (j := 2) g rfl dL_law_299 dL_law_300 dL_law_301 dL_law_302 dL_law_303 rfl (by omega) hLn rfl ?_
  refine l_call (K := KC) (K2 := KM) (w := w1) (w2 := w2) (M := M1) (M2 := M2) (d := 2) (As := [.int (xs (i + 1)), .int (xs (i + 2))]) (rest := []) g D.1 D.2.2.1 D.2.2.2.2.1 D.2.2.2.2.2.2.1 D.2.2.2.2.2.2.2.2 dL_law_304 rfl (ug_2 (List.mem_of_getElem? (i := 91) rfl) rfl) mw_X11_set mv_X11_set (Nat.le_of_ble_eq_true rfl) (c_X11_set _ w1 100000 (xs (i + 1)) (xs (i + 2)) M1) e1 rfl (Nat.le_of_ble_eq_true rfl) (eC_0 _ _ _) rfl rfl (Nat.le_of_ble_eq_true rfl) hnk ?_
  refine l_sw ?_
  refine l_aload_n g dL_law_307 rfl rfl ?_
  refine l_arg (j := 1) g rfl dL_law_308 dL_law_309 dL_law_310 dL_law_311 dL_law_312 rfl (by omega) hLn rfl ?_
  refine l_arg (j := 2) g rfl dL_law_313 dL_law_314 dL_law_315 dL_law_316 dL_law_317 rfl (by omega) hLn rfl ?_
  refine l_call (K := KM) (K2 := KC) (w := w2) (w2 := w1) (M := M2) (M2 := N1) (d := 1) (As := [.int (xs (i + 1)), .int (xs (i + 2))]) (rest := [.int r]) g D.2.1 D.2.2.2.1 D.2.2.2.2.2.1 D.2.2.2.2.2.2.2.1 (fun a c z1 z2 => (D.2.2.2.2.2.2.2.2 c a z2 z1).symm) dL_law_318 rfl (ug_4 (List.mem_of_getElem? (i := 234) rfl) rfl) mw_X12_set mv_X12_set (Nat.le_of_ble_eq_true rfl) (c_X12_set _ w2 100000 (xs (i + 1)) (xs (i + 2)) M2) e2 rfl (Nat.le_of_ble_eq_true rfl) (eM_0 _ _ _) rfl rfl (Nat.le_of_ble_eq_true rfl) hnk ?_
  refine l_sw ?_
  exact l_same g dL_law_321 (tgt := 1142) rfl (kk N1 N2 H2)
theorem lw_c4 (g : GLw Z b Ln xs) (D : LD Z w1 w2) (hLn : Ln ≤ 2048) (hi : i + 4 ≤ Ln) (hnk : n ≤ 600000 ∧ k ≤ 7302250) (H : Rel M1 M2) (kk : ∀ N1 N2, Rel N1 N2 → LX Z (Pw2 w1 w2 N1 N2) 1142 (Lv b w1 w2 i) [] n k Q) : LX Z (Pw2 w1 w2 M1 M2) 326 (Lv b w1 w2 i) [] n k Q := by
  obtain ⟨r, N1, N2, e1, e2, H2⟩ := step_undo (N := 100000) H 
  refine l_aload_n g dL_law_326 rfl rfl ?_
  refine l_call (K := KC) (K2 := KM) (w := w1) (w2 := w2) (M := M1) (M2 := M2) (d := 1) (As := []) (rest := []) g D.1 D.2.2.1 D.2.2.2.2.1 D.2.2.2.2.2.2.1 D.2.2.2.2.2.2.2.2 dL_law_327 rfl (ug_2 (List.mem_of_getElem? (i := 99) rfl) rfl) mw_X11_undo mv_X11_undo (Nat.le_of_ble_eq_true rfl) (c_X11_undo _ w1 100000  M1) e1 rfl (Nat.le_of_ble_eq_true rfl) (eC_0 _ _ _) rfl rfl (Nat.le_of_ble_eq_true rfl) hnk ?_
  refine l_sw ?_
  refine l_aload_n g dL_law_330 rfl rfl ?_
  refine l_call (K := KM) (K2 := KC) (w := w2) (w2 := w1) (M := M2) (M2 := N1) (d := 1) (As := []) (rest := [.int r]) g D.2.1 D.2.2.2.1 D.2.2.2.2.2.1 D.2.2.2.2.2.2.2.1 (fun a c z1 z2 => (D.2.2.2.2.2.2.2.2 c a z2 z1).symm) dL_law_331 rfl (ug_5 (List.mem_of_getElem? (i := 1) rfl) rfl) mw_X12_undo mv_X12_undo (Nat.le_of_ble_eq_true rfl) (c_X12_undo _ w2 100000  M2) e2 rfl (Nat.le_of_ble_eq_true rfl) (eM_0 _ _ _) rfl rfl (Nat.le_of_ble_eq_true rfl) hnk ?_
  refine l_sw ?_
  exact l_same g dL_law_334 (tgt := 1142) rfl (kk N1 N2 H2)
theorem lw_c5 (g : GLw Z b Ln xs) (D : LD Z w1 w2) (hLn : Ln ≤ 2048) (hi : i + 4 ≤ Ln) (hnk : n ≤ 600000 ∧ k ≤ 7302250) (H : Rel M1 M2) (kk : ∀ N1 N2, Rel N1 N2 → LX Z (Pw2 w1 w2 N1 N2) 1142 (Lv b w1 w2 i) [] n k Q) : LX Z (Pw2 w1 w2 M1 M2) 339 (Lv b w1 w2 i) [] n k Q := by
  obtain ⟨r, N1, N2, e1, e2, H2⟩ := step_feed (N := 100000) (Nat.le_refl _) H (xs (i + 1)) (lshl (xs (i + 2)).toInt64 32 ||| ((xs (i + 3)).toInt64 &&& 4294967295))
  refine l_aload_n g dL_law_339 rfl rfl ?_
  refine l_arg (j := 1) g rfl dL_law_340 dL_law_341 dL_law_342 dL_law_343 dL_law_344 rfl (by omega) hLn rfl ?_
  refine l_arg (j := 2) g rfl dL_law_345 dL_law_346 dL_law_347 dL_law_348 dL_law_349 rfl (by omega) hLn rfl ?_
  refine l_i2l g dL_law_350 rfl ?_
  refine l_bipush (v := 32) g dL_law_351 rfl rfl ?_
  refine l_lshl g dL_law_353 rfl ?_
  refine l_arg (j := 3) g rfl dL_law_354 dL_law_355 dL_law_356 dL_law_357 dL_law_358 rfl (by omega) hLn rfl ?_
  refine l_i2l g dL_law_359 rfl ?_
  refine l_ldc2 (v := 4294967295) g dL_law_360 rfl (ug_6 (List.mem_of_getElem? (i := 53) rfl) rfl) ?_
  refine l_land g dL_law_363 rfl ?_
  refine l_lor g dL_law_364 rfl ?_
  refine l_call (K := KC) (K2 := KM) (w := w1) (w2 := w2) (M := M1) (M2 := M2) (d := 1) (As := [.int (xs (i + 1)), .long (lshl (xs (i + 2)).toInt64 32 ||| ((xs (i + 3)).toInt64 &&& 4294967295))]) (rest := []) g D.1 D.2.2.1 D.2.2.2.2.1 D.2.2.2.2.2.2.1 D.2.2.2.2.2.2.2.2 dL_law_365 rfl (ug_2 (List.mem_of_getElem? (i := 107) rfl) rfl) mw_X11_feed mv_X11_feed (Nat.le_of_ble_eq_true rfl) (c_X11_feed _ w1 100000 (xs (i + 1)) (lshl (xs (i + 2)).toInt64 32 ||| ((xs (i + 3)).toInt64 &&& 4294967295)) M1) e1 rfl (Nat.le_of_ble_eq_true rfl) (eC_0 _ _ _) rfl rfl (Nat.le_of_ble_eq_true rfl) hnk ?_
  refine l_sw ?_
  refine l_aload_n g dL_law_368 rfl rfl ?_
  refine l_arg (j := 1) g rfl dL_law_369 dL_law_370 dL_law_371 dL_law_372 dL_law_373 rfl (by omega) hLn rfl ?_
  refine l_arg (j := 2) g rfl dL_law_374 dL_law_375 dL_law_376 dL_law_377 dL_law_378 rfl (by omega) hLn rfl ?_
  refine l_i2l g dL_law_379 rfl ?_
  refine l_bipush (v := 32) g dL_law_380 rfl rfl ?_
  refine l_lshl g dL_law_382 rfl ?_
  refine l_arg (j := 3) g rfl dL_law_383 dL_law_384 dL_law_385 dL_law_386 dL_law_387 rfl (by omega) hLn rfl ?_
  refine l_i2l g dL_law_388 rfl ?_
  refine l_ldc2 (v := 4294967295) g dL_law_389 rfl (ug_6 (List.mem_of_getElem? (i := 53) rfl) rfl) ?_
  refine l_land g dL_law_392 rfl ?_
  refine l_lor g dL_law_393 rfl ?_
  refine l_call (K := KM) (K2 := KC) (w := w2) (w2 := w1) (M := M2) (M2 := N1) (d := 1) (As := [.int (xs (i + 1)), .long (lshl (xs (i + 2)).toInt64 32 ||| ((xs (i + 3)).toInt64 &&& 4294967295))]) (rest := [.int r]) g D.2.1 D.2.2.2.1 D.2.2.2.2.2.1 D.2.2.2.2.2.2.2.1 (fun a c z1 z2 => (D.2.2.2.2.2.2.2.2 c a z2 z1).symm) dL_law_394 rfl (ug_5 (List.mem_of_getElem? (i := 5) rfl) rfl) mw_X12_feed mv_X12_feed (Nat.le_of_ble_eq_true rfl) (c_X12_feed _ w2 100000 (xs (i + 1)) (lshl (xs (i + 2)).toInt64 32 ||| ((xs (i + 3)).toInt64 &&& 4294967295)) M2) e2 rfl (Nat.le_of_ble_eq_true rfl) (eM_0 _ _ _) rfl rfl (Nat.le_of_ble_eq_true rfl) hnk ?_
  refine l_sw ?_
  exact l_same g dL_law_397 (tgt := 1142) rfl (kk N1 N2 H2)
theorem lw_c6 (g : GLw Z b Ln xs) (D : LD Z w1 w2) (hLn : Ln ≤ 2048) (hi : i + 4 ≤ Ln) (hnk : n ≤ 600000 ∧ k ≤ 7302250) (H : Rel M1 M2) (kk : ∀ N1 N2, Rel N1 N2 → LX Z (Pw2 w1 w2 N1 N2) 1142 (Lv b w1 w2 i) [] n k Q) : LX Z (Pw2 w1 w2 M1 M2) 402 (Lv b w1 w2 i) [] n k Q := by
  obtain ⟨r, N1, N2, e1, e2, H2⟩ := step_law (N := 100000) (Nat.le_refl _) H 
  refine l_aload_n g dL_law_402 rfl rfl ?_
  refine l_call (K := KC) (K2 := KM) (w := w1) (w2 := w2) (M := M1) (M2 := M2) (d := 24) (As := []) (rest := []) g D.1 D.2.2.1 D.2.2.2.2.1 D.2.2.2.2.2.2.1 D.2.2.2.2.2.2.2.2 dL_law_403 rfl (ug_2 (List.mem_of_getElem? (i := 116) rfl) rfl) mw_X11_law mv_X11_law (Nat.le_of_ble_eq_true rfl) (c_X11_law _ w1 100000  M1) e1 rfl (Nat.le_of_ble_eq_true rfl) (eC_0 _ _ _) rfl rfl (Nat.le_of_ble_eq_true rfl) hnk ?_
  refine l_sw ?_
  refine l_aload_n g dL_law_406 rfl rfl ?_
  refine l_call (K := KM) (K2 := KC) (w := w2) (w2 := w1) (M := M2) (M2 := N1) (d := 4) (As := []) (rest := [.int r]) g D.2.1 D.2.2.2.1 D.2.2.2.2.2.1 D.2.2.2.2.2.2.2.1 (fun a c z1 z2 => (D.2.2.2.2.2.2.2.2 c a z2 z1).symm) dL_law_407 rfl (ug_5 (List.mem_of_getElem? (i := 11) rfl) rfl) mw_X12_law mv_X12_law (Nat.le_of_ble_eq_true rfl) (c_X12_law _ w2 100000  M2) e2 rfl (Nat.le_of_ble_eq_true rfl) (eM_0 _ _ _) rfl rfl (Nat.le_of_ble_eq_true rfl) hnk ?_
  refine l_sw ?_
  exact l_same g dL_law_410 (tgt := 1142) rfl (kk N1 N2 H2)
theorem lw_c7 (g : GLw Z b Ln xs) (D : LD Z w1 w2) (hLn : Ln ≤ 2048) (hi : i + 4 ≤ Ln) (hnk : n ≤ 600000 ∧ k ≤ 7302250) (H : Rel M1 M2) (kk : ∀ N1 N2, Rel N1 N2 → LX Z (Pw2 w1 w2 N1 N2) 1142 (Lv b w1 w2 i) [] n k Q) : LX Z (Pw2 w1 w2 M1 M2) 415 (Lv b w1 w2 i) [] n k Q := by
  obtain ⟨r, N1, N2, e1, e2, H2⟩ := step_holds (N := 100000) H (xs (i + 1)) (!(xs (i + 2) == 0))
  refine l_aload_n g dL_law_415 rfl rfl ?_
  refine l_arg (j := 1) g rfl dL_law_416 dL_law_417 dL_law_418 dL_law_419 dL_law_420 rfl (by omega) hLn rfl ?_
  refine l_arg (j := 2) g rfl dL_law_421 dL_law_422 dL_law_423 dL_law_424 dL_law_425 rfl (by omega) hLn rfl ?_
  refine l_bool g dL_law_426 dL_law_429 dL_law_430 dL_law_433 rfl ?_
  refine l_call (K := KC) (K2 := KM) (w := w1) (w2 := w2) (M := M1) (M2 := M2) (d := 1) (As := [.int (xs (i + 1)), .int (b01 (!(xs (i + 2) == 0)))]) (rest := []) g D.1 D.2.2.1 D.2.2.2.2.1 D.2.2.2.2.2.2.1 D.2.2.2.2.2.2.2.2 dL_law_434 rfl (ug_2 (List.mem_of_getElem? (i := 178) rfl) rfl) mw_X11_holds mv_X11_holds (Nat.le_of_ble_eq_true rfl) (c_X11_holds _ w1 100000 (xs (i + 1)) (b01 (!(xs (i + 2) == 0))) M1) e1 rfl (Nat.le_of_ble_eq_true rfl) (eC_0 _ _ _) rfl rfl (Nat.le_of_ble_eq_true rfl) hnk ?_
  refine l_sw ?_
  refine l_aload_n g dL_law_437 rfl rfl ?_
  refine l_arg (j := 1) g rfl dL_law_438 dL_law_439 dL_law_440 dL_law_441 dL_law_442 rfl (by omega) hLn rfl ?_
  refine l_arg (j := 2) g rfl dL_law_443 dL_law_444 dL_law_445 dL_law_446 dL_law_447 rfl (by omega) hLn rfl ?_
  refine l_bool g dL_law_448 dL_law_451 dL_law_452 dL_law_455 rfl ?_
  refine l_call (K := KM) (K2 := KC) (w := w2) (w2 := w1) (M := M2) (M2 := N1) (d := 1) (As := [.int (xs (i + 1)), .int (b01 (!(xs (i + 2) == 0)))]) (rest := [.int r]) g D.2.1 D.2.2.2.1 D.2.2.2.2.2.1 D.2.2.2.2.2.2.2.1 (fun a c z1 z2 => (D.2.2.2.2.2.2.2.2 c a z2 z1).symm) dL_law_456 rfl (ug_5 (List.mem_of_getElem? (i := 38) rfl) rfl) mw_X12_holds mv_X12_holds (Nat.le_of_ble_eq_true rfl) (c_X12_holds _ w2 100000 (xs (i + 1)) (b01 (!(xs (i + 2) == 0))) M2) e2 rfl (Nat.le_of_ble_eq_true rfl) (eM_0 _ _ _) rfl rfl (Nat.le_of_ble_eq_true rfl) hnk ?_
  refine l_sw ?_
  exact l_same g dL_law_459 (tgt := 1142) rfl (kk N1 N2 H2)
theorem lw_c8 (g : GLw Z b Ln xs) (D : LD Z w1 w2) (hLn : Ln ≤ 2048) (hi : i + 4 ≤ Ln) (hnk : n ≤ 600000 ∧ k ≤ 7302250) (H : Rel M1 M2) (kk : ∀ N1 N2, Rel N1 N2 → LX Z (Pw2 w1 w2 N1 N2) 1142 (Lv b w1 w2 i) [] n k Q) : LX Z (Pw2 w1 w2 M1 M2) 464 (Lv b w1 w2 i) [] n k Q := by
  obtain ⟨r, N1, N2, e1, e2, H2⟩ := step_rule (N := 100000) (Nat.le_refl _) H (xs (i + 1)) (xs (i + 2))
  refine l_aload_n g dL_law_464 rfl rfl ?_
  refine l_arg (j := 1) g rfl dL_law_465 dL_law_466 dL_law_467 dL_law_468 dL_law_469 rfl (by omega) hLn rfl ?_
  refine l_arg (j := 2) g rfl dL_law_470 dL_law_471 dL_law_472 dL_law_473 dL_law_474 rfl (by omega) hLn rfl ?_
  refine l_call (K := KC) (K2 := KM) (w := w1) (w2 := w2) (M := M1) (M2 := M2) (d := 24) (As := [.int (xs (i + 1)), .int (xs (i + 2))]) (rest := []) g D.1 D.2.2.1 D.2.2.2.2.1 D.2.2.2.2.2.2.1 D.2.2.2.2.2.2.2.2 dL_law_475 rfl (ug_2 (List.mem_of_getElem? (i := 182) rfl) rfl) mw_X11_rule mv_X11_rule (Nat.le_of_ble_eq_true rfl) (c_X11_rule _ w1 100000 (xs (i + 1)) (xs (i + 2)) M1) e1 rfl (Nat.le_of_ble_eq_true rfl) (eC_0 _ _ _) rfl rfl (Nat.le_of_ble_eq_true rfl) hnk ?_
  refine l_sw ?_
  refine l_aload_n g dL_law_478 rfl rfl ?_
  refine l_arg (j := 1) g rfl dL_law_479 dL_law_480 dL_law_481 dL_law_482 dL_law_483 rfl (by omega) hLn rfl ?_
  refine l_arg (j := 2) g rfl dL_law_484 dL_law_485 dL_law_486 dL_law_487 dL_law_488 rfl (by omega) hLn rfl ?_
  refine l_call (K := KM) (K2 := KC) (w := w2) (w2 := w1) (M := M2) (M2 := N1) (d := 4) (As := [.int (xs (i + 1)), .int (xs (i + 2))]) (rest := [.int r]) g D.2.1 D.2.2.2.1 D.2.2.2.2.2.1 D.2.2.2.2.2.2.2.1 (fun a c z1 z2 => (D.2.2.2.2.2.2.2.2 c a z2 z1).symm) dL_law_489 rfl (ug_5 (List.mem_of_getElem? (i := 42) rfl) rfl) mw_X12_rule mv_X12_rule (Nat.le_of_ble_eq_true rfl) (c_X12_rule _ w2 100000 (xs (i + 1)) (xs (i + 2)) M2) e2 rfl (Nat.le_of_ble_eq_true rfl) (eM_0 _ _ _) rfl rfl (Nat.le_of_ble_eq_true rfl) hnk ?_
  refine l_sw ?_
  exact l_same g dL_law_492 (tgt := 1142) rfl (kk N1 N2 H2)
theorem lw_c9 (g : GLw Z b Ln xs) (D : LD Z w1 w2) (hLn : Ln ≤ 2048) (hi : i + 4 ≤ Ln) (hnk : n ≤ 600000 ∧ k ≤ 7302250) (H : Rel M1 M2) (kk : ∀ N1 N2, Rel N1 N2 → LX Z (Pw2 w1 w2 N1 N2) 1142 (Lv b w1 w2 i) [] n k Q) : LX Z (Pw2 w1 w2 M1 M2) 497 (Lv b w1 w2 i) [] n k Q := by
  obtain ⟨r, N1, N2, e1, e2, H2⟩ := step_unrule (N := 100000) H (xs (i + 1))
  refine l_aload_n g dL_law_497 rfl rfl ?_
  refine l_arg (j := 1) g rfl dL_law_498 dL_law_499 dL_law_500 dL_law_501 dL_law_502 rfl (by omega) hLn rfl ?_
  refine l_call (K := KC) (K2 := KM) (w := w1) (w2 := w2) (M := M1) (M2 := M2) (d := 1) (As := [.int (xs (i + 1))]) (rest := []) g D.1 D.2.2.1 D.2.2.2.2.1 D.2.2.2.2.2.2.1 D.2.2.2.2.2.2.2.2 dL_law_503 rfl (ug_2 (List.mem_of_getElem? (i := 239) rfl) rfl) mw_X11_unrule mv_X11_unrule (Nat.le_of_ble_eq_true rfl) (c_X11_unrule _ w1 100000 (xs (i + 1)) M1) e1 rfl (Nat.le_of_ble_eq_true rfl) (eC_0 _ _ _) rfl rfl (Nat.le_of_ble_eq_true rfl) hnk ?_
  refine l_sw ?_
  refine l_aload_n g dL_law_506 rfl rfl ?_
  refine l_arg (j := 1) g rfl dL_law_507 dL_law_508 dL_law_509 dL_law_510 dL_law_511 rfl (by omega) hLn rfl ?_
  refine l_call (K := KM) (K2 := KC) (w := w2) (w2 := w1) (M := M2) (M2 := N1) (d := 1) (As := [.int (xs (i + 1))]) (rest := [.int r]) g D.2.1 D.2.2.2.1 D.2.2.2.2.2.1 D.2.2.2.2.2.2.2.1 (fun a c z1 z2 => (D.2.2.2.2.2.2.2.2 c a z2 z1).symm) dL_law_512 rfl (ug_5 (List.mem_of_getElem? (i := 54) rfl) rfl) mw_X12_unrule mv_X12_unrule (Nat.le_of_ble_eq_true rfl) (c_X12_unrule _ w2 100000 (xs (i + 1)) M2) e2 rfl (Nat.le_of_ble_eq_true rfl) (eM_0 _ _ _) rfl rfl (Nat.le_of_ble_eq_true rfl) hnk ?_
  refine l_sw ?_
  exact l_same g dL_law_515 (tgt := 1142) rfl (kk N1 N2 H2)
theorem lw_c10 (g : GLw Z b Ln xs) (D : LD Z w1 w2) (hLn : Ln ≤ 2048) (hi : i + 4 ≤ Ln) (hnk : n ≤ 600000 ∧ k ≤ 7302250) (H : Rel M1 M2) (kk : ∀ N1 N2, Rel N1 N2 → LX Z (Pw2 w1 w2 N1 N2) 1142 (Lv b w1 w2 i) [] n k Q) : LX Z (Pw2 w1 w2 M1 M2) 520 (Lv b w1 w2 i) [] n k Q := by
  obtain ⟨r, N1, N2, e1, e2, H2⟩ := step_inSet (N := 100000) (Nat.le_refl _) H (xs (i + 1))
  refine l_aload_n g dL_law_520 rfl rfl ?_
  refine l_arg (j := 1) g rfl dL_law_521 dL_law_522 dL_law_523 dL_law_524 dL_law_525 rfl (by omega) hLn rfl ?_
  refine l_call (K := KC) (K2 := KM) (w := w1) (w2 := w2) (M := M1) (M2 := M2) (d := 3) (As := [.int (xs (i + 1))]) (rest := []) g D.1 D.2.2.1 D.2.2.2.2.1 D.2.2.2.2.2.2.1 D.2.2.2.2.2.2.2.2 dL_law_526 rfl (ug_3 (List.mem_of_getElem? (i := 3) rfl) rfl) mw_X11_inSet mv_X11_inSet (Nat.le_of_ble_eq_true rfl) (c_X11_inSet _ w1 100000 (xs (i + 1)) M1) e1 rfl (Nat.le_of_ble_eq_true rfl) (eC_0 _ _ _) rfl rfl (Nat.le_of_ble_eq_true rfl) hnk ?_
  refine l_sw ?_
  refine l_aload_n g dL_law_529 rfl rfl ?_
  refine l_arg (j := 1) g rfl dL_law_530 dL_law_531 dL_law_532 dL_law_533 dL_law_534 rfl (by omega) hLn rfl ?_
  refine l_call (K := KM) (K2 := KC) (w := w2) (w2 := w1) (M := M2) (M2 := N1) (d := 6) (As := [.int (xs (i + 1))]) (rest := [.int r]) g D.2.1 D.2.2.2.1 D.2.2.2.2.2.1 D.2.2.2.2.2.2.2.1 (fun a c z1 z2 => (D.2.2.2.2.2.2.2.2 c a z2 z1).symm) dL_law_535 rfl (ug_5 (List.mem_of_getElem? (i := 58) rfl) rfl) mw_X12_inSet mv_X12_inSet (Nat.le_of_ble_eq_true rfl) (c_X12_inSet _ w2 100000 (xs (i + 1)) M2) e2 rfl (Nat.le_of_ble_eq_true rfl) (eM_0 _ _ _) rfl rfl (Nat.le_of_ble_eq_true rfl) hnk ?_
  refine l_sw ?_
  exact l_same g dL_law_538 (tgt := 1142) rfl (kk N1 N2 H2)
theorem lw_c11 (g : GLw Z b Ln xs) (D : LD Z w1 w2) (hLn : Ln ≤ 2048) (hi : i + 4 ≤ Ln) (hnk : n ≤ 600000 ∧ k ≤ 7302250) (H : Rel M1 M2) (kk : ∀ N1 N2, Rel N1 N2 → LX Z (Pw2 w1 w2 N1 N2) 1142 (Lv b w1 w2 i) [] n k Q) : LX Z (Pw2 w1 w2 M1 M2) 543 (Lv b w1 w2 i) [] n k Q := by
  obtain ⟨r, N1, N2, e1, e2, H2⟩ := step_later (N := 100000) (Nat.le_refl _) H (xs (i + 1)) (xs (i + 2))
  refine l_aload_n g dL_law_543 rfl rfl ?_
  refine l_arg (j := 1) g rfl dL_law_544 dL_law_545 dL_law_546 dL_law_547 dL_law_548 rfl (by omega) hLn rfl ?_
  refine l_arg (j := 2) g rfl dL_law_549 dL_law_550 dL_law_551 dL_law_552 dL_law_553 rfl (by omega) hLn rfl ?_
  refine l_call (K := KC) (K2 := KM) (w := w1) (w2 := w2) (M := M1) (M2 := M2) (d := 4) (As := [.int (xs (i + 1)), .int (xs (i + 2))]) (rest := []) g D.1 D.2.2.1 D.2.2.2.2.1 D.2.2.2.2.2.2.1 D.2.2.2.2.2.2.2.2 dL_law_554 rfl (ug_3 (List.mem_of_getElem? (i := 20) rfl) rfl) mw_X11_later mv_X11_later (Nat.le_of_ble_eq_true rfl) (c_X11_later _ w1 100000 (xs (i + 1)) (xs (i + 2)) M1) e1 rfl (Nat.le_of_ble_eq_true rfl) (eC_0 _ _ _) rfl rfl (Nat.le_of_ble_eq_true rfl) hnk ?_
  refine l_sw ?_
  refine l_aload_n g dL_law_557 rfl rfl ?_
  refine l_arg (j := 1) g rfl dL_law_558 dL_law_559 dL_law_560 dL_law_561 dL_law_562 rfl (by omega) hLn rfl ?_
  refine l_arg (j := 2) g rfl dL_law_563 dL_law_564 dL_law_565 dL_law_566 dL_law_567 rfl (by omega) hLn rfl ?_
  refine l_call (K := KM) (K2 := KC) (w := w2) (w2 := w1) (M := M2) (M2 := N1) (d := 5) (As := [.int (xs (i + 1)), .int (xs (i + 2))]) (rest := [.int r]) g D.2.1 D.2.2.2.1 D.2.2.2.2.2.1 D.2.2.2.2.2.2.2.1 (fun a c z1 z2 => (D.2.2.2.2.2.2.2.2 c a z2 z1).symm) dL_law_568 rfl (ug_5 (List.mem_of_getElem? (i := 151) rfl) rfl) mw_X12_later mv_X12_later (Nat.le_of_ble_eq_true rfl) (c_X12_later _ w2 100000 (xs (i + 1)) (xs (i + 2)) M2) e2 rfl (Nat.le_of_ble_eq_true rfl) (eM_0 _ _ _) rfl rfl (Nat.le_of_ble_eq_true rfl) hnk ?_
  refine l_sw ?_
  exact l_same g dL_law_571 (tgt := 1142) rfl (kk N1 N2 H2)
theorem lw_c12 (g : GLw Z b Ln xs) (D : LD Z w1 w2) (hLn : Ln ≤ 2048) (hi : i + 4 ≤ Ln) (hnk : n ≤ 600000 ∧ k ≤ 7302250) (H : Rel M1 M2) (kk : ∀ N1 N2, Rel N1 N2 → LX Z (Pw2 w1 w2 N1 N2) 1142 (Lv b w1 w2 i) [] n k Q) : LX Z (Pw2 w1 w2 M1 M2) 576 (Lv b w1 w2 i) [] n k Q := by
  obtain ⟨r, N1, N2, e1, e2, H2⟩ := step_cost (N := 100000) (Nat.le_refl _) H (xs (i + 1)) (xs (i + 2))
  refine l_aload_n g dL_law_576 rfl rfl ?_
  refine l_arg (j := 1) g rfl dL_law_577 dL_law_578 dL_law_579 dL_law_580 dL_law_581 rfl (by omega) hLn rfl ?_
  refine l_arg (j := 2) g rfl dL_law_582 dL_law_583 dL_law_584 dL_law_585 dL_law_586 rfl (by omega) hLn rfl ?_
  refine l_call (K := KC) (K2 := KM) (w := w1) (w2 := w2) (M := M1) (M2 := M2) (d := 4) (As := [.int (xs (i + 1)), .int (xs (i + 2))]) (rest := []) g D.1 D.2.2.1 D.2.2.2.2.1 D.2.2.2.2.2.2.1 D.2.2.2.2.2.2.2.2 dL_law_587 rfl (ug_3 (List.mem_of_getElem? (i := 73) rfl) rfl) mw_X11_cost mv_X11_cost (Nat.le_of_ble_eq_true rfl) (c_X11_cost _ w1 100000 (xs (i + 1)) (xs (i + 2)) M1) e1 rfl (Nat.le_of_ble_eq_true rfl) (eC_0 _ _ _) rfl rfl (Nat.le_of_ble_eq_true rfl) hnk ?_
  refine l_sw ?_
  refine l_aload_n g dL_law_590 rfl rfl ?_
  refine l_arg (j := 1) g rfl dL_law_591 dL_law_592 dL_law_593 dL_law_594 dL_law_595 rfl (by omega) hLn rfl ?_
  refine l_arg (j := 2) g rfl dL_law_596 dL_law_597 dL_law_598 dL_law_599 dL_law_600 rfl (by omega) hLn rfl ?_
  refine l_call (K := KM) (K2 := KC) (w := w2) (w2 := w1) (M := M2) (M2 := N1) (d := 6) (As := [.int (xs (i + 1)), .int (xs (i + 2))]) (rest := [.int r]) g D.2.1 D.2.2.2.1 D.2.2.2.2.2.1 D.2.2.2.2.2.2.2.1 (fun a c z1 z2 => (D.2.2.2.2.2.2.2.2 c a z2 z1).symm) dL_law_601 rfl (ug_5 (List.mem_of_getElem? (i := 155) rfl) rfl) mw_X12_cost mv_X12_cost (Nat.le_of_ble_eq_true rfl) (c_X12_cost _ w2 100000 (xs (i + 1)) (xs (i + 2)) M2) e2 rfl (Nat.le_of_ble_eq_true rfl) (eM_0 _ _ _) rfl rfl (Nat.le_of_ble_eq_true rfl) hnk ?_
  refine l_sw ?_
  exact l_same g dL_law_604 (tgt := 1142) rfl (kk N1 N2 H2)
theorem lw_c13 (g : GLw Z b Ln xs) (D : LD Z w1 w2) (hLn : Ln ≤ 2048) (hi : i + 4 ≤ Ln) (hnk : n ≤ 600000 ∧ k ≤ 7302250) (H : Rel M1 M2) (kk : ∀ N1 N2, Rel N1 N2 → LX Z (Pw2 w1 w2 N1 N2) 1142 (Lv b w1 w2 i) [] n k Q) : LX Z (Pw2 w1 w2 M1 M2) 609 (Lv b w1 w2 i) [] n k Q := by
  obtain ⟨r, N1, N2, e1, e2, H2⟩ := step_worst (N := 100000) (Nat.le_refl _) H (xs (i + 1)) (xs (i + 2))
  refine l_aload_n g dL_law_609 rfl rfl ?_
  refine l_arg (j := 1) g rfl dL_law_610 dL_law_611 dL_law_612 dL_law_613 dL_law_614 rfl (by omega) hLn rfl ?_
  refine l_arg (j := 2) g rfl dL_law_615 dL_law_616 dL_law_617 dL_law_618 dL_law_619 rfl (by omega) hLn rfl ?_
  refine l_call (K := KC) (K2 := KM) (w := w1) (w2 := w2) (M := M1) (M2 := M2) (d := 6) (As := [.int (xs (i + 1)), .int (xs (i + 2))]) (rest := []) g D.1 D.2.2.1 D.2.2.2.2.1 D.2.2.2.2.2.2.1 D.2.2.2.2.2.2.2.2 dL_law_620 rfl (ug_3 (List.mem_of_getElem? (i := 77) rfl) rfl) mw_X11_worst mv_X11_worst (Nat.le_of_ble_eq_true rfl) (c_X11_worst _ w1 100000 (xs (i + 1)) (xs (i + 2)) M1) e1 rfl (Nat.le_of_ble_eq_true rfl) (eC_0 _ _ _) rfl rfl (Nat.le_of_ble_eq_true rfl) hnk ?_
  refine l_sw ?_
  refine l_aload_n g dL_law_623 rfl rfl ?_
  refine l_arg (j := 1) g rfl dL_law_624 dL_law_625 dL_law_626 dL_law_627 dL_law_628 rfl (by omega) hLn rfl ?_
  refine l_arg (j := 2) g rfl dL_law_629 dL_law_630 dL_law_631 dL_law_632 dL_law_633 rfl (by omega) hLn rfl ?_
  refine l_call (K := KM) (K2 := KC) (w := w2) (w2 := w1) (M := M2) (M2 := N1) (d := 6) (As := [.int (xs (i + 1)), .int (xs (i + 2))]) (rest := [.int r]) g D.2.1 D.2.2.2.1 D.2.2.2.2.2.1 D.2.2.2.2.2.2.2.1 (fun a c z1 z2 => (D.2.2.2.2.2.2.2.2 c a z2 z1).symm) dL_law_634 rfl (ug_5 (List.mem_of_getElem? (i := 159) rfl) rfl) mw_X12_worst mv_X12_worst (Nat.le_of_ble_eq_true rfl) (c_X12_worst _ w2 100000 (xs (i + 1)) (xs (i + 2)) M2) e2 rfl (Nat.le_of_ble_eq_true rfl) (eM_0 _ _ _) rfl rfl (Nat.le_of_ble_eq_true rfl) hnk ?_
  refine l_sw ?_
  exact l_same g dL_law_637 (tgt := 1142) rfl (kk N1 N2 H2)
theorem lw_c14 (g : GLw Z b Ln xs) (D : LD Z w1 w2) (hLn : Ln ≤ 2048) (hi : i + 4 ≤ Ln) (hnk : n ≤ 600000 ∧ k ≤ 7302250) (H : Rel M1 M2) (kk : ∀ N1 N2, Rel N1 N2 → LX Z (Pw2 w1 w2 N1 N2) 1142 (Lv b w1 w2 i) [] n k Q) : LX Z (Pw2 w1 w2 M1 M2) 642 (Lv b w1 w2 i) [] n k Q := by
  obtain ⟨r, N1, N2, e1, e2, H2⟩ := step_best (N := 100000) (Nat.le_refl _) H (xs (i + 1))
  refine l_aload_n g dL_law_642 rfl rfl ?_
  refine l_arg (j := 1) g rfl dL_law_643 dL_law_644 dL_law_645 dL_law_646 dL_law_647 rfl (by omega) hLn rfl ?_
  refine l_call (K := KC) (K2 := KM) (w := w1) (w2 := w2) (M := M1) (M2 := M2) (d := 6) (As := [.int (xs (i + 1))]) (rest := []) g D.1 D.2.2.1 D.2.2.2.2.1 D.2.2.2.2.2.2.1 D.2.2.2.2.2.2.2.2 dL_law_648 rfl (ug_3 (List.mem_of_getElem? (i := 91) rfl) rfl) mw_X11_best mv_X11_best (Nat.le_of_ble_eq_true rfl) (c_X11_best _ w1 100000 (xs (i + 1)) M1) e1 rfl (Nat.le_of_ble_eq_true rfl) (eC_0 _ _ _) rfl rfl (Nat.le_of_ble_eq_true rfl) hnk ?_
  refine l_sw ?_
  refine l_aload_n g dL_law_651 rfl rfl ?_
  refine l_arg (j := 1) g rfl dL_law_652 dL_law_653 dL_law_654 dL_law_655 dL_law_656 rfl (by omega) hLn rfl ?_
  refine l_call (K := KM) (K2 := KC) (w := w2) (w2 := w1) (M := M2) (M2 := N1) (d := 6) (As := [.int (xs (i + 1))]) (rest := [.int r]) g D.2.1 D.2.2.2.1 D.2.2.2.2.2.1 D.2.2.2.2.2.2.2.1 (fun a c z1 z2 => (D.2.2.2.2.2.2.2.2 c a z2 z1).symm) dL_law_657 rfl (ug_5 (List.mem_of_getElem? (i := 167) rfl) rfl) mw_X12_best mv_X12_best (Nat.le_of_ble_eq_true rfl) (c_X12_best _ w2 100000 (xs (i + 1)) M2) e2 rfl (Nat.le_of_ble_eq_true rfl) (eM_0 _ _ _) rfl rfl (Nat.le_of_ble_eq_true rfl) hnk ?_
  refine l_sw ?_
  exact l_same g dL_law_660 (tgt := 1142) rfl (kk N1 N2 H2)
theorem lw_c15 (g : GLw Z b Ln xs) (D : LD Z w1 w2) (hLn : Ln ≤ 2048) (hi : i + 4 ≤ Ln) (hnk : n ≤ 600000 ∧ k ≤ 7302250) (H : Rel M1 M2) (kk : ∀ N1 N2, Rel N1 N2 → LX Z (Pw2 w1 w2 N1 N2) 1142 (Lv b w1 w2 i) [] n k Q) : LX Z (Pw2 w1 w2 M1 M2) 665 (Lv b w1 w2 i) [] n k Q := by
  obtain ⟨r, N1, N2, e1, e2, H2⟩ := step_byRules (N := 100000) (Nat.le_refl _) H (xs (i + 1)) (xs (i + 2))
  refine l_aload_n g dL_law_665 rfl rfl ?_
  refine l_arg (j := 1) g rfl dL_law_666 dL_law_667 dL_law_668 dL_law_669 dL_law_670 rfl (by omega) hLn rfl ?_
  refine l_arg (j := 2) g rfl dL_law_671 dL_law_672 dL_law_673 dL_law_674 dL_law_675 rfl (by omega) hLn rfl ?_
  refine l_call (K := KC) (K2 := KM) (w := w1) (w2 := w2) (M := M1) (M2 := M2) (d := 4) (As := [.int (xs (i + 1)), .int (xs (i + 2))]) (rest := []) g D.1 D.2.2.1 D.2.2.2.2.1 D.2.2.2.2.2.2.1 D.2.2.2.2.2.2.2.2 dL_law_676 rfl (ug_3 (List.mem_of_getElem? (i := 100) rfl) rfl) mw_X11_byRules mv_X11_byRules (Nat.le_of_ble_eq_true rfl) (c_X11_byRules _ w1 100000 (xs (i + 1)) (xs (i + 2)) M1) e1 rfl (Nat.le_of_ble_eq_true rfl) (eC_0 _ _ _) rfl rfl (Nat.le_of_ble_eq_true rfl) hnk ?_
  refine l_sw ?_
  refine l_aload_n g dL_law_679 rfl rfl ?_
  refine l_arg (j := 1) g rfl dL_law_680 dL_law_681 dL_law_682 dL_law_683 dL_law_684 rfl (by omega) hLn rfl ?_
  refine l_arg (j := 2) g rfl dL_law_685 dL_law_686 dL_law_687 dL_law_688 dL_law_689 rfl (by omega) hLn rfl ?_
  refine l_call (K := KM) (K2 := KC) (w := w2) (w2 := w1) (M := M2) (M2 := N1) (d := 6) (As := [.int (xs (i + 1)), .int (xs (i + 2))]) (rest := [.int r]) g D.2.1 D.2.2.2.1 D.2.2.2.2.2.1 D.2.2.2.2.2.2.2.1 (fun a c z1 z2 => (D.2.2.2.2.2.2.2.2 c a z2 z1).symm) dL_law_690 rfl (ug_5 (List.mem_of_getElem? (i := 175) rfl) rfl) mw_X12_byRules mv_X12_byRules (Nat.le_of_ble_eq_true rfl) (c_X12_byRules _ w2 100000 (xs (i + 1)) (xs (i + 2)) M2) e2 rfl (Nat.le_of_ble_eq_true rfl) (eM_0 _ _ _) rfl rfl (Nat.le_of_ble_eq_true rfl) hnk ?_
  refine l_sw ?_
  exact l_same g dL_law_693 (tgt := 1142) rfl (kk N1 N2 H2)
theorem lw_c16 (g : GLw Z b Ln xs) (D : LD Z w1 w2) (hLn : Ln ≤ 2048) (hi : i + 4 ≤ Ln) (hnk : n ≤ 600000 ∧ k ≤ 7302250) (H : Rel M1 M2) (kk : ∀ N1 N2, Rel N1 N2 → LX Z (Pw2 w1 w2 N1 N2) 1142 (Lv b w1 w2 i) [] n k Q) : LX Z (Pw2 w1 w2 M1 M2) 698 (Lv b w1 w2 i) [] n k Q := by
  obtain ⟨r, N1, N2, e1, e2, H2⟩ := step_ruled (N := 100000) (Nat.le_refl _) H (xs (i + 1)) (xs (i + 2))
  refine l_aload_n g dL_law_698 rfl rfl ?_
  refine l_arg (j := 1) g rfl dL_law_699 dL_law_700 dL_law_701 dL_law_702 dL_law_703 rfl (by omega) hLn rfl ?_
  refine l_arg (j := 2) g rfl dL_law_704 dL_law_705 dL_law_706 dL_law_707 dL_law_708 rfl (by omega) hLn rfl ?_
  refine l_call (K := KC) (K2 := KM) (w := w1) (w2 := w2) (M := M1) (M2 := M2) (d := 6) (As := [.int (xs (i + 1)), .int (xs (i + 2))]) (rest := []) g D.1 D.2.2.1 D.2.2.2.2.1 D.2.2.2.2.2.2.1 D.2.2.2.2.2.2.2.2 dL_law_709 rfl (ug_3 (List.mem_of_getElem? (i := 128) rfl) rfl) mw_X11_ruled mv_X11_ruled (Nat.le_of_ble_eq_true rfl) (c_X11_ruled _ w1 100000 (xs (i + 1)) (xs (i + 2)) M1) e1 rfl (Nat.le_of_ble_eq_true rfl) (eC_0 _ _ _) rfl rfl (Nat.le_of_ble_eq_true rfl) hnk ?_
  refine l_sw ?_
  refine l_aload_n g dL_law_712 rfl rfl ?_
  refine l_arg (j := 1) g rfl dL_law_713 dL_law_714 dL_law_715 dL_law_716 dL_law_717 rfl (by omega) hLn rfl ?_
  refine l_arg (j := 2) g rfl dL_law_718 dL_law_719 dL_law_720 dL_law_721 dL_law_722 rfl (by omega) hLn rfl ?_
  refine l_call (K := KM) (K2 := KC) (w := w2) (w2 := w1) (M := M2) (M2 := N1) (d := 6) (As := [.int (xs (i + 1)), .int (xs (i + 2))]) (rest := [.int r]) g D.2.1 D.2.2.2.1 D.2.2.2.2.2.1 D.2.2.2.2.2.2.2.1 (fun a c z1 z2 => (D.2.2.2.2.2.2.2.2 c a z2 z1).symm) dL_law_723 rfl (ug_5 (List.mem_of_getElem? (i := 195) rfl) rfl) mw_X12_ruled mv_X12_ruled (Nat.le_of_ble_eq_true rfl) (c_X12_ruled _ w2 100000 (xs (i + 1)) (xs (i + 2)) M2) e2 rfl (Nat.le_of_ble_eq_true rfl) (eM_0 _ _ _) rfl rfl (Nat.le_of_ble_eq_true rfl) hnk ?_
  refine l_sw ?_
  exact l_same g dL_law_726 (tgt := 1142) rfl (kk N1 N2 H2)
theorem lw_c17 (g : GLw Z b Ln xs) (D : LD Z w1 w2) (hLn : Ln ≤ 2048) (hi : i + 4 ≤ Ln) (hnk : n ≤ 600000 ∧ k ≤ 7302250) (H : Rel M1 M2) (kk : ∀ N1 N2, Rel N1 N2 → LX Z (Pw2 w1 w2 N1 N2) 1142 (Lv b w1 w2 i) [] n k Q) : LX Z (Pw2 w1 w2 M1 M2) 731 (Lv b w1 w2 i) [] n k Q := by
  obtain ⟨r, N1, N2, e1, e2, H2⟩ := step_close (N := 100000) (Nat.le_refl _) H (xs (i + 1)) (xs (i + 2))
  refine l_aload_n g dL_law_731 rfl rfl ?_
  refine l_arg (j := 1) g rfl dL_law_732 dL_law_733 dL_law_734 dL_law_735 dL_law_736 rfl (by omega) hLn rfl ?_
  refine l_arg (j := 2) g rfl dL_law_737 dL_law_738 dL_law_739 dL_law_740 dL_law_741 rfl (by omega) hLn rfl ?_
  refine l_call (K := KC) (K2 := KM) (w := w1) (w2 := w2) (M := M1) (M2 := M2) (d := 7) (As := [.int (xs (i + 1)), .int (xs (i + 2))]) (rest := []) g D.1 D.2.2.1 D.2.2.2.2.1 D.2.2.2.2.2.2.1 D.2.2.2.2.2.2.2.2 dL_law_742 rfl (ug_3 (List.mem_of_getElem? (i := 137) rfl) rfl) mw_X11_close mv_X11_close (Nat.le_of_ble_eq_true rfl) (c_X11_close _ w1 100000 (xs (i + 1)) (xs (i + 2)) M1) e1 rfl (Nat.le_of_ble_eq_true rfl) (eC_0 _ _ _) rfl rfl (Nat.le_of_ble_eq_true rfl) hnk ?_
  refine l_sw ?_
  refine l_aload_n g dL_law_745 rfl rfl ?_
  refine l_arg (j := 1) g rfl dL_law_746 dL_law_747 dL_law_748 dL_law_749 dL_law_750 rfl (by omega) hLn rfl ?_
  refine l_arg (j := 2) g rfl dL_law_751 dL_law_752 dL_law_753 dL_law_754 dL_law_755 rfl (by omega) hLn rfl ?_
  refine l_call (K := KM) (K2 := KC) (w := w2) (w2 := w1) (M := M2) (M2 := N1) (d := 6) (As := [.int (xs (i + 1)), .int (xs (i + 2))]) (rest := [.int r]) g D.2.1 D.2.2.2.1 D.2.2.2.2.2.1 D.2.2.2.2.2.2.2.1 (fun a c z1 z2 => (D.2.2.2.2.2.2.2.2 c a z2 z1).symm) dL_law_756 rfl (ug_5 (List.mem_of_getElem? (i := 199) rfl) rfl) mw_X12_close mv_X12_close (Nat.le_of_ble_eq_true rfl) (c_X12_close _ w2 100000 (xs (i + 1)) (xs (i + 2)) M2) e2 rfl (Nat.le_of_ble_eq_true rfl) (eM_0 _ _ _) rfl rfl (Nat.le_of_ble_eq_true rfl) hnk ?_
  refine l_sw ?_
  exact l_same g dL_law_759 (tgt := 1142) rfl (kk N1 N2 H2)
theorem lw_c18 (g : GLw Z b Ln xs) (D : LD Z w1 w2) (hLn : Ln ≤ 2048) (hi : i + 4 ≤ Ln) (hnk : n ≤ 600000 ∧ k ≤ 7302250) (H : Rel M1 M2) (kk : ∀ N1 N2, Rel N1 N2 → LX Z (Pw2 w1 w2 N1 N2) 1142 (Lv b w1 w2 i) [] n k Q) : LX Z (Pw2 w1 w2 M1 M2) 764 (Lv b w1 w2 i) [] n k Q := by
  obtain ⟨r, N1, N2, e1, e2, H2⟩ := step_put (N := 100000) H (xs (i + 1))
  refine l_aload_n g dL_law_764 rfl rfl ?_
  refine l_arg (j := 1) g rfl dL_law_765 dL_law_766 dL_law_767 dL_law_768 dL_law_769 rfl (by omega) hLn rfl ?_
  refine l_call (K := KC) (K2 := KM) (w := w1) (w2 := w2) (M := M1) (M2 := M2) (d := 1) (As := [.int (xs (i + 1))]) (rest := []) g D.1 D.2.2.1 D.2.2.2.2.1 D.2.2.2.2.2.2.1 D.2.2.2.2.2.2.2.2 dL_law_770 rfl (ug_3 (List.mem_of_getElem? (i := 153) rfl) rfl) mw_X11_put mv_X11_put (Nat.le_of_ble_eq_true rfl) (c_X11_put _ w1 100000 (xs (i + 1)) M1) e1 rfl (Nat.le_of_ble_eq_true rfl) (eC_0 _ _ _) rfl rfl (Nat.le_of_ble_eq_true rfl) hnk ?_
  refine l_sw ?_
  refine l_aload_n g dL_law_773 rfl rfl ?_
  refine l_arg (j := 1) g rfl dL_law_774 dL_law_775 dL_law_776 dL_law_777 dL_law_778 rfl (by omega) hLn rfl ?_
  refine l_call (K := KM) (K2 := KC) (w := w2) (w2 := w1) (M := M2) (M2 := N1) (d := 1) (As := [.int (xs (i + 1))]) (rest := [.int r]) g D.2.1 D.2.2.2.1 D.2.2.2.2.2.1 D.2.2.2.2.2.2.2.1 (fun a c z1 z2 => (D.2.2.2.2.2.2.2.2 c a z2 z1).symm) dL_law_779 rfl (ug_5 (List.mem_of_getElem? (i := 207) rfl) rfl) mw_X12_put mv_X12_put (Nat.le_of_ble_eq_true rfl) (c_X12_put _ w2 100000 (xs (i + 1)) M2) e2 rfl (Nat.le_of_ble_eq_true rfl) (eM_0 _ _ _) rfl rfl (Nat.le_of_ble_eq_true rfl) hnk ?_
  refine l_sw ?_
  exact l_same g dL_law_782 (tgt := 1142) rfl (kk N1 N2 H2)
theorem lw_c19 (g : GLw Z b Ln xs) (D : LD Z w1 w2) (hLn : Ln ≤ 2048) (hi : i + 4 ≤ Ln) (hnk : n ≤ 600000 ∧ k ≤ 7302250) (H : Rel M1 M2) (kk : ∀ N1 N2, Rel N1 N2 → LX Z (Pw2 w1 w2 N1 N2) 1142 (Lv b w1 w2 i) [] n k Q) : LX Z (Pw2 w1 w2 M1 M2) 787 (Lv b w1 w2 i) [] n k Q := by
  obtain ⟨r, N1, N2, e1, e2, H2⟩ := step_prove (N := 100000) (Nat.le_refl _) H (xs (i + 1)) (xs (i + 2))
  refine l_aload_n g dL_law_787 rfl rfl ?_
  refine l_arg (j := 1) g rfl dL_law_788 dL_law_789 dL_law_790 dL_law_791 dL_law_792 rfl (by omega) hLn rfl ?_
  refine l_arg (j := 2) g rfl dL_law_793 dL_law_794 dL_law_795 dL_law_796 dL_law_797 rfl (by omega) hLn rfl ?_
  refine l_call (K := KC) (K2 := KM) (w := w1) (w2 := w2) (M := M1) (M2 := M2) (d := 3) (As := [.int (xs (i + 1)), .int (xs (i + 2))]) (rest := []) g D.1 D.2.2.1 D.2.2.2.2.1 D.2.2.2.2.2.2.1 D.2.2.2.2.2.2.2.2 dL_law_798 rfl (ug_3 (List.mem_of_getElem? (i := 157) rfl) rfl) mw_X11_prove mv_X11_prove (Nat.le_of_ble_eq_true rfl) (c_X11_prove _ w1 100000 (xs (i + 1)) (xs (i + 2)) M1) e1 rfl (Nat.le_of_ble_eq_true rfl) (eC_0 _ _ _) rfl rfl (Nat.le_of_ble_eq_true rfl) hnk ?_
  refine l_sw ?_
  refine l_aload_n g dL_law_801 rfl rfl ?_
  refine l_arg (j := 1) g rfl dL_law_802 dL_law_803 dL_law_804 dL_law_805 dL_law_806 rfl (by omega) hLn rfl ?_
  refine l_arg (j := 2) g rfl dL_law_807 dL_law_808 dL_law_809 dL_law_810 dL_law_811 rfl (by omega) hLn rfl ?_
  refine l_call (K := KM) (K2 := KC) (w := w2) (w2 := w1) (M := M2) (M2 := N1) (d := 2) (As := [.int (xs (i + 1)), .int (xs (i + 2))]) (rest := [.int r]) g D.2.1 D.2.2.2.1 D.2.2.2.2.2.1 D.2.2.2.2.2.2.2.1 (fun a c z1 z2 => (D.2.2.2.2.2.2.2.2 c a z2 z1).symm) dL_law_812 rfl (ug_5 (List.mem_of_getElem? (i := 211) rfl) rfl) mw_X12_prove mv_X12_prove (Nat.le_of_ble_eq_true rfl) (c_X12_prove _ w2 100000 (xs (i + 1)) (xs (i + 2)) M2) e2 rfl (Nat.le_of_ble_eq_true rfl) (eM_0 _ _ _) rfl rfl (Nat.le_of_ble_eq_true rfl) hnk ?_
  refine l_sw ?_
  exact l_same g dL_law_815 (tgt := 1142) rfl (kk N1 N2 H2)
theorem lw_c20 (g : GLw Z b Ln xs) (D : LD Z w1 w2) (hLn : Ln ≤ 2048) (hi : i + 4 ≤ Ln) (hnk : n ≤ 600000 ∧ k ≤ 7302250) (H : Rel M1 M2) (kk : ∀ N1 N2, Rel N1 N2 → LX Z (Pw2 w1 w2 N1 N2) 1142 (Lv b w1 w2 i) [] n k Q) : LX Z (Pw2 w1 w2 M1 M2) 820 (Lv b w1 w2 i) [] n k Q := by
  obtain ⟨r, N1, N2, e1, e2, H2⟩ := step_promise (N := 100000) (Nat.le_refl _) H (xs (i + 1)) (xs (i + 2)) (xs (i + 3))
  refine l_aload_n g dL_law_820 rfl rfl ?_
  refine l_arg (j := 1) g rfl dL_law_821 dL_law_822 dL_law_823 dL_law_824 dL_law_825 rfl (by omega) hLn rfl ?_
  refine l_arg (j := 2) g rfl dL_law_826 dL_law_827 dL_law_828 dL_law_829 dL_law_830 rfl (by omega) hLn rfl ?_
  refine l_arg (j := 3) g rfl dL_law_831 dL_law_832 dL_law_833 dL_law_834 dL_law_835 rfl (by omega) hLn rfl ?_
  refine l_call (K := KC) (K2 := KM) (w := w1) (w2 := w2) (M := M1) (M2 := M2) (d := 6) (As := [.int (xs (i + 1)), .int (xs (i + 2)), .int (xs (i + 3))]) (rest := []) g D.1 D.2.2.1 D.2.2.2.2.1 D.2.2.2.2.2.2.1 D.2.2.2.2.2.2.2.2 dL_law_836 rfl (ug_3 (List.mem_of_getElem? (i := 172) rfl) rfl) mw_X11_promise mv_X11_promise (Nat.le_of_ble_eq_true rfl) (c_X11_promise _ w1 100000 (xs (i + 1)) (xs (i + 2)) (xs (i + 3)) M1) e1 rfl (Nat.le_of_ble_eq_true rfl) (eC_0 _ _ _) rfl rfl (Nat.le_of_ble_eq_true rfl) hnk ?_
  refine l_sw ?_
  refine l_aload_n g dL_law_839 rfl rfl ?_
  refine l_arg (j := 1) g rfl dL_law_840 dL_law_841 dL_law_842 dL_law_843 dL_law_844 rfl (by omega) hLn rfl ?_
  refine l_arg (j := 2) g rfl dL_law_845 dL_law_846 dL_law_847 dL_law_848 dL_law_849 rfl (by omega) hLn rfl ?_
  refine l_arg (j := 3) g rfl dL_law_850 dL_law_851 dL_law_852 dL_law_853 dL_law_854 rfl (by omega) hLn rfl ?_
  refine l_call (K := KM) (K2 := KC) (w := w2) (w2 := w1) (M := M2) (M2 := N1) (d := 6) (As := [.int (xs (i + 1)), .int (xs (i + 2)), .int (xs (i + 3))]) (rest := [.int r]) g D.2.1 D.2.2.2.1 D.2.2.2.2.2.1 D.2.2.2.2.2.2.2.1 (fun a c z1 z2 => (D.2.2.2.2.2.2.2.2 c a z2 z1).symm) dL_law_855 rfl (ug_5 (List.mem_of_getElem? (i := 220) rfl) rfl) mw_X12_promise mv_X12_promise (Nat.le_of_ble_eq_true rfl) (c_X12_promise _ w2 100000 (xs (i + 1)) (xs (i + 2)) (xs (i + 3)) M2) e2 rfl (Nat.le_of_ble_eq_true rfl) (eM_0 _ _ _) rfl rfl (Nat.le_of_ble_eq_true rfl) hnk ?_
  refine l_sw ?_
  exact l_same g dL_law_858 (tgt := 1142) rfl (kk N1 N2 H2)
theorem lw_c21 (g : GLw Z b Ln xs) (D : LD Z w1 w2) (hLn : Ln ≤ 2048) (hi : i + 4 ≤ Ln) (hnk : n ≤ 600000 ∧ k ≤ 7302250) (H : Rel M1 M2) (kk : ∀ N1 N2, Rel N1 N2 → LX Z (Pw2 w1 w2 N1 N2) 1142 (Lv b w1 w2 i) [] n k Q) : LX Z (Pw2 w1 w2 M1 M2) 863 (Lv b w1 w2 i) [] n k Q := by
  obtain ⟨r, N1, N2, e1, e2, H2⟩ := step_corner (N := 100000) (Nat.le_refl _) H (xs (i + 1))
  refine l_aload_n g dL_law_863 rfl rfl ?_
  refine l_arg (j := 1) g rfl dL_law_864 dL_law_865 dL_law_866 dL_law_867 dL_law_868 rfl (by omega) hLn rfl ?_
  refine l_call (K := KC) (K2 := KM) (w := w1) (w2 := w2) (M := M1) (M2 := M2) (d := 6) (As := [.int (xs (i + 1))]) (rest := []) g D.1 D.2.2.1 D.2.2.2.2.1 D.2.2.2.2.2.2.1 D.2.2.2.2.2.2.2.2 dL_law_869 rfl (ug_3 (List.mem_of_getElem? (i := 177) rfl) rfl) mw_X11_corner mv_X11_corner (Nat.le_of_ble_eq_true rfl) (c_X11_corner _ w1 100000 (xs (i + 1)) M1) e1 rfl (Nat.le_of_ble_eq_true rfl) (eC_0 _ _ _) rfl rfl (Nat.le_of_ble_eq_true rfl) hnk ?_
  refine l_sw ?_
  refine l_aload_n g dL_law_872 rfl rfl ?_
  refine l_arg (j := 1) g rfl dL_law_873 dL_law_874 dL_law_875 dL_law_876 dL_law_877 rfl (by omega) hLn rfl ?_
  refine l_call (K := KM) (K2 := KC) (w := w2) (w2 := w1) (M := M2) (M2 := N1) (d := 6) (As := [.int (xs (i + 1))]) (rest := [.int r]) g D.2.1 D.2.2.2.1 D.2.2.2.2.2.1 D.2.2.2.2.2.2.2.1 (fun a c z1 z2 => (D.2.2.2.2.2.2.2.2 c a z2 z1).symm) dL_law_878 rfl (ug_5 (List.mem_of_getElem? (i := 224) rfl) rfl) mw_X12_corner mv_X12_corner (Nat.le_of_ble_eq_true rfl) (c_X12_corner _ w2 100000 (xs (i + 1)) M2) e2 rfl (Nat.le_of_ble_eq_true rfl) (eM_0 _ _ _) rfl rfl (Nat.le_of_ble_eq_true rfl) hnk ?_
  refine l_sw ?_
  exact l_same g dL_law_881 (tgt := 1142) rfl (kk N1 N2 H2)
theorem lw_c22 (g : GLw Z b Ln xs) (D : LD Z w1 w2) (hLn : Ln ≤ 2048) (hi : i + 4 ≤ Ln) (hnk : n ≤ 600000 ∧ k ≤ 7302250) (H : Rel M1 M2) (kk : ∀ N1 N2, Rel N1 N2 → LX Z (Pw2 w1 w2 N1 N2) 1142 (Lv b w1 w2 i) [] n k Q) : LX Z (Pw2 w1 w2 M1 M2) 886 (Lv b w1 w2 i) [] n k Q := by
  obtain ⟨r, N1, N2, e1, e2, H2⟩ := step_flat (N := 100000) (Nat.le_refl _) H 
  refine l_aload_n g dL_law_886 rfl rfl ?_
  refine l_call (K := KC) (K2 := KM) (w := w1) (w2 := w2) (M := M1) (M2 := M2) (d := 6) (As := []) (rest := []) g D.1 D.2.2.1 D.2.2.2.2.1 D.2.2.2.2.2.2.1 D.2.2.2.2.2.2.2.2 dL_law_887 rfl (ug_3 (List.mem_of_getElem? (i := 181) rfl) rfl) mw_X11_flat mv_X11_flat (Nat.le_of_ble_eq_true rfl) (c_X11_flat _ w1 100000  M1) e1 rfl (Nat.le_of_ble_eq_true rfl) (eC_0 _ _ _) rfl rfl (Nat.le_of_ble_eq_true rfl) hnk ?_
  refine l_sw ?_
  refine l_aload_n g dL_law_890 rfl rfl ?_
  refine l_call (K := KM) (K2 := KC) (w := w2) (w2 := w1) (M := M2) (M2 := N1) (d := 6) (As := []) (rest := [.int r]) g D.2.1 D.2.2.2.1 D.2.2.2.2.2.1 D.2.2.2.2.2.2.2.1 (fun a c z1 z2 => (D.2.2.2.2.2.2.2.2 c a z2 z1).symm) dL_law_891 rfl (ug_5 (List.mem_of_getElem? (i := 228) rfl) rfl) mw_X12_flat mv_X12_flat (Nat.le_of_ble_eq_true rfl) (c_X12_flat _ w2 100000  M2) e2 rfl (Nat.le_of_ble_eq_true rfl) (eM_0 _ _ _) rfl rfl (Nat.le_of_ble_eq_true rfl) hnk ?_
  refine l_sw ?_
  exact l_same g dL_law_894 (tgt := 1142) rfl (kk N1 N2 H2)
theorem lw_c23 (g : GLw Z b Ln xs) (D : LD Z w1 w2) (hLn : Ln ≤ 2048) (hi : i + 4 ≤ Ln) (hnk : n ≤ 600000 ∧ k ≤ 7302250) (H : Rel M1 M2) (kk : ∀ N1 N2, Rel N1 N2 → LX Z (Pw2 w1 w2 N1 N2) 1142 (Lv b w1 w2 i) [] n k Q) : LX Z (Pw2 w1 w2 M1 M2) 899 (Lv b w1 w2 i) [] n k Q := by
  obtain ⟨r, N1, N2, e1, e2, H2⟩ := step_foreknown (N := 100000) (Nat.le_refl _) H (xs (i + 1)) (xs (i + 2))
  refine l_aload_n g dL_law_899 rfl rfl ?_
  refine l_arg (j := 1) g rfl dL_law_900 dL_law_901 dL_law_902 dL_law_903 dL_law_904 rfl (by omega) hLn rfl ?_
  refine l_arg (j := 2) g rfl dL_law_905 dL_law_906 dL_law_907 dL_law_908 dL_law_909 rfl (by omega) hLn rfl ?_
  refine l_call (K := KC) (K2 := KM) (w := w1) (w2 := w2) (M := M1) (M2 := M2) (d := 7) (As := [.int (xs (i + 1)), .int (xs (i + 2))]) (rest := []) g D.1 D.2.2.1 D.2.2.2.2.1 D.2.2.2.2.2.2.1 D.2.2.2.2.2.2.2.2 dL_law_910 rfl (ug_3 (List.mem_of_getElem? (i := 185) rfl) rfl) mw_X11_foreknown mv_X11_foreknown (Nat.le_of_ble_eq_true rfl) (c_X11_foreknown _ w1 100000 (xs (i + 1)) (xs (i + 2)) M1) e1 rfl (Nat.le_of_ble_eq_true rfl) (eC_0 _ _ _) rfl rfl (Nat.le_of_ble_eq_true rfl) hnk ?_
  refine l_sw ?_
  refine l_aload_n g dL_law_913 rfl rfl ?_
  refine l_arg (j := 1) g rfl dL_law_914 dL_law_915 dL_law_916 dL_law_917 dL_law_918 rfl (by omega) hLn rfl ?_
  refine l_arg (j := 2) g rfl dL_law_919 dL_law_920 dL_law_921 dL_law_922 dL_law_923 rfl (by omega) hLn rfl ?_
  refine l_call (K := KM) (K2 := KC) (w := w2) (w2 := w1) (M := M2) (M2 := N1) (d := 6) (As := [.int (xs (i + 1)), .int (xs (i + 2))]) (rest := [.int r]) g D.2.1 D.2.2.2.1 D.2.2.2.2.2.1 D.2.2.2.2.2.2.2.1 (fun a c z1 z2 => (D.2.2.2.2.2.2.2.2 c a z2 z1).symm) dL_law_924 rfl (ug_5 (List.mem_of_getElem? (i := 232) rfl) rfl) mw_X12_foreknown mv_X12_foreknown (Nat.le_of_ble_eq_true rfl) (c_X12_foreknown _ w2 100000 (xs (i + 1)) (xs (i + 2)) M2) e2 rfl (Nat.le_of_ble_eq_true rfl) (eM_0 _ _ _) rfl rfl (Nat.le_of_ble_eq_true rfl) hnk ?_
  refine l_sw ?_
  exact l_same g dL_law_927 (tgt := 1142) rfl (kk N1 N2 H2)
theorem lw_c24 (g : GLw Z b Ln xs) (D : LD Z w1 w2) (hLn : Ln ≤ 2048) (hi : i + 4 ≤ Ln) (hnk : n ≤ 600000 ∧ k ≤ 7302250) (H : Rel M1 M2) (kk : ∀ N1 N2, Rel N1 N2 → LX Z (Pw2 w1 w2 N1 N2) 1142 (Lv b w1 w2 i) [] n k Q) : LX Z (Pw2 w1 w2 M1 M2) 932 (Lv b w1 w2 i) [] n k Q := by
  obtain ⟨r, N1, N2, e1, e2, H2⟩ := step_dearest (N := 100000) (Nat.le_refl _) H 
  refine l_aload_n g dL_law_932 rfl rfl ?_
  refine l_call (K := KC) (K2 := KM) (w := w1) (w2 := w2) (M := M1) (M2 := M2) (d := 7) (As := []) (rest := []) g D.1 D.2.2.1 D.2.2.2.2.1 D.2.2.2.2.2.2.1 D.2.2.2.2.2.2.2.2 dL_law_933 rfl (ug_3 (List.mem_of_getElem? (i := 194) rfl) rfl) mw_X11_dearest mv_X11_dearest (Nat.le_of_ble_eq_true rfl) (c_X11_dearest _ w1 100000  M1) e1 rfl (Nat.le_of_ble_eq_true rfl) (eC_0 _ _ _) rfl rfl (Nat.le_of_ble_eq_true rfl) hnk ?_
  refine l_sw ?_
  refine l_aload_n g dL_law_936 rfl rfl ?_
  refine l_call (K := KM) (K2 := KC) (w := w2) (w2 := w1) (M := M2) (M2 := N1) (d := 6) (As := []) (rest := [.int r]) g D.2.1 D.2.2.2.1 D.2.2.2.2.2.1 D.2.2.2.2.2.2.2.1 (fun a c z1 z2 => (D.2.2.2.2.2.2.2.2 c a z2 z1).symm) dL_law_937 rfl (ug_6 (List.mem_of_getElem? (i := 0) rfl) rfl) mw_X12_dearest mv_X12_dearest (Nat.le_of_ble_eq_true rfl) (c_X12_dearest _ w2 100000  M2) e2 rfl (Nat.le_of_ble_eq_true rfl) (eM_0 _ _ _) rfl rfl (Nat.le_of_ble_eq_true rfl) hnk ?_
  refine l_sw ?_
  exact l_same g dL_law_940 (tgt := 1142) rfl (kk N1 N2 H2)
theorem lw_c25 (g : GLw Z b Ln xs) (D : LD Z w1 w2) (hLn : Ln ≤ 2048) (hi : i + 4 ≤ Ln) (hnk : n ≤ 600000 ∧ k ≤ 7302250) (H : Rel M1 M2) (kk : ∀ N1 N2, Rel N1 N2 → LX Z (Pw2 w1 w2 N1 N2) 1142 (Lv b w1 w2 i) [] n k Q) : LX Z (Pw2 w1 w2 M1 M2) 945 (Lv b w1 w2 i) [] n k Q := by
  obtain ⟨r, N1, N2, e1, e2, H2⟩ := step_who (N := 100000) (Nat.le_refl _) H (xs (i + 1)) (xs (i + 2))
  refine l_aload_n g dL_law_945 rfl rfl ?_
  refine l_arg (j := 1) g rfl dL_law_946 dL_law_947 dL_law_948 dL_law_949 dL_law_950 rfl (by omega) hLn rfl ?_
  refine l_arg (j := 2) g rfl dL_law_951 dL_law_952 dL_law_953 dL_law_954 dL_law_955 rfl (by omega) hLn rfl ?_
  refine l_call (K := KC) (K2 := KM) (w := w1) (w2 := w2) (M := M1) (M2 := M2) (d := 4) (As := [.int (xs (i + 1)), .int (xs (i + 2))]) (rest := []) g D.1 D.2.2.1 D.2.2.2.2.1 D.2.2.2.2.2.2.1 D.2.2.2.2.2.2.2.2 dL_law_956 rfl (ug_3 (List.mem_of_getElem? (i := 198) rfl) rfl) mw_X11_who mv_X11_who (Nat.le_of_ble_eq_true rfl) (c_X11_who _ w1 100000 (xs (i + 1)) (xs (i + 2)) M1) e1 rfl (Nat.le_of_ble_eq_true rfl) (eC_0 _ _ _) rfl rfl (Nat.le_of_ble_eq_true rfl) hnk ?_
  refine l_sw ?_
  refine l_aload_n g dL_law_959 rfl rfl ?_
  refine l_arg (j := 1) g rfl dL_law_960 dL_law_961 dL_law_962 dL_law_963 dL_law_964 rfl (by omega) hLn rfl ?_
  refine l_arg (j := 2) g rfl dL_law_965 dL_law_966 dL_law_967 dL_law_968 dL_law_969 rfl (by omega) hLn rfl ?_
  refine l_call (K := KM) (K2 := KC) (w := w2) (w2 := w1) (M := M2) (M2 := N1) (d := 6) (As := [.int (xs (i + 1)), .int (xs (i + 2))]) (rest := [.int r]) g D.2.1 D.2.2.2.1 D.2.2.2.2.2.1 D.2.2.2.2.2.2.2.1 (fun a c z1 z2 => (D.2.2.2.2.2.2.2.2 c a z2 z1).symm) dL_law_970 rfl (ug_6 (List.mem_of_getElem? (i := 4) rfl) rfl) mw_X12_who mv_X12_who (Nat.le_of_ble_eq_true rfl) (c_X12_who _ w2 100000 (xs (i + 1)) (xs (i + 2)) M2) e2 rfl (Nat.le_of_ble_eq_true rfl) (eM_0 _ _ _) rfl rfl (Nat.le_of_ble_eq_true rfl) hnk ?_
  refine l_sw ?_
  exact l_same g dL_law_973 (tgt := 1142) rfl (kk N1 N2 H2)
theorem lw_c26 (g : GLw Z b Ln xs) (D : LD Z w1 w2) (hLn : Ln ≤ 2048) (hi : i + 4 ≤ Ln) (hnk : n ≤ 600000 ∧ k ≤ 7302250) (H : Rel M1 M2) (kk : ∀ N1 N2, Rel N1 N2 → LX Z (Pw2 w1 w2 N1 N2) 1142 (Lv b w1 w2 i) [] n k Q) : LX Z (Pw2 w1 w2 M1 M2) 978 (Lv b w1 w2 i) [] n k Q := by
  obtain ⟨r, N1, N2, e1, e2, H2⟩ := step_none (N := 100000) (Nat.le_refl _) H (xs (i + 1)) (xs (i + 2))
  refine l_aload_n g dL_law_978 rfl rfl ?_
  refine l_arg (j := 1) g rfl dL_law_979 dL_law_980 dL_law_981 dL_law_982 dL_law_983 rfl (by omega) hLn rfl ?_
  refine l_arg (j := 2) g rfl dL_law_984 dL_law_985 dL_law_986 dL_law_987 dL_law_988 rfl (by omega) hLn rfl ?_
  refine l_call (K := KC) (K2 := KM) (w := w1) (w2 := w2) (M := M1) (M2 := M2) (d := 7) (As := [.int (xs (i + 1)), .int (xs (i + 2))]) (rest := []) g D.1 D.2.2.1 D.2.2.2.2.1 D.2.2.2.2.2.2.1 D.2.2.2.2.2.2.2.2 dL_law_989 rfl (ug_3 (List.mem_of_getElem? (i := 206) rfl) rfl) mw_X11_none mv_X11_none (Nat.le_of_ble_eq_true rfl) (c_X11_none _ w1 100000 (xs (i + 1)) (xs (i + 2)) M1) e1 rfl (Nat.le_of_ble_eq_true rfl) (eC_0 _ _ _) rfl rfl (Nat.le_of_ble_eq_true rfl) hnk ?_
  refine l_sw ?_
  refine l_aload_n g dL_law_992 rfl rfl ?_
  refine l_arg (j := 1) g rfl dL_law_993 dL_law_994 dL_law_995 dL_law_996 dL_law_997 rfl (by omega) hLn rfl ?_
  refine l_arg (j := 2) g rfl dL_law_998 dL_law_999 dL_law_1000 dL_law_1001 dL_law_1002 rfl (by omega) hLn rfl ?_
  refine l_call (K := KM) (K2 := KC) (w := w2) (w2 := w1) (M := M2) (M2 := N1) (d := 6) (As := [.int (xs (i + 1)), .int (xs (i + 2))]) (rest := [.int r]) g D.2.1 D.2.2.2.1 D.2.2.2.2.2.1 D.2.2.2.2.2.2.2.1 (fun a c z1 z2 => (D.2.2.2.2.2.2.2.2 c a z2 z1).symm) dL_law_1003 rfl (ug_6 (List.mem_of_getElem? (i := 8) rfl) rfl) mw_X12_none mv_X12_none (Nat.le_of_ble_eq_true rfl) (c_X12_none _ w2 100000 (xs (i + 1)) (xs (i + 2)) M2) e2 rfl (Nat.le_of_ble_eq_true rfl) (eM_0 _ _ _) rfl rfl (Nat.le_of_ble_eq_true rfl) hnk ?_
  refine l_sw ?_
  exact l_same g dL_law_1006 (tgt := 1142) rfl (kk N1 N2 H2)
theorem lw_c27 (g : GLw Z b Ln xs) (D : LD Z w1 w2) (hLn : Ln ≤ 2048) (hi : i + 4 ≤ Ln) (hnk : n ≤ 600000 ∧ k ≤ 7302250) (H : Rel M1 M2) (kk : ∀ N1 N2, Rel N1 N2 → LX Z (Pw2 w1 w2 N1 N2) 1142 (Lv b w1 w2 i) [] n k Q) : LX Z (Pw2 w1 w2 M1 M2) 1011 (Lv b w1 w2 i) [] n k Q := by
  obtain ⟨r, N1, N2, e1, e2, H2⟩ := step_year (N := 100000) (Nat.le_refl _) H (xs (i + 1))
  refine l_aload_n g dL_law_1011 rfl rfl ?_
  refine l_arg (j := 1) g rfl dL_law_1012 dL_law_1013 dL_law_1014 dL_law_1015 dL_law_1016 rfl (by omega) hLn rfl ?_
  refine l_call (K := KC) (K2 := KM) (w := w1) (w2 := w2) (M := M1) (M2 := M2) (d := 1) (As := [.int (xs (i + 1))]) (rest := []) g D.1 D.2.2.1 D.2.2.2.2.1 D.2.2.2.2.2.2.1 D.2.2.2.2.2.2.2.2 dL_law_1017 rfl (ug_3 (List.mem_of_getElem? (i := 236) rfl) rfl) mw_X11_year mv_X11_year (Nat.le_of_ble_eq_true rfl) (c_X11_year _ w1 100000 (xs (i + 1)) M1) e1 rfl (Nat.le_of_ble_eq_true rfl) (eC_0 _ _ _) rfl rfl (Nat.le_of_ble_eq_true rfl) hnk ?_
  refine l_sw ?_
  refine l_aload_n g dL_law_1020 rfl rfl ?_
  refine l_arg (j := 1) g rfl dL_law_1021 dL_law_1022 dL_law_1023 dL_law_1024 dL_law_1025 rfl (by omega) hLn rfl ?_
  refine l_call (K := KM) (K2 := KC) (w := w2) (w2 := w1) (M := M2) (M2 := N1) (d := 2) (As := [.int (xs (i + 1))]) (rest := [.int r]) g D.2.1 D.2.2.2.1 D.2.2.2.2.2.1 D.2.2.2.2.2.2.2.1 (fun a c z1 z2 => (D.2.2.2.2.2.2.2.2 c a z2 z1).symm) dL_law_1026 rfl (ug_6 (List.mem_of_getElem? (i := 18) rfl) rfl) mw_X12_year mv_X12_year (Nat.le_of_ble_eq_true rfl) (c_X12_year _ w2 100000 (xs (i + 1)) M2) e2 rfl (Nat.le_of_ble_eq_true rfl) (eM_0 _ _ _) rfl rfl (Nat.le_of_ble_eq_true rfl) hnk ?_
  refine l_sw ?_
  exact l_same g dL_law_1029 (tgt := 1142) rfl (kk N1 N2 H2)
theorem lw_c28 (g : GLw Z b Ln xs) (D : LD Z w1 w2) (hLn : Ln ≤ 2048) (hi : i + 4 ≤ Ln) (hnk : n ≤ 600000 ∧ k ≤ 7302250) (H : Rel M1 M2) (kk : ∀ N1 N2, Rel N1 N2 → LX Z (Pw2 w1 w2 N1 N2) 1142 (Lv b w1 w2 i) [] n k Q) : LX Z (Pw2 w1 w2 M1 M2) 1034 (Lv b w1 w2 i) [] n k Q := by
  obtain ⟨r, N1, N2, e1, e2, H2⟩ := step_out (N := 100000) (Nat.le_refl _) H 
  refine l_aload_n g dL_law_1034 rfl rfl ?_
  refine l_call (K := KC) (K2 := KM) (w := w1) (w2 := w2) (M := M1) (M2 := M2) (d := 3) (As := []) (rest := []) g D.1 D.2.2.1 D.2.2.2.2.1 D.2.2.2.2.2.2.1 D.2.2.2.2.2.2.2.2 dL_law_1035 rfl (ug_4 (List.mem_of_getElem? (i := 0) rfl) rfl) mw_X11_out mv_X11_out (Nat.le_of_ble_eq_true rfl) (c_X11_out _ w1 100000  M1) e1 rfl (Nat.le_of_ble_eq_true rfl) (eC_0 _ _ _) rfl rfl (Nat.le_of_ble_eq_true rfl) hnk ?_
  refine l_sw ?_
  refine l_aload_n g dL_law_1038 rfl rfl ?_
  refine l_call (K := KM) (K2 := KC) (w := w2) (w2 := w1) (M := M2) (M2 := N1) (d := 6) (As := []) (rest := [.int r]) g D.2.1 D.2.2.2.1 D.2.2.2.2.2.1 D.2.2.2.2.2.2.2.1 (fun a c z1 z2 => (D.2.2.2.2.2.2.2.2 c a z2 z1).symm) dL_law_1039 rfl (ug_6 (List.mem_of_getElem? (i := 22) rfl) rfl) mw_X12_out mv_X12_out (Nat.le_of_ble_eq_true rfl) (c_X12_out _ w2 100000  M2) e2 rfl (Nat.le_of_ble_eq_true rfl) (eM_0 _ _ _) rfl rfl (Nat.le_of_ble_eq_true rfl) hnk ?_
  refine l_sw ?_
  exact l_same g dL_law_1042 (tgt := 1142) rfl (kk N1 N2 H2)
theorem lw_c29 (g : GLw Z b Ln xs) (D : LD Z w1 w2) (hLn : Ln ≤ 2048) (hi : i + 4 ≤ Ln) (hnk : n ≤ 600000 ∧ k ≤ 7302250) (H : Rel M1 M2) (kk : ∀ N1 N2, Rel N1 N2 → LX Z (Pw2 w1 w2 N1 N2) 1142 (Lv b w1 w2 i) [] n k Q) : LX Z (Pw2 w1 w2 M1 M2) 1047 (Lv b w1 w2 i) [] n k Q := by
  obtain ⟨r, N1, N2, e1, e2, H2⟩ := step_dearYears (N := 100000) (Nat.le_refl _) H (xs (i + 1))
  refine l_aload_n g dL_law_1047 rfl rfl ?_
  refine l_arg (j := 1) g rfl dL_law_1048 dL_law_1049 dL_law_1050 dL_law_1051 dL_law_1052 rfl (by omega) hLn rfl ?_
  refine l_call (K := KC) (K2 := KM) (w := w1) (w2 := w2) (M := M1) (M2 := M2) (d := 6) (As := [.int (xs (i + 1))]) (rest := []) g D.1 D.2.2.1 D.2.2.2.2.1 D.2.2.2.2.2.2.1 D.2.2.2.2.2.2.2.2 dL_law_1053 rfl (ug_4 (List.mem_of_getElem? (i := 8) rfl) rfl) mw_X11_dearYears mv_X11_dearYears (Nat.le_of_ble_eq_true rfl) (c_X11_dearYears _ w1 100000 (xs (i + 1)) M1) e1 rfl (Nat.le_of_ble_eq_true rfl) (eC_0 _ _ _) rfl rfl (Nat.le_of_ble_eq_true rfl) hnk ?_
  refine l_sw ?_
  refine l_aload_n g dL_law_1056 rfl rfl ?_
  refine l_arg (j := 1) g rfl dL_law_1057 dL_law_1058 dL_law_1059 dL_law_1060 dL_law_1061 rfl (by omega) hLn rfl ?_
  refine l_call (K := KM) (K2 := KC) (w := w2) (w2 := w1) (M := M2) (M2 := N1) (d := 6) (As := [.int (xs (i + 1))]) (rest := [.int r]) g D.2.1 D.2.2.2.1 D.2.2.2.2.2.1 D.2.2.2.2.2.2.2.1 (fun a c z1 z2 => (D.2.2.2.2.2.2.2.2 c a z2 z1).symm) dL_law_1062 rfl (ug_6 (List.mem_of_getElem? (i := 26) rfl) rfl) mw_X12_dearYears mv_X12_dearYears (Nat.le_of_ble_eq_true rfl) (c_X12_dearYears _ w2 100000 (xs (i + 1)) M2) e2 rfl (Nat.le_of_ble_eq_true rfl) (eM_0 _ _ _) rfl rfl (Nat.le_of_ble_eq_true rfl) hnk ?_
  refine l_sw ?_
  exact l_same g dL_law_1065 (tgt := 1142) rfl (kk N1 N2 H2)
theorem lw_c30 (g : GLw Z b Ln xs) (D : LD Z w1 w2) (hLn : Ln ≤ 2048) (hi : i + 4 ≤ Ln) (hnk : n ≤ 600000 ∧ k ≤ 7302250) (H : Rel M1 M2) (kk : ∀ N1 N2, Rel N1 N2 → LX Z (Pw2 w1 w2 N1 N2) 1142 (Lv b w1 w2 i) [] n k Q) : LX Z (Pw2 w1 w2 M1 M2) 1070 (Lv b w1 w2 i) [] n k Q := by
  obtain ⟨r, N1, N2, e1, e2, H2⟩ := step_drawn (N := 100000) (Nat.le_refl _) H (xs (i + 1))
  refine l_aload_n g dL_law_1070 rfl rfl ?_
  refine l_arg (j := 1) g rfl dL_law_1071 dL_law_1072 dL_law_1073 dL_law_1074 dL_law_1075 rfl (by omega) hLn rfl ?_
  refine l_call (K := KC) (K2 := KM) (w := w1) (w2 := w2) (M := M1) (M2 := M2) (d := 2) (As := [.int (xs (i + 1))]) (rest := []) g D.1 D.2.2.1 D.2.2.2.2.1 D.2.2.2.2.2.2.1 D.2.2.2.2.2.2.2.2 dL_law_1076 rfl (ug_4 (List.mem_of_getElem? (i := 12) rfl) rfl) mw_X11_drawn mv_X11_drawn (Nat.le_of_ble_eq_true rfl) (c_X11_drawn _ w1 100000 (xs (i + 1)) M1) e1 rfl (Nat.le_of_ble_eq_true rfl) (eC_0 _ _ _) rfl rfl (Nat.le_of_ble_eq_true rfl) hnk ?_
  refine l_sw ?_
  refine l_aload_n g dL_law_1079 rfl rfl ?_
  refine l_arg (j := 1) g rfl dL_law_1080 dL_law_1081 dL_law_1082 dL_law_1083 dL_law_1084 rfl (by omega) hLn rfl ?_
  refine l_call (K := KM) (K2 := KC) (w := w2) (w2 := w1) (M := M2) (M2 := N1) (d := 6) (As := [.int (xs (i + 1))]) (rest := [.int r]) g D.2.1 D.2.2.2.1 D.2.2.2.2.2.1 D.2.2.2.2.2.2.2.1 (fun a c z1 z2 => (D.2.2.2.2.2.2.2.2 c a z2 z1).symm) dL_law_1085 rfl (ug_6 (List.mem_of_getElem? (i := 30) rfl) rfl) mw_X12_drawn mv_X12_drawn (Nat.le_of_ble_eq_true rfl) (c_X12_drawn _ w2 100000 (xs (i + 1)) M2) e2 rfl (Nat.le_of_ble_eq_true rfl) (eM_0 _ _ _) rfl rfl (Nat.le_of_ble_eq_true rfl) hnk ?_
  refine l_sw ?_
  exact l_same g dL_law_1088 (tgt := 1142) rfl (kk N1 N2 H2)
theorem lw_c31 (g : GLw Z b Ln xs) (D : LD Z w1 w2) (hLn : Ln ≤ 2048) (hi : i + 4 ≤ Ln) (hnk : n ≤ 600000 ∧ k ≤ 7302250) (H : Rel M1 M2) (kk : ∀ N1 N2, Rel N1 N2 → LX Z (Pw2 w1 w2 N1 N2) 1142 (Lv b w1 w2 i) [] n k Q) : LX Z (Pw2 w1 w2 M1 M2) 1093 (Lv b w1 w2 i) [] n k Q := by
  obtain ⟨r, N1, N2, e1, e2, H2⟩ := step_image (N := 100000) (Nat.le_refl _) H 
  refine l_aload_n g dL_law_1093 rfl rfl ?_
  refine l_call (K := KC) (K2 := KM) (w := w1) (w2 := w2) (M := M1) (M2 := M2) (d := 3) (As := []) (rest := []) g D.1 D.2.2.1 D.2.2.2.2.1 D.2.2.2.2.2.2.1 D.2.2.2.2.2.2.2.2 dL_law_1094 rfl (ug_4 (List.mem_of_getElem? (i := 16) rfl) rfl) mw_X11_image mv_X11_image (Nat.le_of_ble_eq_true rfl) (c_X11_image _ w1 100000  M1) e1 rfl (Nat.le_of_ble_eq_true rfl) (eC_0 _ _ _) rfl rfl (Nat.le_of_ble_eq_true rfl) hnk ?_
  refine l_sw ?_
  refine l_aload_n g dL_law_1097 rfl rfl ?_
  refine l_call (K := KM) (K2 := KC) (w := w2) (w2 := w1) (M := M2) (M2 := N1) (d := 1) (As := []) (rest := [.int r]) g D.2.1 D.2.2.2.1 D.2.2.2.2.2.1 D.2.2.2.2.2.2.2.1 (fun a c z1 z2 => (D.2.2.2.2.2.2.2.2 c a z2 z1).symm) dL_law_1098 rfl (ug_6 (List.mem_of_getElem? (i := 35) rfl) rfl) mw_X12_image mv_X12_image (Nat.le_of_ble_eq_true rfl) (c_X12_image _ w2 100000  M2) e2 rfl (Nat.le_of_ble_eq_true rfl) (eM_0 _ _ _) rfl rfl (Nat.le_of_ble_eq_true rfl) hnk ?_
  refine l_sw ?_
  exact l_same g dL_law_1101 (tgt := 1142) rfl (kk N1 N2 H2)
theorem lw_c32 (g : GLw Z b Ln xs) (D : LD Z w1 w2) (hLn : Ln ≤ 2048) (hi : i + 4 ≤ Ln) (hnk : n ≤ 600000 ∧ k ≤ 7302250) (H : Rel M1 M2) (kk : ∀ N1 N2, Rel N1 N2 → LX Z (Pw2 w1 w2 N1 N2) 1142 (Lv b w1 w2 i) [] n k Q) : LX Z (Pw2 w1 w2 M1 M2) 1106 (Lv b w1 w2 i) [] n k Q := by
  obtain ⟨r, N1, N2, e1, e2, H2⟩ := step_restore (N := 100000) (Nat.le_refl _) H 
  refine l_aload_n g dL_law_1106 rfl rfl ?_
  refine l_call (K := KC) (K2 := KM) (w := w1) (w2 := w2) (M := M1) (M2 := M2) (d := 3) (As := []) (rest := []) g D.1 D.2.2.1 D.2.2.2.2.1 D.2.2.2.2.2.2.1 D.2.2.2.2.2.2.2.2 dL_law_1107 rfl (ug_4 (List.mem_of_getElem? (i := 26) rfl) rfl) mw_X11_restore mv_X11_restore (Nat.le_of_ble_eq_true rfl) (c_X11_restore _ w1 100000  M1) e1 rfl (Nat.le_of_ble_eq_true rfl) (eC_0 _ _ _) rfl rfl (Nat.le_of_ble_eq_true rfl) hnk ?_
  refine l_sw ?_
  refine l_aload_n g dL_law_1110 rfl rfl ?_
  refine l_call (K := KM) (K2 := KC) (w := w2) (w2 := w1) (M := M2) (M2 := N1) (d := 1) (As := []) (rest := [.int r]) g D.2.1 D.2.2.2.1 D.2.2.2.2.2.1 D.2.2.2.2.2.2.2.1 (fun a c z1 z2 => (D.2.2.2.2.2.2.2.2 c a z2 z1).symm) dL_law_1111 rfl (ug_6 (List.mem_of_getElem? (i := 43) rfl) rfl) mw_X12_restore mv_X12_restore (Nat.le_of_ble_eq_true rfl) (c_X12_restore _ w2 100000  M2) e2 rfl (Nat.le_of_ble_eq_true rfl) (eM_0 _ _ _) rfl rfl (Nat.le_of_ble_eq_true rfl) hnk ?_
  refine l_sw ?_
  exact l_same g dL_law_1114 (tgt := 1142) rfl (kk N1 N2 H2)
theorem lw_c33 (g : GLw Z b Ln xs) (D : LD Z w1 w2) (hLn : Ln ≤ 2048) (hi : i + 4 ≤ Ln) (hnk : n ≤ 600000 ∧ k ≤ 7302250) (H : Rel M1 M2) (kk : ∀ N1 N2, Rel N1 N2 → LX Z (Pw2 w1 w2 N1 N2) 1142 (Lv b w1 w2 i) [] n k Q) : LX Z (Pw2 w1 w2 M1 M2) 1119 (Lv b w1 w2 i) [] n k Q := by
  obtain ⟨r, N1, N2, e1, e2, H2⟩ := step_count (N := 100000) (Nat.le_refl _) H (xs (i + 1))
  refine l_aload_n g dL_law_1119 rfl rfl ?_
  refine l_arg (j := 1) g rfl dL_law_1120 dL_law_1121 dL_law_1122 dL_law_1123 dL_law_1124 rfl (by omega) hLn rfl ?_
  refine l_call (K := KC) (K2 := KM) (w := w1) (w2 := w2) (M := M1) (M2 := M2) (d := 3) (As := [.int (xs (i + 1))]) (rest := []) g D.1 D.2.2.1 D.2.2.2.2.1 D.2.2.2.2.2.2.1 D.2.2.2.2.2.2.2.2 dL_law_1125 rfl (ug_4 (List.mem_of_getElem? (i := 30) rfl) rfl) mw_X11_count mv_X11_count (Nat.le_of_ble_eq_true rfl) (c_X11_count _ w1 100000 (xs (i + 1)) M1) e1 rfl (Nat.le_of_ble_eq_true rfl) (eC_0 _ _ _) rfl rfl (Nat.le_of_ble_eq_true rfl) hnk ?_
  refine l_sw ?_
  refine l_aload_n g dL_law_1128 rfl rfl ?_
  refine l_arg (j := 1) g rfl dL_law_1129 dL_law_1130 dL_law_1131 dL_law_1132 dL_law_1133 rfl (by omega) hLn rfl ?_
  refine l_call (K := KM) (K2 := KC) (w := w2) (w2 := w1) (M := M2) (M2 := N1) (d := 6) (As := [.int (xs (i + 1))]) (rest := [.int r]) g D.2.1 D.2.2.2.1 D.2.2.2.2.2.1 D.2.2.2.2.2.2.2.1 (fun a c z1 z2 => (D.2.2.2.2.2.2.2.2 c a z2 z1).symm) dL_law_1134 rfl (ug_6 (List.mem_of_getElem? (i := 47) rfl) rfl) mw_X12_count mv_X12_count (Nat.le_of_ble_eq_true rfl) (c_X12_count _ w2 100000 (xs (i + 1)) M2) e2 rfl (Nat.le_of_ble_eq_true rfl) (eM_0 _ _ _) rfl rfl (Nat.le_of_ble_eq_true rfl) hnk ?_
  refine l_sw ?_
  exact l_same g dL_law_1137 (tgt := 1142) rfl (kk N1 N2 H2)
end Cases
