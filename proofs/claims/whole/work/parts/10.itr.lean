/-- a loop, as often as n says; its body is given what the next turn does -/
def itr {σ : Type} (B : (σ → Mm → Rs) → σ → Mm → Rs) : Nat → σ → Mm → Rs
  | 0, _, _ => none
  | n + 1, s, M => B (itr B n) s M
section Itr
variable {K : Wk} {w : W0} {Z : Zx} {cc : ByteArray} {own : String} {D pc pc' : Nat} {L st : List Value} {M : Mm} {y : MethodName} {bytes : ByteArray} {maxL n idx d a : Nat} {t : FieldType} {As rest : List Value} {Fc : Rs} {G : Int32 → Mm → Rs}
theorem r_itr {σ : Type} {B : (σ → Mm → Rs) → σ → Mm → Rs} {h : Nat} {Lf : σ → List Value} (hb : ∀ rec : σ → Mm → Rs, (∀ s M, Sim K w Z h (Lf s) [] M (rec s M)) → ∀ s M, Sim K w Z h (Lf s) [] M (B rec s M)) : ∀ (n : Nat) (s : σ) (M : Mm), Sim K w Z h (Lf s) [] M (itr B n s M) := by
  intro n
  induction n with
  | zero => intro s M; exact r_none
  | succ n ih => intro s M; exact hb _ ih s M
theorem r_jn {σ : Type} {body : σ → Mm → Rs} {k : (σ → Mm → Rs) → Rs} {pj : Nat} {Lj stj : σ → List Value} (hb : ∀ s M, Sim K w Z pj (Lj s) (stj s) M (body s M)) (hk : ∀ j : σ → Mm → Rs, (∀ s M, Sim K w Z pj (Lj s) (stj s) M (j s M)) → Sim K w Z pc L st M (k j)) : Sim K w Z pc L st M (lt' body k) := hk body hb
theorem Ls0 {L : List Value} : Lsub [] L := trivial
theorem Ls1 {u : Value} {vs us : List Value} (h : Lsub vs us) : Lsub (.null :: vs) (u :: us) := ⟨Or.inl rfl, h⟩
theorem Ls2 {u : Value} {vs us : List Value} (h : Lsub vs us) : Lsub (u :: vs) (u :: us) := ⟨Or.inr rfl, h⟩
theorem r_callVi {ci N : Nat} {T : u_T} {fs : List Value} (g : Good K w Z cc own D) (hd : decode cc pc = .ok (.invokevirtual idx, 3)) (hp : pc + 3 = pc') (hw : Cond.methodLink own idx y ∈ Ug) (mw : Mw y bytes maxL (some t) n) (mv : Mv y) (hD : d + 1 ≤ D) (hC : Ct Z.1.2.1 K w d y bytes maxL (some t) (rf w a :: As) M Fc) (hn : As.length = n) (ha : a < K.1) (he : K.2.1 w a (M.1 a) (M.2 a) = .inr (ci, fs)) (hc : vwCl[ci]? = some (y.cls, T, N)) (hst : st = As.reverse ++ rf w a :: rest) (hcat : (rest.map fun v => v.category).sum ≤ 8)
    (k : ∀ r M1, Sim K w Z pc' L (.int r :: rest) M1 (G r M1)) : Sim K w Z pc L st M (bd Fc G) := r_callV g hd hp hw mw mv hD hC hn ha he hc hst hcat (fun r M1 => k r M1)
theorem r_callVv {ci N : Nat} {T : u_T} {fs : List Value} (g : Good K w Z cc own D) (hd : decode cc pc = .ok (.invokevirtual idx, 3)) (hp : pc + 3 = pc') (hw : Cond.methodLink own idx y ∈ Ug) (mw : Mw y bytes maxL none n) (mv : Mv y) (hD : d + 1 ≤ D) (hC : Ct Z.1.2.1 K w d y bytes maxL none (rf w a :: As) M Fc) (hn : As.length = n) (ha : a < K.1) (he : K.2.1 w a (M.1 a) (M.2 a) = .inr (ci, fs)) (hc : vwCl[ci]? = some (y.cls, T, N)) (hst : st = As.reverse ++ rf w a :: rest) (hcat : (rest.map fun v => v.category).sum ≤ 8)
    (k : ∀ r M1, Sim K w Z pc' L rest M1 (G r M1)) : Sim K w Z pc L st M (bd Fc G) := r_callV g hd hp hw mw mv hD hC hn ha he hc hst hcat (fun r M1 => k r M1)
theorem r_callSi (g : Good K w Z cc own D) (hd : decode cc pc = .ok (.invokestatic idx, 3)) (hp : pc + 3 = pc') (hw : Cond.methodLink own idx y ∈ Ug) (mw : Mw y bytes maxL (some t) n) (ms : Cond.static y ∈ Ug) (hD : d + 1 ≤ D) (hC : Ct Z.1.2.1 K w d y bytes maxL (some t) As M Fc) (hn : As.length = n) (hst : st = As.reverse ++ rest) (hcat : (rest.map fun v => v.category).sum ≤ 8)
    (k : ∀ r M1, Sim K w Z pc' L (.int r :: rest) M1 (G r M1)) : Sim K w Z pc L st M (bd Fc G) := r_callS g hd hp hw mw ms hD hC hn hst hcat (fun r M1 => k r M1)
theorem r_callSv (g : Good K w Z cc own D) (hd : decode cc pc = .ok (.invokestatic idx, 3)) (hp : pc + 3 = pc') (hw : Cond.methodLink own idx y ∈ Ug) (mw : Mw y bytes maxL none n) (ms : Cond.static y ∈ Ug) (hD : d + 1 ≤ D) (hC : Ct Z.1.2.1 K w d y bytes maxL none As M Fc) (hn : As.length = n) (hst : st = As.reverse ++ rest) (hcat : (rest.map fun v => v.category).sum ≤ 8)
    (k : ∀ r M1, Sim K w Z pc' L rest M1 (G r M1)) : Sim K w Z pc L st M (bd Fc G) := r_callS g hd hp hw mw ms hD hC hn hst hcat (fun r M1 => k r M1)
theorem r_callNi {host : String} (g : Good K w Z cc own D) (hd : decode cc pc = .ok (.invokestatic idx, 3)) (hp : pc + 3 = pc') (hw : va_Nw (.methodLinkNest own idx y host) Z.1.2.2.2.2) (mw : Mw y bytes maxL (some t) n) (ms : Cond.static y ∈ Ug) (hD : d + 1 ≤ D) (hC : Ct Z.1.2.1 K w d y bytes maxL (some t) As M Fc) (hn : As.length = n) (hst : st = As.reverse ++ rest) (hcat : (rest.map fun v => v.category).sum ≤ 8)
    (k : ∀ r M1, Sim K w Z pc' L (.int r :: rest) M1 (G r M1)) : Sim K w Z pc L st M (bd Fc G) := r_callN g hd hp hw mw ms hD hC hn hst hcat (fun r M1 => k r M1)
end Itr
/-- a switch of values 0 .. n: none of them -/
theorem tb_out {x : Int32} {n : Nat} (hn : n < 2 ^ 31) (h : ∀ j : Nat, j ≤ n → ¬ x = nI j) : x.toInt < 0 ∨ (n : Int) < x.toInt := by
  by_cases q : x.toInt < 0
  · exact Or.inl q
  · by_cases q2 : (n : Int) < x.toInt
    · exact Or.inr q2
    · exfalso
      have q0 : ¬ x < 0 := fun z => by
        have z1 := Int32.lt_iff_toInt_lt.mp z
        have z2 : (0 : Int32).toInt = 0 := rfl
        omega
      obtain ⟨j, hj, e⟩ := nI_of q0
      refine h j ?_ e
      rw [e, nI_toInt hj] at q2
      omega
section Lit
variable {K : Wk} {w : W0} {Z : Zx} {cc : ByteArray} {own : String} {D pc pc' tgt : Nat} {L st : List Value} {M : Mm} {F : Rs} {off : Int} {x y : Int32}
theorem r_cge_t (g : Good K w Z cc own D) (hd : decode cc pc = .ok (.if_icmp .ge off, 3)) (ht : (pc : Int) + off = (tgt : Int)) (h : ¬ x < y) (kt : Sim K w Z tgt L st M F) : Sim K w Z pc L (.int y :: .int x :: st) M F :=
  fun r M' hF ls H lo h1 h2 h3 => lv_icmp_ge g.1 g.2.1 hd ht (fun _ => kt r M' hF ls H lo h1 h2 h3) (fun q => absurd (Int32.not_le.mp q) h)
theorem r_cge_f (g : Good K w Z cc own D) (hd : decode cc pc = .ok (.if_icmp .ge off, 3)) (hp : pc + 3 = pc') (ht : (pc : Int) + off = (tgt : Int)) (h : x < y) (kf : Sim K w Z pc' L st M F) : Sim K w Z pc L (.int y :: .int x :: st) M F := by
  subst hp; exact fun r M' hF ls H lo h1 h2 h3 => lv_icmp_ge g.1 g.2.1 hd ht (fun q => absurd h (fun z => Int32.not_le.mpr z q)) (fun _ => kf r M' hF ls H lo h1 h2 h3)
end Lit
theorem r_iincn {K : Wk} {w : W0} {Z : Zx} {cc : ByteArray} {own : String} {D pc pc' : Nat} {L st : List Value} {M : Mm} {i : Nat} {n : Int} {a b : Int32} {L' : Int32 → List Value} {F : Int32 → Rs} (g : Good K w Z cc own D) (hd : decode cc pc = .ok (.iinc i n, 3)) (hp : pc + 3 = pc') (ha : L[i]? = some (.int a)) (hv : Int32.ofInt n = b) (hn : i < Z.2.2.1) (ho : nlong L i = true) (hl : ∀ z : Int32, L.set i (.int z) = L' z) (k : ∀ z, Sim K w Z pc' (L' z) st M (F z)) : Sim K w Z pc L st M (lt' (a + b) F) := r_iinc g hd hp ha hv hn ho (hl (a + b)) (k (a + b))
