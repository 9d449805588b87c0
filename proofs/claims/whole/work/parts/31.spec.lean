/-! WHAT THE DOCUMENT'S WORDS ARE, as values: texts, costs -/
/-- the byte at a place of a text of n bytes; -1 behind its end -/
def pk (tx : Nat → Int32) (n i : Nat) : Int32 := if i < n then tx i else -1
def isDg (c : Int32) : Bool := !decide (c < 48) && !decide (57 < c)
/-- how many harbours are bad in a world -/
def popc (w : Nat) : Nat := w % 2 + w / 2 % 2 + w / 4 % 2 + w / 8 % 2
def badS (c : Int32) (w : Nat) : Bool := decide (c - 48 < 4) && bt (nI w) (ix (c - 48))
def cntS (s c : Int32) (w : Nat) : Bool := if s = 60 then decide (nI (popc w) < c - 48) else if s = 62 then decide (c - 48 < nI (popc w)) else decide (nI (popc w) = c - 48)
abbrev LR : Type := Nat ⊕ (Nat × (Nat → Bool))
/-- laws: mode 0 a part, 1 a term, 2 a test; at a depth, from a place on: the place of the fault, or the place behind it and the worlds for which it holds -/
def lwS (tx : Nat → Int32) (n : Nat) : Nat → Nat → Nat → Nat → LR
  | 0, _, _, i => .inl i
  | f + 1, md, dep, i =>
    if md = 0 then
      if pk tx n i = 98 then
        if isDg (pk tx n (i + 1)) then .inr (i + 2, badS (pk tx n (i + 1))) else .inl (i + 1)
      else if pk tx n i = 110 then
        if pk tx n (i + 1) = 60 ∨ pk tx n (i + 1) = 61 ∨ pk tx n (i + 1) = 62 then
          if isDg (pk tx n (i + 2)) then .inr (i + 3, cntS (pk tx n (i + 1)) (pk tx n (i + 2))) else .inl (i + 2)
        else .inl (i + 1)
      else if pk tx n i = 33 then
        if dep < 4 then
          match lwS tx n f 0 (dep + 1) (i + 1) with
          | .inl q => .inl q
          | .inr (j, v) => .inr (j, fun w => !v w)
        else .inl i
      else if pk tx n i = 40 then
        if dep < 4 then
          match lwS tx n f 2 (dep + 1) (i + 1) with
          | .inl q => .inl q
          | .inr (j, v) => if pk tx n j = 41 then .inr (j + 1, v) else .inl j
        else .inl i
      else .inl i
    else if md = 1 then
      match lwS tx n f 0 dep i with
      | .inl q => .inl q
      | .inr (j, v) =>
        if pk tx n j = 38 then
          match lwS tx n f 1 dep (j + 1) with
          | .inl q => .inl q
          | .inr (j2, v2) => .inr (j2, fun w => v w && v2 w)
        else .inr (j, v)
    else
      match lwS tx n f 1 dep i with
      | .inl q => .inl q
      | .inr (j, v) =>
        if pk tx n j = 124 then
          match lwS tx n f 2 dep (j + 1) with
          | .inl q => .inl q
          | .inr (j2, v2) => .inr (j2, fun w => v w || v2 w)
        else .inr (j, v)
abbrev Vl : Type := Int32 → Int32 → Int32
abbrev RR : Type := Nat ⊕ (Nat × Vl)
/-- up to three digits -/
def numS (tx : Nat → Int32) (n : Nat) : Nat → Nat → Int32 → Nat × Int32
  | 0, i, a => (i, a)
  | f + 1, i, a => if isDg (pk tx n i) then numS tx n f (i + 1) (a * 10 + (pk tx n i - 48)) else (i, a)
def ferS (k : Int32) : Vl := fun p _ => if k < 4 then (p >>> ((2 * k) &&& 31)) &&& 3 else 0
def seeS (k : Int32) : Vl := fun _ w => (w >>> (k &&& 31)) &&& 1
/-- rules: mode 0 a unit, 1 a product, 2 a sum, 3 and 4 their rests behind what was read; which harbours may be asked of is told -/
def rwS (tx : Nat → Int32) (n : Nat) (sn : Int32 → Bool) : Nat → Nat → Nat → Nat → Vl → RR
  | 0, _, _, i, _ => .inl i
  | f + 1, md, dep, i, a =>
    if md = 0 then
      if isDg (pk tx n i) then .inr ((numS tx n 3 i 0).1, fun _ _ => (numS tx n 3 i 0).2)
      else if pk tx n i = 120 then
        if isDg (pk tx n (i + 1)) then .inr (i + 2, ferS (pk tx n (i + 1) - 48)) else .inl (i + 1)
      else if pk tx n i = 115 then
        if sn (pk tx n (i + 1) - 48) then .inr (i + 2, seeS (pk tx n (i + 1) - 48)) else .inl (i + 1)
      else if pk tx n i = 40 then
        if dep < 4 then
          match rwS tx n sn f 2 (dep + 1) (i + 1) a with
          | .inl q => .inl q
          | .inr (j, v) => if pk tx n j = 41 then .inr (j + 1, v) else .inl j
        else .inl i
      else .inl i
    else if md = 1 then
      match rwS tx n sn f 0 dep i a with
      | .inl q => .inl q
      | .inr (j, v) => rwS tx n sn f 3 dep j v
    else if md = 2 then
      match rwS tx n sn f 1 dep i a with
      | .inl q => .inl q
      | .inr (j, v) => rwS tx n sn f 4 dep j v
    else if md = 3 then
      if pk tx n i = 42 then
        match rwS tx n sn f 0 dep (i + 1) a with
        | .inl q => .inl q
        | .inr (j, v) => rwS tx n sn f 3 dep j (fun p w => a p w * v p w)
      else .inr (i, a)
    else
      if pk tx n i = 43 then
        match rwS tx n sn f 1 dep (i + 1) a with
        | .inl q => .inl q
        | .inr (j, v) => rwS tx n sn f 4 dep j (fun p w => a p w + v p w)
      else if pk tx n i = 45 then
        match rwS tx n sn f 1 dep (i + 1) a with
        | .inl q => .inl q
        | .inr (j, v) => rwS tx n sn f 4 dep j (fun p w => a p w - v p w)
      else .inr (i, a)
/-! costs, in whole numbers -/
def zz (nu : Nat → Int32) (i : Nat) : Int := (nu i).toInt
def fer (p h : Nat) : Int := ((p / 4 ^ h % 4 : Nat) : Int)
def wbt (w h : Nat) : Int := ((w / 2 ^ h % 2 : Nat) : Int)
def balZ (nu : Nat → Int32) (p w h : Nat) : Int := fer p h * zz nu 40 - zz nu (6 * h) - wbt w h * zz nu (6 * h + 1)
def spZ (nu : Nat → Int32) (p w h : Nat) : Int := if 0 < balZ nu p w h then balZ nu p w h else 0
def lkZ (nu : Nat → Int32) (p w h : Nat) : Int := if balZ nu p w h < 0 then -balZ nu p w h else 0
/-- what a unit is worth at a harbour, by prices -/
def uZ1 (nu : Nat → Int32) (sp pr : Nat → Int) (j : Nat) (u : Int) (i : Nat) : Int := if 0 < sp i then (if u < pr i + zz nu (24 + 4 * i + j) then u else pr i + zz nu (24 + 4 * i + j)) else u
def uZ (nu : Nat → Int32) (sp pr : Nat → Int) (j : Nat) : Int := uZ1 nu sp pr j (uZ1 nu sp pr j (uZ1 nu sp pr j (uZ1 nu sp pr j (zz nu 41) 0) 1) 2) 3
def tZ (nu : Nat → Int32) (sp lk pr : Nat → Int) (j : Nat) : Int :=
  if lk j = 0 then 0 else
    (if uZ nu sp pr j < zz nu (6 * j + 3) then uZ nu sp pr j else zz nu (6 * j + 3)) * lk j + (if zz nu (6 * j + 3) < uZ nu sp pr j ∧ 0 < lk j - zz nu (6 * j + 4) then (uZ nu sp pr j - zz nu (6 * j + 3)) * (lk j - zz nu (6 * j + 4)) else 0)
/-- what prices make of all that lacks -/
def wZ (nu : Nat → Int32) (sp lk pr : Nat → Int) : Int := tZ nu sp lk pr 0 + tZ nu sp lk pr 1 + tZ nu sp lk pr 2 + tZ nu sp lk pr 3 - pr 0 * sp 0 - pr 1 * sp 1 - pr 2 * sp 2 - pr 3 * sp 3
def mx (a b : Int) : Int := if a < b then b else a
def cut0 (a : Int) : Int := if 0 < a then a else 0
def lvZ (nu : Nat → Int32) (sp : Nat → Int) (j : Nat) (lv : Int) : Nat → Int := fun i => if 0 < sp i then cut0 (lv - zz nu (24 + 4 * i + j)) else 0
def prZ (nu : Nat → Int32) (lk : Nat → Int) (i k : Nat) : Int := if k = 8 then 0 else if lk (k / 2) = 0 then 0 else cut0 ((if k % 2 = 0 then zz nu 41 else zz nu (6 * (k / 2) + 3)) - zz nu (24 + 4 * i + k / 2))
def p1Z (i : Nat) (x : Int) : Nat → Int := fun h => if h = i then x else 0
def p2Z (a b : Nat) (x y : Int) : Nat → Int := fun h => if h = a then x else if h = b then y else 0
/-- the greatest of what a row of prices is worth, and what came before -/
def bestZ (f : Nat → Int) : Nat → Int → Int
  | 0, b => b
  | n + 1, b => mx (bestZ f n b) (f n)
def cntP (f : Nat → Int) : Nat := (if 0 < f 0 then 1 else 0) + (if 0 < f 1 then 1 else 0) + (if 0 < f 2 then 1 else 0) + (if 0 < f 3 then 1 else 0)
