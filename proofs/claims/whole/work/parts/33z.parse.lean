/-! texts of laws, read once for both: (bad, place, code, value) -/
abbrev RPS : Type := Bool × Nat × List Int32 × (Int32 → Int32 → Int32 → Int32)
abbrev RPS.bad (r : RPS) : Bool := r.1
abbrev RPS.pos (r : RPS) : Nat := r.2.1
abbrev RPS.cod (r : RPS) : List Int32 := r.2.2.1
abbrev RPS.val (r : RPS) : Int32 → Int32 → Int32 → Int32 := r.2.2.2
/-- the byte at a place, -1 behind the text -/
def byA (l : List Int32) (p : Nat) : Int32 := if p < l.length then l.getD p 0 else iI (-1)
def isDg (v : Int32) : Bool := decide (iI 48 ≤ v ∧ v ≤ iI 57)
/-- does the byte join two parts at a level -/
def jnA (lv : Nat) (v : Int32) : Bool := (lv == 0 && v == iI 124) || (lv == 1 && v == iI 38) || (lv == 2 && (v == iI 60 || v == iI 61 || v == iI 62)) || (lv == 3 && (v == iI 43 || v == iI 45)) || (lv == 4 && (v == iI 42 || v == iI 47 || v == iI 37))
/-- two numbers joined -/
def jnV (v x y : Int32) : Int32 :=
  if v = iI 38 then (if x = 0 then iI 0 else if y = 0 then iI 0 else iI 1) else if v = iI 42 then x * y else if v = iI 43 then x + y else if v = iI 45 then x - y
  else if v = iI 47 then (if y = 0 then iI 0 else x / y) else if v = iI 60 then (if y ≤ x then iI 0 else iI 1) else if v = iI 61 then (if x = y then iI 1 else iI 0)
  else if v = iI 62 then (if x ≤ y then iI 0 else iI 1) else if v = iI 124 then (if x = 0 then (if y = 0 then iI 0 else iI 1) else iI 1) else (if y = 0 then iI 0 else rmI x y)
/-- one part more -/
def jnR (v : Int32) (r r2 : RPS) : RPS := (r2.bad, r2.pos, r.cod ++ r2.cod ++ [iI 10000 + v], fun a b c => jnV v (r.val a b c) (r2.val a b c))
def lpA (l : List Int32) (part : Nat → RPS) (lv : Nat) : Nat → RPS → RPS
  | 0, r => r
  | n + 1, r => if r.bad then r else if jnA lv (byA l r.pos) then (if lv = 2 then jnR (byA l r.pos) r (part (r.pos + 1)) else lpA l part lv n (jnR (byA l r.pos) r (part (r.pos + 1)))) else r
/-- k levels below the level 5 -/
def lvA (l : List Int32) (leaf : Nat → RPS) : Nat → Nat → RPS
  | 0, p => leaf p
  | k + 1, p => lpA l (lvA l leaf k) (4 - k) 60 (lvA l leaf k p)
def nuA (l : List Int32) : Nat → Nat → Int32 → Nat × Int32
  | 0, p, x => (p, x)
  | n + 1, p, x => if isDg (byA l p) then nuA l n (p + 1) (x * iI 10 + byA l p - iI 48) else (p, x)
/-- the names of a law: 0 r c m, 1 i o t -/
def nmA (u j : Nat) : Int32 := if u = 0 then (if j = 0 then iI 114 else if j = 1 then iI 99 else iI 109) else (if j = 0 then iI 105 else if j = 1 then iI 111 else iI 116)
def lfA (u : Nat) (l : List Int32) : Nat → Nat → RPS
  | D, p =>
    if isDg (byA l p) then (false, (nuA l 4 p (iI 0)).1, [(nuA l 4 p (iI 0)).2], fun _ _ _ => (nuA l 4 p (iI 0)).2)
    else if byA l p = iI 33 ∨ byA l p = iI 40 then
      (match D with
      | 0 => (true, p, [], fun _ _ _ => iI 0)
      | D + 1 => if byA l p = iI 33 then ((lfA u l D (p + 1)).1, (lfA u l D (p + 1)).2.1, (lfA u l D (p + 1)).2.2.1 ++ [iI 10033], fun a b c => if (lfA u l D (p + 1)).2.2.2 a b c = 0 then iI 1 else iI 0)
        else if (lvA l (lfA u l D) 5 (p + 1)).1 = true then (true, (lvA l (lfA u l D) 5 (p + 1)).2.1, [], fun _ _ _ => iI 0)
        else if byA l (lvA l (lfA u l D) 5 (p + 1)).2.1 = iI 41 then (false, (lvA l (lfA u l D) 5 (p + 1)).2.1 + 1, (lvA l (lfA u l D) 5 (p + 1)).2.2.1, (lvA l (lfA u l D) 5 (p + 1)).2.2.2)
        else (true, (lvA l (lfA u l D) 5 (p + 1)).2.1, [], fun _ _ _ => iI 0))
    else if byA l p = nmA u 0 then (false, p + 1, [iI (-1)], fun a _ _ => a)
    else if byA l p = nmA u 1 then (false, p + 1, [iI (-2)], fun _ b _ => b)
    else if byA l p = nmA u 2 then (false, p + 1, [iI (-3)], fun _ _ c => c)
    else (true, p, [], fun _ _ _ => iI 0)
/-- a whole text -/
def txA (u : Nat) (l : List Int32) : RPS := lvA l (lfA u l 5) 5 0
/-- code and text are of one law -/
def LTie (u : Nat) (code : List Int32) (text : Option (List Int32)) : Prop :=
  match text with
  | none => code = []
  | some l => code ≠ [] ∧ (txA u l).1 = false ∧ (txA u l).2.1 = l.length ∧ (txA u l).2.2.1 = code
def SHV (b : Nat) (l : List Int32) : Prop := l.length ≤ 40 ∧ (b = 0 ∨ b = 8 ∨ b = 16 ∨ b = 32) ∧ (b = 0 → l = []) ∧ (∀ x, x ∈ l → ∀ i, b ≤ i → i < 32 → bt x i = false)
