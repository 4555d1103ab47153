/-! the tables' words that keep, and the nest words -/
def TT : List Cond := lw_tbl.filter goodWord
theorem TT_mem {w : Cond} (i : Nat) (h : lw_tbl[i]? = some w) (hg : goodWord w = true) : w ∈ TT := List.mem_filter.mpr ⟨List.mem_of_getElem? h, hg⟩
theorem TT_good : ∀ w ∈ TT, (w.onTables && w.keeps) = true ∨ ∃ ty, w = .arrayClass ty := fun _ h => good_of_word (List.mem_filter.mp h).2
theorem TT_hts {args : Array Value} {s : State} (h : ∀ w ∈ lw_tbl, w.before args s = true) : ∀ w ∈ TT, w.before args s = true := fun w hw => h w (List.mem_filter.mp hw).1
def NW : List (String × Nat × MethodName × String) := [
  ("TurnedBeam", 15, ⟨"TurnedBeam$Whole", "<init>", "()V"⟩, "TurnedBeam"),
  ("TurnedBeam$Whole", 9, ⟨"TurnedBeam$Hall", "<init>", "()V"⟩, "TurnedBeam"),
  ("TurnedBeam", 35, ⟨"TurnedBeam$Beam", "<init>", "()V"⟩, "TurnedBeam"),
  ("TurnedBeam", 42, ⟨"TurnedBeam$Hall", "<init>", "()V"⟩, "TurnedBeam"),
  ("TurnedBeam", 49, ⟨"TurnedBeam$Reader", "<init>", "()V"⟩, "TurnedBeam"),
  ("TurnedBeam", 56, ⟨"TurnedBeam$Voice", "<init>", "()V"⟩, "TurnedBeam"),
  ("TurnedBeam", 63, ⟨"TurnedBeam$Foresight", "<init>", "()V"⟩, "TurnedBeam"),
  ("TurnedBeam$Foresight", 9, ⟨"TurnedBeam$Hall", "<init>", "()V"⟩, "TurnedBeam"),
  ("TurnedBeam$Foresight", 18, ⟨"TurnedBeam$Beam", "<init>", "()V"⟩, "TurnedBeam"),
  ("TurnedBeam", 70, ⟨"TurnedBeam$Hands", "<init>", "()V"⟩, "TurnedBeam"),
  ("TurnedBeam$Hands", 9, ⟨"TurnedBeam$Hall", "<init>", "()V"⟩, "TurnedBeam"),
  ("TurnedBeam$Hands", 18, ⟨"TurnedBeam$Beam", "<init>", "()V"⟩, "TurnedBeam"),
  ("TurnedBeam", 77, ⟨"TurnedBeam$Doubt", "<init>", "()V"⟩, "TurnedBeam"),
  ("TurnedBeam$Doubt", 9, ⟨"TurnedBeam$Hall", "<init>", "()V"⟩, "TurnedBeam"),
  ("TurnedBeam$Doubt", 18, ⟨"TurnedBeam$Beam", "<init>", "()V"⟩, "TurnedBeam"),
  ("TurnedBeam", 82, ⟨"TurnedBeam$Sheet", "<init>", "()V"⟩, "TurnedBeam"),
  ("TurnedBeam$Hall", 36, ⟨"TurnedBeam", "within", "(III)Z"⟩, "TurnedBeam"),
  ("TurnedBeam$Whole", 69, ⟨"TurnedBeam", "quotient", "(II)I"⟩, "TurnedBeam"),
  ("TurnedBeam$Whole", 75, ⟨"TurnedBeam", "rest", "(II)I"⟩, "TurnedBeam"),
  ("TurnedBeam$Law", 31, ⟨"TurnedBeam", "held", "(III)I"⟩, "TurnedBeam"),
  ("TurnedBeam$Whole", 128, ⟨"TurnedBeam", "held", "(III)I"⟩, "TurnedBeam"),
  ("TurnedBeam$Reader", 41, ⟨"TurnedBeam", "held", "(III)I"⟩, "TurnedBeam"),
  ("TurnedBeam$Reader", 92, ⟨"TurnedBeam", "within", "(III)Z"⟩, "TurnedBeam"),
  ("TurnedBeam$Voice", 58, ⟨"TurnedBeam", "within", "(III)Z"⟩, "TurnedBeam"),
  ("TurnedBeam$Sheet", 26, ⟨"TurnedBeam", "within", "(III)Z"⟩, "TurnedBeam")]
def Nest (U : State) : Prop := ∀ q ∈ NW, va_Nw (.methodLinkNest q.1 q.2.1 q.2.2.1 q.2.2.2) U
theorem Nest.warm {s U : State} (hW : s.WarmedH U.vm) (h : Nest s) : Nest U := fun q hq => va_Nw.warmM hW (h q hq)
theorem Nest.same {u U : State} (e : u.vm = U.vm) (h : Nest u) : Nest U := fun q hq => va_Nw.same rfl e (h q hq)
/-! memory: the ints and the longs of all cells, by cell and place -/
abbrev Mem : Type := (Nat → Nat → Int32) × (Nat → Nat → Int64)
def gI (h : Mem) (a k : Nat) : Int32 := h.1 a k
def gL (h : Mem) (a k : Nat) : Int64 := h.2 a k
def sI (h : Mem) (a k : Nat) (v : Int32) : Mem := (fun b j => if b = a ∧ j = k then v else h.1 b j, h.2)
def sL (h : Mem) (a k : Nat) (v : Int64) : Mem := (h.1, fun b j => if b = a ∧ j = k then v else h.2 b j)
theorem gI_sI (h : Mem) (a k b j : Nat) (v : Int32) : gI (sI h a k v) b j = if b = a ∧ j = k then v else gI h b j := rfl
theorem gL_sI (h : Mem) (a k b j : Nat) (v : Int32) : gL (sI h a k v) b j = gL h b j := rfl
theorem gI_sL (h : Mem) (a k b j : Nat) (v : Int64) : gI (sL h a k v) b j = gI h b j := rfl
theorem gL_sL (h : Mem) (a k b j : Nat) (v : Int64) : gL (sL h a k v) b j = if b = a ∧ j = k then v else gL h b j := rfl
/-- n ints of the cell a from place i on come to the cell b, from place j on -/
def cpI (h : Mem) (a i b j n : Nat) : Mem := (fun c k => if c = b then va_cpy (fun x => h.1 a x) (fun x => h.1 b x) i j n k else h.1 c k, h.2)
theorem gI_cpI (h : Mem) (a i b j n c k : Nat) : gI (cpI h a i b j n) c k = if c = b ∧ j ≤ k ∧ k < j + n then gI h a (i + (k - j)) else gI h c k := by
  show (if c = b then va_cpy (fun x => h.1 a x) (fun x => h.1 b x) i j n k else h.1 c k) = _
  by_cases hc : c = b
  · subst hc
    by_cases hk : j ≤ k ∧ k < j + n
    · rw [if_pos rfl, if_pos ⟨rfl, hk⟩]; exact if_pos hk
    · rw [if_pos rfl, if_neg (fun z => hk z.2)]; exact if_neg hk
  · rw [if_neg hc, if_neg (fun z => hc z.1)]; rfl
theorem gL_cpI (h : Mem) (a i b j n c k : Nat) : gL (cpI h a i b j n) c k = gL h c k := rfl
/-! the combinators of the programs' meanings -/
abbrev iI (z : Int) : Int32 := Int32.ofInt z
abbrev iL (z : Int) : Int64 := Int64.ofInt z
section COMB
variable {ρ A A1 A2 A3 A4 A5 A6 A7 A8 : Type} {r : ρ} {P : Prop}
def nm (e : A) (K : A → Option ρ) : Option ρ := K e
def ald (h : Mem) (q n : Nat) (i : Int32) (K : Int32 → Option ρ) : Option ρ := if 0 ≤ i.toInt ∧ i.toInt < n then K (gI h q i.toNatClampNeg) else none
def aldL (h : Mem) (q n : Nat) (i : Int32) (K : Int64 → Option ρ) : Option ρ := if 0 ≤ i.toInt ∧ i.toInt < n then K (gL h q i.toNatClampNeg) else none
def ast (h : Mem) (q n : Nat) (i v : Int32) (K : Mem → Option ρ) : Option ρ := if 0 ≤ i.toInt ∧ i.toInt < n then K (sI h q i.toNatClampNeg v) else none
def astL (h : Mem) (q n : Nat) (i : Int32) (v : Int64) (K : Mem → Option ρ) : Option ρ := if 0 ≤ i.toInt ∧ i.toInt < n then K (sL h q i.toNatClampNeg v) else none
def tld (f : Nat → Int32) (n : Nat) (i : Int32) (K : Int32 → Option ρ) : Option ρ := if 0 ≤ i.toInt ∧ i.toInt < n then K (f i.toNatClampNeg) else none
def nz (y : Int32) (K : Option ρ) : Option ρ := if y = 0 then none else K
def rZ (v : Int32) (K : Option ρ) : Option ρ := if v = 0 ∨ v = 1 then K else none
def rng (i : Int32) (n : Nat) (K : Nat → Option ρ) : Option ρ := if 0 ≤ i.toInt ∧ i.toInt < n then K i.toNatClampNeg else none
def acp (h : Mem) (a an : Nat) (i : Int32) (b bn : Nat) (j n : Int32) (K : Mem → Option ρ) : Option ρ :=
  if 0 ≤ i.toInt ∧ 0 ≤ j.toInt ∧ 0 ≤ n.toInt ∧ i.toInt + n.toInt ≤ an ∧ j.toInt + n.toInt ≤ bn then K (cpI h a i.toNatClampNeg b j.toNatClampNeg n.toNatClampNeg) else none
def cal (x : Option A) (K : A → Option ρ) : Option ρ := x.bind K
def cal2 (x : Option (A × Mem)) (K : A → Mem → Option ρ) : Option ρ := x.bind fun q => K q.1 q.2
def join {β : Type} (k : β) (f : β → Option ρ) : Option ρ := f k
def lo1 (f : A1 → (A1 → Option ρ) → Option ρ) : Nat → A1 → Option ρ | 0, _ => none | n + 1, a => f a (lo1 f n)
def lo2 (f : A1 → A2 → (A1 → A2 → Option ρ) → Option ρ) : Nat → A1 → A2 → Option ρ | 0, _, _ => none | n + 1, a, b => f a b (lo2 f n)
def lo3 (f : A1 → A2 → A3 → (A1 → A2 → A3 → Option ρ) → Option ρ) : Nat → A1 → A2 → A3 → Option ρ | 0, _, _, _ => none | n + 1, a, b, c => f a b c (lo3 f n)
def lo4 (f : A1 → A2 → A3 → A4 → (A1 → A2 → A3 → A4 → Option ρ) → Option ρ) : Nat → A1 → A2 → A3 → A4 → Option ρ | 0, _, _, _, _ => none | n + 1, a, b, c, d => f a b c d (lo4 f n)
def lo5 (f : A1 → A2 → A3 → A4 → A5 → (A1 → A2 → A3 → A4 → A5 → Option ρ) → Option ρ) : Nat → A1 → A2 → A3 → A4 → A5 → Option ρ | 0, _, _, _, _, _ => none | n + 1, a, b, c, d, e => f a b c d e (lo5 f n)
theorem q_nm {e : A} {K : A → Option ρ} (h : nm e K = some r) : ∃ x, e = x ∧ K x = some r := ⟨e, rfl, h⟩
theorem q_cal {x : Option A} {K : A → Option ρ} (h : cal x K = some r) : ∃ v, x = some v ∧ K v = some r := by
  cases x with
  | none => cases h
  | some v => exact ⟨v, rfl, h⟩
theorem q_cal2 {x : Option (A × Mem)} {K : A → Mem → Option ρ} (h : cal2 x K = some r) : ∃ v h1, x = some (v, h1) ∧ K v h1 = some r := by
  cases x with
  | none => cases h
  | some v => exact ⟨v.1, v.2, rfl, h⟩
theorem q_ch {c : Prop} [Decidable c] {x : Option ρ} (h : (if c then x else none) = some r) : c ∧ x = some r := by
  by_cases hc : c
  · rw [if_pos hc] at h; exact ⟨hc, h⟩
  · rw [if_neg hc] at h; cases h
theorem q_nz {y : Int32} {K : Option ρ} (h : nz y K = some r) : ¬ y = 0 ∧ K = some r := by
  unfold nz at h
  by_cases hc : y = 0
  · rw [if_pos hc] at h; cases h
  · rw [if_neg hc] at h; exact ⟨hc, h⟩
theorem q_rZ {v : Int32} {K : Option ρ} (h : rZ v K = some r) : (v = 0 ∨ v = 1) ∧ K = some r := q_ch h
theorem q_rng {i : Int32} {n : Nat} {K : Nat → Option ρ} (h : rng i n K = some r) : ∃ j, j < n ∧ i.toInt = (j : Int) ∧ i.toNatClampNeg = j ∧ K j = some r := by
  obtain ⟨⟨h1, h2⟩, h3⟩ := q_ch h
  have e : i.toInt = (i.toNatClampNeg : Int) := by
    show i.toInt = ((i.toInt.toNat : Nat) : Int)
    omega
  exact ⟨i.toNatClampNeg, by omega, e, rfl, h3⟩
theorem q_t {c : Prop} [d : Decidable c] {x y : Option ρ} (hc : c) (h : (if c then x else y) = some r) : x = some r := by rw [if_pos hc] at h; exact h
theorem q_f {c : Prop} [d : Decidable c] {x y : Option ρ} (hc : ¬ c) (h : (if c then x else y) = some r) : y = some r := by rw [if_neg hc] at h; exact h
theorem q_join0 {P0 : Prop} {k : Option ρ} {f : Option ρ → Option ρ} (h : join k f = some r) (hk : k = some r → P0) (hf : ∀ K : Option ρ, (K = some r → P0) → f K = some r → P) : P := hf k hk h
theorem q_join1 {P0 : A1 → Prop} {k : A1 → Option ρ} {f : (A1 → Option ρ) → Option ρ} (h : join k f = some r) (hk : ∀ a, k a = some r → P0 a) (hf : ∀ K : A1 → Option ρ, (∀ a, K a = some r → P0 a) → f K = some r → P) : P := hf k hk h
theorem q_join2 {P0 : A1 → A2 → Prop} {k : A1 → A2 → Option ρ} {f : (A1 → A2 → Option ρ) → Option ρ} (h : join k f = some r) (hk : ∀ a b, k a b = some r → P0 a b) (hf : ∀ K : A1 → A2 → Option ρ, (∀ a b, K a b = some r → P0 a b) → f K = some r → P) : P := hf k hk h
theorem q_join3 {P0 : A1 → A2 → A3 → Prop} {k : A1 → A2 → A3 → Option ρ} {f : (A1 → A2 → A3 → Option ρ) → Option ρ} (h : join k f = some r) (hk : ∀ a b c, k a b c = some r → P0 a b c) (hf : ∀ K : A1 → A2 → A3 → Option ρ, (∀ a b c, K a b c = some r → P0 a b c) → f K = some r → P) : P := hf k hk h
theorem q_join4 {P0 : A1 → A2 → A3 → A4 → Prop} {k : A1 → A2 → A3 → A4 → Option ρ} {f : (A1 → A2 → A3 → A4 → Option ρ) → Option ρ} (h : join k f = some r) (hk : ∀ a b c d, k a b c d = some r → P0 a b c d) (hf : ∀ K : A1 → A2 → A3 → A4 → Option ρ, (∀ a b c d, K a b c d = some r → P0 a b c d) → f K = some r → P) : P := hf k hk h
theorem q_lo1 {P0 : A1 → Prop} {f : A1 → (A1 → Option ρ) → Option ρ} {n : Nat} {a0 : A1} (h : lo1 f n a0 = some r) (hs : ∀ K : A1 → Option ρ, (∀ a, K a = some r → P0 a) → ∀ a, f a K = some r → P0 a) : P0 a0 := by
  induction n generalizing a0 with
  | zero => cases h
  | succ n ih => exact hs (lo1 f n) (fun _ => ih) a0 h
theorem q_lo2 {P0 : A1 → A2 → Prop} {f : A1 → A2 → (A1 → A2 → Option ρ) → Option ρ} {n : Nat} {a0 : A1} {b0 : A2} (h : lo2 f n a0 b0 = some r) (hs : ∀ K : A1 → A2 → Option ρ, (∀ a b, K a b = some r → P0 a b) → ∀ a b, f a b K = some r → P0 a b) : P0 a0 b0 := by
  induction n generalizing a0 b0 with
  | zero => cases h
  | succ n ih => exact hs (lo2 f n) (fun _ _ => ih) a0 b0 h
theorem q_lo3 {P0 : A1 → A2 → A3 → Prop} {f : A1 → A2 → A3 → (A1 → A2 → A3 → Option ρ) → Option ρ} {n : Nat} {a0 : A1} {b0 : A2} {c0 : A3} (h : lo3 f n a0 b0 c0 = some r) (hs : ∀ K : A1 → A2 → A3 → Option ρ, (∀ a b c, K a b c = some r → P0 a b c) → ∀ a b c, f a b c K = some r → P0 a b c) : P0 a0 b0 c0 := by
  induction n generalizing a0 b0 c0 with
  | zero => cases h
  | succ n ih => exact hs (lo3 f n) (fun _ _ _ => ih) a0 b0 c0 h
theorem q_lo4 {P0 : A1 → A2 → A3 → A4 → Prop} {f : A1 → A2 → A3 → A4 → (A1 → A2 → A3 → A4 → Option ρ) → Option ρ} {n : Nat} {a0 : A1} {b0 : A2} {c0 : A3} {d0 : A4} (h : lo4 f n a0 b0 c0 d0 = some r) (hs : ∀ K : A1 → A2 → A3 → A4 → Option ρ, (∀ a b c d, K a b c d = some r → P0 a b c d) → ∀ a b c d, f a b c d K = some r → P0 a b c d) : P0 a0 b0 c0 d0 := by
  induction n generalizing a0 b0 c0 d0 with
  | zero => cases h
  | succ n ih => exact hs (lo4 f n) (fun _ _ _ _ => ih) a0 b0 c0 d0 h
theorem q_lo5 {P0 : A1 → A2 → A3 → A4 → A5 → Prop} {f : A1 → A2 → A3 → A4 → A5 → (A1 → A2 → A3 → A4 → A5 → Option ρ) → Option ρ} {n : Nat} {a0 : A1} {b0 : A2} {c0 : A3} {d0 : A4} {e0 : A5} (h : lo5 f n a0 b0 c0 d0 e0 = some r) (hs : ∀ K : A1 → A2 → A3 → A4 → A5 → Option ρ, (∀ a b c d e, K a b c d e = some r → P0 a b c d e) → ∀ a b c d e, f a b c d e K = some r → P0 a b c d e) : P0 a0 b0 c0 d0 e0 := by
  induction n generalizing a0 b0 c0 d0 e0 with
  | zero => cases h
  | succ n ih => exact hs (lo5 f n) (fun _ _ _ _ _ => ih) a0 b0 c0 d0 e0 h
end COMB
/-! the cells in their order: (0, n) ints, (1, n) longs, (2, n) references to Sheets, (3 + c, 0) an object of class c -/
def LAY : List (Nat × Nat) := [(13, 0), (0, 6), (12, 0), (6, 0), (0, 25), (0, 25), (0, 25), (8, 0), (0, 50), (0, 50), (8, 0), (0, 50), (0, 50), (0, 50), (0, 20), (12, 0), (6, 0), (0, 25), (0, 25), (0, 25), (8, 0), (0, 50), (0, 50), (8, 0), (0, 50), (0, 50), (0, 50), (0, 20), (2, 4), (3, 0), (6, 0), (0, 25), (0, 25), (0, 25), (9, 0), (0, 50), (0, 50), (11, 0), (0, 40), (5, 0), (6, 0), (0, 25), (0, 25), (0, 25), (3, 0), (0, 3), (0, 3), (1, 3), (0, 201), (1, 201), (7, 0), (6, 0), (0, 25), (0, 25), (0, 25), (3, 0), (4, 0), (6, 0), (0, 25), (0, 25), (0, 25), (3, 0), (0, 5), (0, 20), (10, 0), (0, 40), (10, 0), (0, 40), (10, 0), (0, 40), (10, 0), (0, 40), (14, 0), (0, 305), (0, 305), (0, 305), (0, 305), (0, 6), (0, 3), (0, 1220), (0, 201), (1, 201), (0, 5), (0, 4), (0, 4), (0, 160), (0, 40), (0, 20), (0, 40)]
theorem lay_len : LAY.length = 89 := by decide +kernel
theorem lay_all {x y : Nat × Nat} {d : Nat} (h : (List.range 89).all (fun q => !decide (LAY[q]? = some x) || decide (LAY[q + d]? = some y)) = true) : ∀ q, LAY[q]? = some x → LAY[q + d]? = some y := by
  intro q hq
  have hl : q < LAY.length := (List.getElem?_eq_some_iff.mp hq).1
  rw [lay_len] at hl
  have h1 := List.all_eq_true.mp h q (List.mem_range.mpr hl)
  rw [decide_eq_true hq] at h1
  simpa using h1
/-- the fields of a class: 0 an int, 1 a long, n + 2 a reference to the cell n behind the object's own -/
def FTab : Nat → List Nat := fun c => match c with
  | 0 => [0, 0, 0, 0, 0, 0, 0, 0]
  | 1 => [3, 7, 8, 0, 0, 1, 9, 0, 0, 0, 0]
  | 2 => [3, 7, 8, 9, 10, 11, 12, 0, 0, 0]
  | 3 => [0, 0, 3, 4, 5, 0, 1]
  | 4 => [3, 7, 0, 0, 0, 0, 0]
  | 5 => [0, 3, 0, 4]
  | 6 => [3, 0, 4, 0, 0, 0, 0]
  | 7 => [0, 0, 3]
  | 8 => [3, 0, 0, 0, 0]
  | 9 => [3, 7, 10, 13, 0, 14, 0, 0, 0, 0]
  | 10 => [3, 4, 17, 0, 30, 31, 32, 36, 39, 41, 52, 58]
  | 11 => [3, 4, 5, 6, 0, 0, 7, 0, 0, 0, 0, 0, 0, 0, 0, 0, 0, 0, 0, 0, 0, 0, 0, 0, 8, 9, 0, 0, 0, 10, 11, 0, 12, 0, 13, 14, 15, 16, 17, 18, 0, 0, 0, 0]
  | _ => []
def fv (ad : Nat → Nat) (h : Mem) (q k : Nat) : Nat → Value
  | 0 => .int (gI h q k)
  | 1 => .long (gL h q k)
  | n + 2 => .ref (ad (q + n))
def flds (ad : Nat → Nat) (h : Mem) (q : Nat) : Nat → List Nat → List Value
  | _, [] => []
  | k, c :: cs => fv ad h q k c :: flds ad h q (k + 1) cs
abbrev GG : Type := va_G × (ClassId × ClassId × ClassId) × (Nat → Nat) × (Nat × Nat × Nat)
def shc (ad : Nat → Nat) : Nat → Option Nat := fun j => some (ad (64 + 2 * j))
def en (G : GG) (h : Mem) (q : Nat) (s : Nat × Nat) : va_E := match s.1 with
  | 0 => .inl (G.2.1.1, (s.2, .inl (fun j => gI h q j)))
  | 1 => .inl (G.2.1.2.1, (s.2, .inr (.inl (fun j => gL h q j))))
  | 2 => .inl (G.2.1.2.2, (s.2, .inr (.inr (.inr (.inr (shc G.2.2.1))))))
  | c + 3 => .inr (c, flds G.2.2.1 h q 0 (FTab c))
def wsA (G : GG) (h : Mem) : Nat → List (Nat × Nat) → va_W
  | _, [] => []
  | q, s :: l => (G.2.2.1 q, en G h q s) :: wsA G h (q + 1) l
def wsOf (G : GG) (h : Mem) : va_W := wsA G h 0 LAY
theorem wsA_get (G : GG) (h : Mem) (l : List (Nat × Nat)) : ∀ (n k : Nat), (wsA G h n l)[k]? = (l[k]?).map (fun s => (G.2.2.1 (n + k), en G h (n + k) s)) := by
  induction l with
  | nil => intro n k; rfl
  | cons s l ih =>
    intro n k
    cases k with
    | zero => rfl
    | succ k =>
      show (wsA G h (n + 1) l)[k]? = (l[k]?).map _
      rw [ih (n + 1) k, show n + 1 + k = n + (k + 1) by omega]
theorem ws_get {G : GG} {h : Mem} {q : Nat} {s : Nat × Nat} (hq : LAY[q]? = some s) : (wsOf G h)[q]? = some (G.2.2.1 q, en G h q s) := by
  unfold wsOf
  rw [wsA_get, hq, Nat.zero_add]
  rfl
theorem ws_set {G : GG} {h h' : Mem} {q : Nat} {s : Nat × Nat} {e : va_E} (hq : LAY[q]? = some s) (he : e = en G h' q s) (ho : ∀ (j : Nat) (s' : Nat × Nat), j ≠ q → en G h j s' = en G h' j s') : (wsOf G h).set q (G.2.2.1 q, e) = wsOf G h' := by
  apply List.ext_getElem?
  intro j
  rw [List.getElem?_set]
  unfold wsOf
  by_cases hj : q = j
  · subst hj
    have hl : q < (wsA G h 0 LAY).length := (List.getElem?_eq_some_iff.mp (ws_get (G := G) (h := h) hq)).1
    rw [if_pos rfl, if_pos hl, wsA_get, hq, Nat.zero_add, he]
    rfl
  · rw [if_neg hj, wsA_get, wsA_get, Nat.zero_add]
    cases LAY[j]? with
    | none => rfl
    | some s' => exact congrArg (fun x => some (G.2.2.1 j, x)) (ho j s' (fun z => hj z.symm))
theorem flds_get {ad : Nat → Nat} {h : Mem} {q : Nat} : ∀ {l : List Nat} {n k c : Nat}, l[k]? = some c → (flds ad h q n l)[k]? = some (fv ad h q (n + k) c)
  | [], n, k, c, hk => by cases hk
  | x :: l, n, 0, c, hk => by cases hk; rfl
  | x :: l, n, k + 1, c, hk => by
    show (flds ad h q (n + 1) l)[k]? = _
    rw [flds_get (l := l) hk, show n + 1 + k = n + (k + 1) by omega]
theorem flds_other {ad : Nat → Nat} {h h' : Mem} {q : Nat} (h1 : ∀ k, gI h q k = gI h' q k) (h2 : ∀ k, gL h q k = gL h' q k) : ∀ (l : List Nat) (n : Nat), flds ad h q n l = flds ad h' q n l
  | [], n => rfl
  | c :: l, n => by
    show fv ad h q n c :: flds ad h q (n + 1) l = fv ad h' q n c :: flds ad h' q (n + 1) l
    rw [flds_other h1 h2 l (n + 1)]
    congr 1
    match c with
    | 0 => exact congrArg Value.int (h1 n)
    | 1 => exact congrArg Value.long (h2 n)
    | c + 2 => rfl
theorem en_other {G : GG} {h h' : Mem} {q : Nat} (h1 : ∀ k, gI h q k = gI h' q k) (h2 : ∀ k, gL h q k = gL h' q k) (s : Nat × Nat) : en G h q s = en G h' q s := by
  obtain ⟨t, n⟩ := s
  match t with
  | 0 => show Sum.inl _ = Sum.inl _; rw [show (fun j => gI h q j) = fun j => gI h' q j from funext h1]
  | 1 => show Sum.inl _ = Sum.inl _; rw [show (fun j => gL h q j) = fun j => gL h' q j from funext h2]
  | 2 => rfl
  | c + 3 => exact congrArg (fun l => Sum.inr (c, l)) (flds_other h1 h2 (FTab c) 0)
theorem flds_len {ad : Nat → Nat} {h : Mem} {q : Nat} : ∀ (l : List Nat) (n : Nat), (flds ad h q n l).length = l.length
  | [], _ => rfl
  | _ :: l, n => congrArg (· + 1) (flds_len l (n + 1))
theorem flds_setI {ad : Nat → Nat} {h : Mem} {q : Nat} {v : Int32} {l : List Nat} {k : Nat} (hk : l[k]? = some 0) : (flds ad h q 0 l).set k (.int v) = flds ad (sI h q k v) q 0 l := by
  apply List.ext_getElem?
  intro j
  rw [List.getElem?_set]
  have hkl := (List.getElem?_eq_some_iff.mp hk).1
  by_cases hj : k = j
  · subst hj
    rw [if_pos rfl, if_pos (by rw [flds_len]; exact hkl), flds_get hk, Nat.zero_add]
    show some (Value.int v) = some (Value.int (gI (sI h q k v) q k))
    rw [gI_sI, if_pos ⟨rfl, rfl⟩]
  · rw [if_neg hj]
    cases hl : l[j]? with
    | none =>
      have h1 : l.length ≤ j := List.getElem?_eq_none_iff.mp hl
      rw [List.getElem?_eq_none_iff.mpr (by rw [flds_len]; exact h1), List.getElem?_eq_none_iff.mpr (by rw [flds_len]; exact h1)]
    | some c =>
      rw [flds_get hl, flds_get hl, Nat.zero_add]
      match c with
      | 0 => show some (Value.int _) = some (Value.int _); rw [gI_sI, if_neg (fun z => hj z.2.symm)]
      | 1 => rfl
      | c + 2 => rfl
theorem flds_setL {ad : Nat → Nat} {h : Mem} {q : Nat} {v : Int64} {l : List Nat} {k : Nat} (hk : l[k]? = some 1) : (flds ad h q 0 l).set k (.long v) = flds ad (sL h q k v) q 0 l := by
  apply List.ext_getElem?
  intro j
  rw [List.getElem?_set]
  have hkl := (List.getElem?_eq_some_iff.mp hk).1
  by_cases hj : k = j
  · subst hj
    rw [if_pos rfl, if_pos (by rw [flds_len]; exact hkl), flds_get hk, Nat.zero_add]
    show some (Value.long v) = some (Value.long (gL (sL h q k v) q k))
    rw [gL_sL, if_pos ⟨rfl, rfl⟩]
  · rw [if_neg hj]
    cases hl : l[j]? with
    | none =>
      have h1 : l.length ≤ j := List.getElem?_eq_none_iff.mp hl
      rw [List.getElem?_eq_none_iff.mpr (by rw [flds_len]; exact h1), List.getElem?_eq_none_iff.mpr (by rw [flds_len]; exact h1)]
    | some c =>
      rw [flds_get hl, flds_get hl, Nat.zero_add]
      match c with
      | 0 => rfl
      | 1 => show some (Value.long _) = some (Value.long _); rw [gL_sL, if_neg (fun z => hj z.2.symm)]
      | c + 2 => rfl
theorem sI_oth {G : GG} {h : Mem} {q k : Nat} {v : Int32} (j : Nat) (s' : Nat × Nat) (hj : j ≠ q) : en G h j s' = en G (sI h q k v) j s' :=
  en_other (h := h) (h' := sI h q k v) (fun i => by rw [gI_sI, if_neg (fun z => hj z.1)]) (fun i => rfl) s'
theorem sL_oth {G : GG} {h : Mem} {q k : Nat} {v : Int64} (j : Nat) (s' : Nat × Nat) (hj : j ≠ q) : en G h j s' = en G (sL h q k v) j s' :=
  en_other (h := h) (h' := sL h q k v) (fun i => rfl) (fun i => by rw [gL_sL, if_neg (fun z => hj z.1)]) s'
theorem ws_setI {G : GG} {h : Mem} {q c z k : Nat} {v : Int32} (hq : LAY[q]? = some (c + 3, z)) (hk : (FTab c)[k]? = some 0) : (wsOf G h).set q (G.2.2.1 q, .inr (c, (flds G.2.2.1 h q 0 (FTab c)).set k (.int v))) = wsOf G (sI h q k v) :=
  ws_set hq (by rw [flds_setI hk]; rfl) sI_oth
theorem ws_setL {G : GG} {h : Mem} {q c z k : Nat} {v : Int64} (hq : LAY[q]? = some (c + 3, z)) (hk : (FTab c)[k]? = some 1) : (wsOf G h).set q (G.2.2.1 q, .inr (c, (flds G.2.2.1 h q 0 (FTab c)).set k (.long v))) = wsOf G (sL h q k v) :=
  ws_set hq (by rw [flds_setL hk]; rfl) sL_oth
theorem ws_astI {G : GG} {h : Mem} {q n i : Nat} {v : Int32} (hq : LAY[q]? = some (0, n)) : (wsOf G h).set q (G.2.2.1 q, .inl (G.2.1.1, (n, .inl (upd (fun j => gI h q j) i v)))) = wsOf G (sI h q i v) :=
  ws_set hq (by
    show Sum.inl _ = Sum.inl _
    rw [show (fun j => gI (sI h q i v) q j) = upd (fun j => gI h q j) i v from funext fun j => by
      rw [gI_sI]; unfold upd
      by_cases hj : j = i
      · rw [if_pos ⟨rfl, hj⟩, if_pos hj]
      · rw [if_neg (fun z => hj z.2), if_neg hj]]) sI_oth
theorem ws_astL {G : GG} {h : Mem} {q n i : Nat} {v : Int64} (hq : LAY[q]? = some (1, n)) : (wsOf G h).set q (G.2.2.1 q, .inl (G.2.1.2.1, (n, .inr (.inl (vp_updL (fun j => gL h q j) i v))))) = wsOf G (sL h q i v) :=
  ws_set hq (by
    show Sum.inl _ = Sum.inl _
    rw [show (fun j => gL (sL h q i v) q j) = vp_updL (fun j => gL h q j) i v from funext fun j => by
      rw [gL_sL]; unfold vp_updL
      by_cases hj : j = i
      · rw [if_pos ⟨rfl, hj⟩, if_pos hj]
      · rw [if_neg (fun z => hj z.2), if_neg hj]]) sL_oth
theorem ws_cpI {G : GG} {h : Mem} {a b n i j m : Nat} (hq : LAY[b]? = some (0, n)) : (wsOf G h).set b (G.2.2.1 b, .inl (G.2.1.1, (n, .inl (va_cpy (fun x => gI h a x) (fun x => gI h b x) i j m)))) = wsOf G (cpI h a i b j m) :=
  ws_set hq (by
    show Sum.inl _ = Sum.inl _
    rw [show (fun x => gI (cpI h a i b j m) b x) = va_cpy (fun x => gI h a x) (fun x => gI h b x) i j m from funext fun x => if_pos rfl]) (fun c s' hc => en_other (h := h) (h' := cpI h a i b j m) (fun k => by rw [gI_cpI, if_neg (fun z => hc z.1)]) (fun _ => rfl) s')
theorem inX0 : ∀ w ∈ u_ws RX0 TX0 8, w ∈ TT := by decide +kernel
theorem inX1 : ∀ w ∈ u_ws RX1 TX1 11, w ∈ TT := by decide +kernel
theorem inX2 : ∀ w ∈ u_ws RX2 TX2 10, w ∈ TT := by decide +kernel
theorem inX3 : ∀ w ∈ u_ws RX3 TX3 7, w ∈ TT := by decide +kernel
theorem inX4 : ∀ w ∈ u_ws RX4 TX4 7, w ∈ TT := by decide +kernel
theorem inX5 : ∀ w ∈ u_ws RX5 TX5 4, w ∈ TT := by decide +kernel
theorem inX6 : ∀ w ∈ u_ws RX6 TX6 7, w ∈ TT := by decide +kernel
theorem inX7 : ∀ w ∈ u_ws RX7 TX7 3, w ∈ TT := by decide +kernel
theorem inX8 : ∀ w ∈ u_ws RX8 TX8 5, w ∈ TT := by decide +kernel
theorem inX9 : ∀ w ∈ u_ws RX9 TX9 10, w ∈ TT := by decide +kernel
theorem inX10 : ∀ w ∈ u_ws RX10 TX10 12, w ∈ TT := by decide +kernel
theorem inX11 : ∀ w ∈ u_ws RX11 TX11 44, w ∈ TT := by decide +kernel
theorem wt_X9_hall : ∀ q, LAY[q]? = some (12, 0) → LAY[q + 1]? = some (6, 0) := lay_all (by decide +kernel)
theorem wt_X9_handLaw : ∀ q, LAY[q]? = some (12, 0) → LAY[q + 5]? = some (8, 0) := lay_all (by decide +kernel)
theorem wt_X9_betLaw : ∀ q, LAY[q]? = some (12, 0) → LAY[q + 8]? = some (8, 0) := lay_all (by decide +kernel)
theorem wt_X9_tape : ∀ q, LAY[q]? = some (12, 0) → LAY[q + 11]? = some (0, 50) := lay_all (by decide +kernel)
theorem wt_X9_waits : ∀ q, LAY[q]? = some (12, 0) → LAY[q + 12]? = some (0, 20) := lay_all (by decide +kernel)
theorem wt_X3_kinds : ∀ q, LAY[q]? = some (6, 0) → LAY[q + 1]? = some (0, 25) := lay_all (by decide +kernel)
theorem wt_X3_numbers : ∀ q, LAY[q]? = some (6, 0) → LAY[q + 2]? = some (0, 25) := lay_all (by decide +kernel)
theorem wt_X3_lit : ∀ q, LAY[q]? = some (6, 0) → LAY[q + 3]? = some (0, 25) := lay_all (by decide +kernel)
theorem wt_X5_code : ∀ q, LAY[q]? = some (8, 0) → LAY[q + 1]? = some (0, 50) := lay_all (by decide +kernel)
theorem wt_X5_stack : ∀ q, LAY[q]? = some (8, 0) → LAY[q + 2]? = some (0, 50) := lay_all (by decide +kernel)
theorem wt_X7_numbers : ∀ q, LAY[q]? = some (10, 0) → LAY[q + 1]? = some (0, 40) := lay_all (by decide +kernel)
/-! the world -/
def tabA : Nat → Int32 := fun j => ([-1, 0, 0, 0, 1, 1, 2] : List Int).map iI |>.getD j 0
def tabN : Nat → Int32 := fun j => ([114, 99, 109, 105, 111, 116] : List Int).map iI |>.getD j 0
def tabB : Nat → Int32 := fun j => ([10, 11, 12, 13, 0, 20, 0, 0, 30, 0, 0, 0, 0, 0, 40, 0, 0, 50, 0, 0, 0, 0, 0, 60, 0, 0, 70, 71] : List Int).map iI |>.getD j 0
def WA (G : GG) : Nat → Prop := fun q => ∃ k, k < 89 ∧ q = G.2.2.1 k
def KK (G : GG) (U : State) : Prop := va_K G.1 vwCl [(G.2.1.1, .int), (G.2.1.2.1, .long), (G.2.1.2.2, .object "TurnedBeam$Sheet")] U
def Stat (G : GG) (U : State) (H : Heap) : Prop :=
  (va_Z "TurnedBeam$Hall" "ABOVE" "[I" (.ref G.2.2.2.1) (WA G) U H ∧ va_T .int G.2.2.2.1 7 (fun j => .int (tabA j)) (WA G) U H) ∧
  (va_Z "TurnedBeam$Reader" "NAMES" "[C" (.ref G.2.2.2.2.1) (WA G) U H ∧ va_T .char G.2.2.2.2.1 6 (fun j => .int (tabN j)) (WA G) U H) ∧
  (va_Z "TurnedBeam$Voice" "BODIES" "[I" (.ref G.2.2.2.2.2) (WA G) U H ∧ va_T .int G.2.2.2.2.2 28 (fun j => .int (tabB j)) (WA G) U H)
theorem Stat.moved {G : GG} {u U : State} {H : Heap} (hvm : u.vm.Alike U.vm) (h : Stat G u H) : Stat G U H :=
  ⟨⟨h.1.1.moved hvm, h.1.2.moved hvm⟩, ⟨h.2.1.1.moved hvm, h.2.1.2.moved hvm⟩, ⟨h.2.2.1.moved hvm, h.2.2.2.moved hvm⟩⟩
theorem Stat.kept {G : GG} {U : State} {H H1 : Heap} (h : Stat G U H) (hq : ∀ a : Nat, a < H.size → ¬ WA G a → H1[a]? = H[a]?) : Stat G U H1 :=
  ⟨⟨h.1.1.kept hq, h.1.2.kept hq⟩, ⟨h.2.1.1.kept hq, h.2.1.2.kept hq⟩, ⟨h.2.2.1.kept hq, h.2.2.2.kept hq⟩⟩
/-- the heap H, as it stands in the midst of a method that began at s, holds the memory h -/
def IW (G : GG) (s : State) (h : Mem) (H : Heap) (locs : List Loc) : Prop := va_P G.1 vwCl (wsOf G h) H ∧ va_D (WA G) (wsOf G h) ∧ va_S (WA G) s.heap H locs
def Wd (G : GG) (h : Mem) (U : State) : Prop := va_P G.1 vwCl (wsOf G h) U.heap ∧ va_D (WA G) (wsOf G h) ∧ KK G U ∧ Stat G U U.heap ∧ Nest U
def rmd (d : Nat) : Room := { frames := d, cells := 0, slots := 0, locals := 64 * d }
def Qz (G : GG) (h' : Mem) (r : Option Value) : Array Value → State → Outcome → State → Prop := fun _ st o t => o = .returned r ∧ Wd G h' t ∧ va_F (WA G) st t
/-- THE CONTRACT of a method: with arguments av in a memory h it returns r, and leaves the memory h' -/
def Sat (l : Launch) (G : GG) (y : MethodName) (cc : ByteArray) (n : Nat) (ret : Option FieldType) (d : Nat) (av : List Value) (h : Mem) (r : Option Value) (h' : Mem) : Prop :=
  Met l y (.code y cc n ret :: TT) (rmd d) (va_Pc av (Wd G h)) (Qz G h' r) 0 0 (WA G)
section RETS
variable (p : Program) (l : Launch) (e : Env) (R : Room) (s : State) (m : MethodId) (args : Array Value) (below : List Frame) (meth : Method) (c : Code) (cc : ByteArray) (G : GG) (h' : Mem) (Q : State → Prop)
def RetI (v : Int32) : Prop := ∀ (pc : Nat) (ls : Array Slot) (H : Heap) (locs : List Loc), decode cc pc = .ok (.ireturn, 1) → IW G s h' H locs → W p l e R s m args below meth c H locs 0 0 Q (F0 m pc ls [.int v])
def RetZ (v : Int32) : Prop := (v = 0 ∨ v = 1) → RetI p l e R s m args below meth c cc G h' Q v
def RetL (v : Int64) : Prop := ∀ (pc : Nat) (ls : Array Slot) (H : Heap) (locs : List Loc), decode cc pc = .ok (.lreturn, 1) → IW G s h' H locs → W p l e R s m args below meth c H locs 0 0 Q (F0 m pc ls [.long v])
def RetV : Prop := ∀ (pc : Nat) (ls : Array Slot) (H : Heap) (locs : List Loc), decode cc pc = .ok (.return_, 1) → IW G s h' H locs → W p l e R s m args below meth c H locs 0 0 Q (F0 m pc ls [])
def RetA (v : Nat) : Prop := ∀ (pc : Nat) (ls : Array Slot) (H : Heap) (locs : List Loc), decode cc pc = .ok (.areturn, 1) → IW G s h' H locs → W p l e R s m args below meth c H locs 0 0 Q (F0 m pc ls [.ref v])
end RETS
/-- what a method's walk has at hand -/
def FX (G : GG) (own : String) (cc : ByteArray) (n d : Nat) (p : Program) (R : Room) (s : State) (m : MethodId) (args : Array Value) (c : Code) : Prop :=
  p.tables.exec = Jvm.exec ∧ c.code = cc ∧ c.maxLocals = n ∧ s.vm.findClass own = some m.cls ∧ (∀ w ∈ TT, w.before args s = true) ∧ KK G s ∧ Stat G s s.heap ∧ Nest s ∧ R = rmd d
theorem IW.Wd {G : GG} {s t : State} {h : Mem} {H : Heap} {locs : List Loc} (hw : IW G s h H locs) (hK : KK G s) (hSt : Stat G s s.heap) (hN : Nest s) (ht : t.heap = H) (hW : s.WarmedH t.vm) : Wd G h t :=
  ⟨by rw [ht]; exact hw.1, hw.2.1, va_K.moved hW.alike hK, (by rw [ht]; exact (hSt.kept hw.2.2.2.1).moved hW.alike), hN.warm hW⟩
section MK
variable {l : Launch} {G : GG} {y : MethodName} {cc : ByteArray} {n d : Nat} {av : List Value} {h h' : Mem}
theorem Sat.mk {ret : Option FieldType} {r : Option Value} (hy : plainName y.cls = true) (hn : (lg_sl av).length ≤ n)
    (body : ∀ p e s m args below meth c, FX G y.cls cc n d p (rmd d) s m args c → meth.sig.returnType = ret → meth.locks = false → IW G s h s.heap [] → ∀ ls : Array Slot, lv_has ls n (lv_args 0 av) →
      W p l e (rmd d) s m args below meth c s.heap [] 0 0 (MQ below (Qz G h' r) args s 0 0 (WA G)) (F0 m 0 ls [])) : Sat l G y cc n ret d av h r h' := by
  refine Met.ofW (cc := cc) (maxL := n) (ret := ret) hy rfl ?_
  intro p e s m args below meth c s₁ B hml hv
  obtain ⟨rfl, hP, hD, hK, hSt, hN⟩ := hv
  rw [lg_entry_eq]
  exact body p e s m _ below meth c ⟨B.exec, B.bytes, hml, findClass_of_methodNamed B.named, fun w hw => atoms_spec (ws := .code y cc n ret :: TT) B.pre w (List.mem_cons_of_mem _ hw), hK, hSt, hN, rfl⟩ B.returns B.notSynchronized ⟨hP, hD, va_S.rf⟩ _ (lv_entry av hn)
theorem Sat.mkI {v : Int32} (hy : plainName y.cls = true) (hn : (lg_sl av).length ≤ n)
    (body : ∀ p e R s m args below meth c Q, FX G y.cls cc n d p R s m args c → RetI p l e R s m args below meth c cc G h' Q v → IW G s h s.heap [] → ∀ ls : Array Slot, lv_has ls n (lv_args 0 av) → W p l e R s m args below meth c s.heap [] 0 0 Q (F0 m 0 ls [])) : Sat l G y cc n (some .int) d av h (some (.int v)) h' :=
  Sat.mk hy hn fun p e s m args below meth c F hr hlk hw ls hl => body p e _ s m args below meth c _ F (fun pc ls H locs hd hw => W.iret F.1 F.2.1 hr (fun t ht hW => ⟨rfl, hw.Wd F.2.2.2.2.2.1 F.2.2.2.2.2.2.1 F.2.2.2.2.2.2.2.1 ht hW, hw.2.2.F ht⟩) hw.2.2.2.2 hd) hw ls hl
theorem Sat.mkZ {v : Int32} (hy : plainName y.cls = true) (hn : (lg_sl av).length ≤ n)
    (body : ∀ p e R s m args below meth c Q, FX G y.cls cc n d p R s m args c → RetZ p l e R s m args below meth c cc G h' Q v → IW G s h s.heap [] → ∀ ls : Array Slot, lv_has ls n (lv_args 0 av) → W p l e R s m args below meth c s.heap [] 0 0 Q (F0 m 0 ls [])) : Sat l G y cc n (some .boolean) d av h (some (.int v)) h' :=
  Sat.mk hy hn fun p e s m args below meth c F hr hlk hw ls hl => body p e _ s m args below meth c _ F (fun hv pc ls H locs hd hw => W.zret F.1 F.2.1 hr (by rcases hv with rfl | rfl <;> rfl) (fun t ht hW => ⟨rfl, hw.Wd F.2.2.2.2.2.1 F.2.2.2.2.2.2.1 F.2.2.2.2.2.2.2.1 ht hW, hw.2.2.F ht⟩) hw.2.2.2.2 hd) hw ls hl
theorem Sat.mkL {v : Int64} (hy : plainName y.cls = true) (hn : (lg_sl av).length ≤ n)
    (body : ∀ p e R s m args below meth c Q, FX G y.cls cc n d p R s m args c → RetL p l e R s m args below meth c cc G h' Q v → IW G s h s.heap [] → ∀ ls : Array Slot, lv_has ls n (lv_args 0 av) → W p l e R s m args below meth c s.heap [] 0 0 Q (F0 m 0 ls [])) : Sat l G y cc n (some .long) d av h (some (.long v)) h' :=
  Sat.mk hy hn fun p e s m args below meth c F hr hlk hw ls hl => body p e _ s m args below meth c _ F (fun pc ls H locs hd hw => W.lret F.1 F.2.1 hr (fun t ht hW => ⟨rfl, hw.Wd F.2.2.2.2.2.1 F.2.2.2.2.2.2.1 F.2.2.2.2.2.2.2.1 ht hW, hw.2.2.F ht⟩) hw.2.2.2.2 hd) hw ls hl
theorem Sat.mkV (hy : plainName y.cls = true) (hn : (lg_sl av).length ≤ n)
    (body : ∀ p e R s m args below meth c Q, FX G y.cls cc n d p R s m args c → RetV p l e R s m args below meth c cc G h' Q → IW G s h s.heap [] → ∀ ls : Array Slot, lv_has ls n (lv_args 0 av) → W p l e R s m args below meth c s.heap [] 0 0 Q (F0 m 0 ls [])) : Sat l G y cc n none d av h none h' :=
  Sat.mk hy hn fun p e s m args below meth c F hr hlk hw ls hl => body p e _ s m args below meth c _ F (fun pc ls H locs hd hw => W.vret F.1 F.2.1 hr (fun t ht hW => ⟨rfl, hw.Wd F.2.2.2.2.2.1 F.2.2.2.2.2.2.1 F.2.2.2.2.2.2.2.1 ht hW, hw.2.2.F ht⟩) hw.2.2.2.2 hd) hw ls hl
theorem Sat.mkA {v : Nat} {C : String} (hy : plainName y.cls = true) (hn : (lg_sl av).length ≤ n)
    (body : ∀ p e R s m args below meth c Q, FX G y.cls cc n d p R s m args c → RetA p l e R s m args below meth c cc G h' Q v → IW G s h s.heap [] → ∀ ls : Array Slot, lv_has ls n (lv_args 0 av) → W p l e R s m args below meth c s.heap [] 0 0 Q (F0 m 0 ls [])) : Sat l G y cc n (some (.object C)) d av h (some (.ref v)) h' :=
  Sat.mk hy hn fun p e s m args below meth c F hr hlk hw ls hl => body p e _ s m args below meth c _ F (fun pc ls H locs hd hw => W.aret F.1 F.2.1 hr (Or.inl ⟨_, rfl⟩) (Or.inr ⟨_, rfl⟩) (fun t ht hW => ⟨rfl, hw.Wd F.2.2.2.2.2.1 F.2.2.2.2.2.2.1 F.2.2.2.2.2.2.2.1 ht hW, hw.2.2.F ht⟩) hw.2.2.2.2 hd) hw ls hl
end MK
section ENDS
variable {p : Program} {l : Launch} {e : Env} {R : Room} {s : State} {m : MethodId} {args : Array Value} {below : List Frame} {meth : Method} {c : Code} {cc : ByteArray} {G : GG} {h h' h1 : Mem} {Q : State → Prop} {pc : Nat} {ls : Array Slot} {H : Heap} {locs : List Loc}
theorem q_iretW {v x : Int32} (hret : RetI p l e R s m args below meth c cc G h' Q v) (hd : decode cc pc = .ok (.ireturn, 1)) (hw : IW G s h1 H locs) (hs : some (x, h1) = some (v, h')) : W p l e R s m args below meth c H locs 0 0 Q (F0 m pc ls [.int x]) := by
  cases hs; exact hret pc ls H locs hd hw
theorem q_iret {v x : Int32} (hret : RetI p l e R s m args below meth c cc G h Q v) (hd : decode cc pc = .ok (.ireturn, 1)) (hw : IW G s h H locs) (hs : some x = some v) : W p l e R s m args below meth c H locs 0 0 Q (F0 m pc ls [.int x]) := by
  cases hs; exact hret pc ls H locs hd hw
theorem q_zretW {v x : Int32} (hret : RetZ p l e R s m args below meth c cc G h' Q v) (hd : decode cc pc = .ok (.ireturn, 1)) (hw : IW G s h1 H locs) (hs : rZ x (some (x, h1)) = some (v, h')) : W p l e R s m args below meth c H locs 0 0 Q (F0 m pc ls [.int x]) := by
  obtain ⟨h1, hs⟩ := q_rZ hs
  cases hs; exact hret h1 pc ls H locs hd hw
theorem q_zret {v x : Int32} (hret : RetZ p l e R s m args below meth c cc G h Q v) (hd : decode cc pc = .ok (.ireturn, 1)) (hw : IW G s h H locs) (hs : rZ x (some x) = some v) : W p l e R s m args below meth c H locs 0 0 Q (F0 m pc ls [.int x]) := by
  obtain ⟨h1, hs⟩ := q_rZ hs
  cases hs; exact hret h1 pc ls H locs hd hw
theorem q_lretW {v x : Int64} (hret : RetL p l e R s m args below meth c cc G h' Q v) (hd : decode cc pc = .ok (.lreturn, 1)) (hw : IW G s h1 H locs) (hs : some (x, h1) = some (v, h')) : W p l e R s m args below meth c H locs 0 0 Q (F0 m pc ls [.long x]) := by
  cases hs; exact hret pc ls H locs hd hw
theorem q_lret {v x : Int64} (hret : RetL p l e R s m args below meth c cc G h Q v) (hd : decode cc pc = .ok (.lreturn, 1)) (hw : IW G s h H locs) (hs : some x = some v) : W p l e R s m args below meth c H locs 0 0 Q (F0 m pc ls [.long x]) := by
  cases hs; exact hret pc ls H locs hd hw
theorem q_vret (hret : RetV p l e R s m args below meth c cc G h' Q) (hd : decode cc pc = .ok (.return_, 1)) (hw : IW G s h1 H locs) (hs : some h1 = some h') : W p l e R s m args below meth c H locs 0 0 Q (F0 m pc ls []) := by
  cases hs; exact hret pc ls H locs hd hw
theorem q_aret {v x : Nat} (hret : RetA p l e R s m args below meth c cc G h Q (G.2.2.1 v)) (hd : decode cc pc = .ok (.areturn, 1)) (hw : IW G s h H locs) (hs : some x = some v) : W p l e R s m args below meth c H locs 0 0 Q (F0 m pc ls [.ref (G.2.2.1 x)]) := by
  cases hs; exact hret pc ls H locs hd hw
end ENDS
