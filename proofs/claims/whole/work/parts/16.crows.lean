/-! worlds in the making: the first len cells stand, at the addresses B, B + 1, ..; of the references those that 'a' tells are set -/
abbrev Asg : Type := Nat → Nat → Bool
def sA (a : Asg) (q k : Nat) : Asg := fun b j => if b = q ∧ j = k then true else a b j
theorem sA_self {a : Asg} {q k : Nat} : sA a q k q k = true := if_pos ⟨rfl, rfl⟩
theorem sA_ne {a : Asg} {q k b j : Nat} (h : ¬ (b = q ∧ j = k)) : sA a q k b j = a b j := if_neg h
def fvP (ad : Nat → Nat) (h : Mem) (a : Asg) (q k : Nat) : Nat → Value
  | 0 => .int (gI h q k)
  | 1 => .long (gL h q k)
  | n + 2 => if a q k = true then .ref (ad (q + n)) else .null
def fldsP (ad : Nat → Nat) (h : Mem) (a : Asg) (q : Nat) : Nat → List Nat → List Value
  | _, [] => []
  | k, c :: cs => fvP ad h a q k c :: fldsP ad h a q (k + 1) cs
def shP (ad : Nat → Nat) (a : Asg) (q : Nat) : Nat → Option Nat := fun j => if a q j = true then some (ad (64 + 2 * j)) else none
def enP (G : GG) (h : Mem) (a : Asg) (q : Nat) (s : Nat × Nat) : va_E := match s.1 with
  | 0 => .inl (G.2.1.1, (s.2, .inl (fun j => gI h q j)))
  | 1 => .inl (G.2.1.2.1, (s.2, .inr (.inl (fun j => gL h q j))))
  | 2 => .inl (G.2.1.2.2, (s.2, .inr (.inr (.inr (.inr (shP G.2.2.1 a q))))))
  | c + 3 => .inr (c, fldsP G.2.2.1 h a q 0 (FTab c))
def wsPA (G : GG) (h : Mem) (a : Asg) : Nat → List (Nat × Nat) → va_W
  | _, [] => []
  | q, s :: l => (G.2.2.1 q, enP G h a q s) :: wsPA G h a (q + 1) l
def wsP (G : GG) (h : Mem) (a : Asg) (len : Nat) : va_W := wsPA G h a 0 (LAY.take len)
theorem wsPA_get (G : GG) (h : Mem) (a : Asg) (l : List (Nat × Nat)) : ∀ (n k : Nat), (wsPA G h a n l)[k]? = (l[k]?).map (fun s => (G.2.2.1 (n + k), enP G h a (n + k) s)) := by
  induction l with
  | nil => intro n k; rfl
  | cons s l ih =>
    intro n k
    cases k with
    | zero => rfl
    | succ k =>
      show (wsPA G h a (n + 1) l)[k]? = (l[k]?).map _
      rw [ih (n + 1) k, show n + 1 + k = n + (k + 1) by omega]
theorem wsP_at (G : GG) (h : Mem) (a : Asg) (len j : Nat) : (wsP G h a len)[j]? = if j < len then (LAY[j]?).map (fun s => (G.2.2.1 j, enP G h a j s)) else none := by
  unfold wsP
  rw [wsPA_get, Nat.zero_add, List.getElem?_take]
  by_cases hj : j < len
  · rw [if_pos hj, if_pos hj]
  · rw [if_neg hj, if_neg hj]; rfl
theorem wsP_get {G : GG} {h : Mem} {a : Asg} {len q : Nat} {s : Nat × Nat} (hq : LAY[q]? = some s) (hl : q < len) : (wsP G h a len)[q]? = some (G.2.2.1 q, enP G h a q s) := by
  rw [wsP_at, if_pos hl, hq]; rfl
theorem wsP_set {G : GG} {h h' : Mem} {a a' : Asg} {len q : Nat} {s : Nat × Nat} {e : va_E} (hq : LAY[q]? = some s) (hl : q < len) (he : e = enP G h' a' q s) (ho : ∀ (j : Nat) (s' : Nat × Nat), j ≠ q → enP G h a j s' = enP G h' a' j s') : (wsP G h a len).set q (G.2.2.1 q, e) = wsP G h' a' len := by
  apply List.ext_getElem?
  intro j
  rw [List.getElem?_set]
  by_cases hj : q = j
  · subst hj
    have h1 : q < (wsP G h a len).length := (List.getElem?_eq_some_iff.mp (wsP_get (G := G) (h := h) (a := a) hq hl)).1
    rw [if_pos rfl, if_pos h1, wsP_at, if_pos hl, hq, he]
    rfl
  · rw [if_neg hj, wsP_at, wsP_at]
    by_cases hjl : j < len
    · rw [if_pos hjl, if_pos hjl]
      cases LAY[j]? with
      | none => rfl
      | some s' => exact congrArg (fun x => some (G.2.2.1 j, x)) (ho j s' (fun z => hj z.symm))
    · rw [if_neg hjl, if_neg hjl]
theorem wsP_push {G : GG} {h : Mem} {a : Asg} {len : Nat} {s : Nat × Nat} (hq : LAY[len]? = some s) : wsP G h a (len + 1) = wsP G h a len ++ [(G.2.2.1 len, enP G h a len s)] := by
  have hlen : (wsP G h a len).length = len := by
    have h1 := (List.getElem?_eq_some_iff.mp hq).1
    have h2 : (wsP G h a len)[len]? = none := by rw [wsP_at, if_neg (Nat.lt_irrefl _)]
    have h3 := List.getElem?_eq_none_iff.mp h2
    by_cases h4 : (wsP G h a len).length = len
    · exact h4
    · have h5 : (wsP G h a len).length < len := by omega
      have h6 : (wsP G h a len)[(wsP G h a len).length]? = none := List.getElem?_eq_none_iff.mpr (Nat.le_refl _)
      rw [wsP_at, if_pos h5] at h6
      have h7 : (wsP G h a len).length < LAY.length := by omega
      rw [List.getElem?_eq_getElem h7] at h6
      cases h6
  apply List.ext_getElem?
  intro j
  rw [List.getElem?_append, hlen]
  by_cases hj : j < len
  · rw [if_pos hj, wsP_at, wsP_at, if_pos hj, if_pos (by omega)]
  · rw [if_neg hj, wsP_at]
    by_cases hj2 : j = len
    · subst hj2
      rw [if_pos (by omega), hq, Nat.sub_self]; rfl
    · rw [if_neg (by omega), List.getElem?_eq_none_iff.mpr (by show 1 ≤ j - len; omega)]
theorem fldsP_get {ad : Nat → Nat} {h : Mem} {a : Asg} {q : Nat} : ∀ {l : List Nat} {n k c : Nat}, l[k]? = some c → (fldsP ad h a q n l)[k]? = some (fvP ad h a q (n + k) c)
  | [], n, k, c, hk => by cases hk
  | x :: l, n, 0, c, hk => by cases hk; rfl
  | x :: l, n, k + 1, c, hk => by
    show (fldsP ad h a q (n + 1) l)[k]? = _
    rw [fldsP_get (l := l) hk, show n + 1 + k = n + (k + 1) by omega]
theorem fldsP_len {ad : Nat → Nat} {h : Mem} {a : Asg} {q : Nat} : ∀ (l : List Nat) (n : Nat), (fldsP ad h a q n l).length = l.length
  | [], _ => rfl
  | _ :: l, n => congrArg (· + 1) (fldsP_len l (n + 1))
theorem fldsP_set {ad : Nat → Nat} {h h' : Mem} {a a' : Asg} {q k c : Nat} {v : Value} {l : List Nat} (hk : l[k]? = some c) (hv : fvP ad h' a' q k c = v) (ho : ∀ j d, j ≠ k → fvP ad h a q j d = fvP ad h' a' q j d) : (fldsP ad h a q 0 l).set k v = fldsP ad h' a' q 0 l := by
  apply List.ext_getElem?
  intro j
  rw [List.getElem?_set]
  have hkl := (List.getElem?_eq_some_iff.mp hk).1
  by_cases hj : k = j
  · subst hj
    rw [if_pos rfl, if_pos (by rw [fldsP_len]; exact hkl), fldsP_get hk, Nat.zero_add, hv]
  · rw [if_neg hj]
    cases hl : l[j]? with
    | none =>
      have h1 : l.length ≤ j := List.getElem?_eq_none_iff.mp hl
      rw [List.getElem?_eq_none_iff.mpr (by rw [fldsP_len]; exact h1), List.getElem?_eq_none_iff.mpr (by rw [fldsP_len]; exact h1)]
    | some d =>
      rw [fldsP_get hl, fldsP_get hl, Nat.zero_add, ho j d (fun z => hj z.symm)]
theorem fldsP_other {ad : Nat → Nat} {h h' : Mem} {a a' : Asg} {q : Nat} (ho : ∀ j d, fvP ad h a q j d = fvP ad h' a' q j d) : ∀ (l : List Nat) (n : Nat), fldsP ad h a q n l = fldsP ad h' a' q n l
  | [], n => rfl
  | c :: l, n => by
    show fvP ad h a q n c :: fldsP ad h a q (n + 1) l = fvP ad h' a' q n c :: fldsP ad h' a' q (n + 1) l
    rw [fldsP_other ho l (n + 1), ho]
theorem enP_other {G : GG} {h h' : Mem} {a a' : Asg} {q : Nat} (h1 : ∀ k, gI h q k = gI h' q k) (h2 : ∀ k, gL h q k = gL h' q k) (h3 : ∀ k, a q k = a' q k) (s : Nat × Nat) : enP G h a q s = enP G h' a' q s := by
  obtain ⟨t, n⟩ := s
  match t with
  | 0 => show Sum.inl _ = Sum.inl _; rw [show (fun j => gI h q j) = fun j => gI h' q j from funext h1]
  | 1 => show Sum.inl _ = Sum.inl _; rw [show (fun j => gL h q j) = fun j => gL h' q j from funext h2]
  | 2 => show Sum.inl _ = Sum.inl _; rw [show shP G.2.2.1 a q = shP G.2.2.1 a' q from funext fun j => by unfold shP; rw [h3]]
  | c + 3 =>
    refine congrArg (fun l => Sum.inr (c, l)) (fldsP_other (fun j d => ?_) (FTab c) 0)
    match d with
    | 0 => exact congrArg Value.int (h1 j)
    | 1 => exact congrArg Value.long (h2 j)
    | d + 2 => show (if a q j = true then _ else _) = _; rw [h3]; rfl
theorem cI_oth {G : GG} {h : Mem} {a : Asg} {q k : Nat} {v : Int32} (j : Nat) (s' : Nat × Nat) (hj : j ≠ q) : enP G h a j s' = enP G (sI h q k v) a j s' :=
  enP_other (h := h) (h' := sI h q k v) (fun i => by rw [gI_sI, if_neg (fun z => hj z.1)]) (fun i => rfl) (fun _ => rfl) s'
theorem cL_oth {G : GG} {h : Mem} {a : Asg} {q k : Nat} {v : Int64} (j : Nat) (s' : Nat × Nat) (hj : j ≠ q) : enP G h a j s' = enP G (sL h q k v) a j s' :=
  enP_other (h := h) (h' := sL h q k v) (fun i => rfl) (fun i => by rw [gL_sL, if_neg (fun z => hj z.1)]) (fun _ => rfl) s'
theorem cA_oth {G : GG} {h : Mem} {a : Asg} {q k : Nat} (j : Nat) (s' : Nat × Nat) (hj : j ≠ q) : enP G h a j s' = enP G h (sA a q k) j s' :=
  enP_other (a := a) (a' := sA a q k) (fun i => rfl) (fun i => rfl) (fun i => by unfold sA; rw [if_neg (fun z => hj z.1)]) s'
theorem wsP_setI {G : GG} {h : Mem} {a : Asg} {len q c z k : Nat} {v : Int32} (hq : LAY[q]? = some (c + 3, z)) (hl : q < len) (hk : (FTab c)[k]? = some 0) : (wsP G h a len).set q (G.2.2.1 q, .inr (c, (fldsP G.2.2.1 h a q 0 (FTab c)).set k (.int v))) = wsP G (sI h q k v) a len := by
  refine wsP_set hq hl ?_ cI_oth
  show Sum.inr _ = Sum.inr _
  rw [fldsP_set (h' := sI h q k v) (a' := a) hk (by show Value.int _ = _; rw [gI_sI, if_pos ⟨rfl, rfl⟩]) (fun j d hj => ?_)]
  match d with
  | 0 => show Value.int _ = Value.int _; rw [gI_sI, if_neg (fun z => hj z.2)]
  | 1 => rfl
  | d + 2 => rfl
theorem wsP_setL {G : GG} {h : Mem} {a : Asg} {len q c z k : Nat} {v : Int64} (hq : LAY[q]? = some (c + 3, z)) (hl : q < len) (hk : (FTab c)[k]? = some 1) : (wsP G h a len).set q (G.2.2.1 q, .inr (c, (fldsP G.2.2.1 h a q 0 (FTab c)).set k (.long v))) = wsP G (sL h q k v) a len := by
  refine wsP_set hq hl ?_ cL_oth
  show Sum.inr _ = Sum.inr _
  rw [fldsP_set (h' := sL h q k v) (a' := a) hk (by show Value.long _ = _; rw [gL_sL, if_pos ⟨rfl, rfl⟩]) (fun j d hj => ?_)]
  match d with
  | 0 => rfl
  | 1 => show Value.long _ = Value.long _; rw [gL_sL, if_neg (fun z => hj z.2)]
  | d + 2 => rfl
theorem wsP_setR {G : GG} {h : Mem} {a : Asg} {len q c z k n : Nat} (hq : LAY[q]? = some (c + 3, z)) (hl : q < len) (hk : (FTab c)[k]? = some (n + 2)) : (wsP G h a len).set q (G.2.2.1 q, .inr (c, (fldsP G.2.2.1 h a q 0 (FTab c)).set k (.ref (G.2.2.1 (q + n))))) = wsP G h (sA a q k) len := by
  refine wsP_set hq hl ?_ cA_oth
  show Sum.inr _ = Sum.inr _
  rw [fldsP_set (h' := h) (a' := sA a q k) hk (by show (if sA a q k q k = true then Value.ref (G.2.2.1 (q + n)) else Value.null) = _; rw [sA_self]; rfl) (fun j d hj => ?_)]
  match d with
  | 0 => rfl
  | 1 => rfl
  | d + 2 => show (if a q j = true then Value.ref (G.2.2.1 (q + d)) else Value.null) = (if sA a q k q j = true then Value.ref (G.2.2.1 (q + d)) else Value.null); rw [sA_ne (fun z => hj z.2)]
theorem wsP_astI {G : GG} {h : Mem} {a : Asg} {len q n i : Nat} {v : Int32} (hq : LAY[q]? = some (0, n)) (hl : q < len) : (wsP G h a len).set q (G.2.2.1 q, .inl (G.2.1.1, (n, .inl (upd (fun j => gI h q j) i v)))) = wsP G (sI h q i v) a len :=
  wsP_set hq hl (by
    show Sum.inl _ = Sum.inl _
    rw [show (fun j => gI (sI h q i v) q j) = upd (fun j => gI h q j) i v from funext fun j => by
      rw [gI_sI]; unfold upd
      by_cases hj : j = i
      · rw [if_pos ⟨rfl, hj⟩, if_pos hj]
      · rw [if_neg (fun z => hj z.2), if_neg hj]]) cI_oth
theorem wsP_astA {G : GG} {h : Mem} {a : Asg} {len q n i : Nat} (hq : LAY[q]? = some (2, n)) (hl : q < len) : (wsP G h a len).set q (G.2.2.1 q, .inl (G.2.1.2.2, (n, .inr (.inr (.inr (.inr (va_up (shP G.2.2.1 a q) i (some (G.2.2.1 (64 + 2 * i)))))))))) = wsP G h (sA a q i) len :=
  wsP_set hq hl (by
    show Sum.inl _ = Sum.inl _
    rw [show shP G.2.2.1 (sA a q i) q = va_up (shP G.2.2.1 a q) i (some (G.2.2.1 (64 + 2 * i))) from funext fun j => by
      unfold shP va_up
      by_cases hj : j = i
      · subst hj; rw [sA_self, if_pos rfl, if_pos rfl]
      · rw [sA_ne (fun z => hj z.2), if_neg hj]]) cA_oth
def Zr (h : Mem) (a : Asg) (len : Nat) : Prop := ∀ q, len ≤ q → ∀ k, gI h q k = 0 ∧ gL h q k = 0 ∧ a q k = false
theorem Zr.sI {h : Mem} {a : Asg} {len q k : Nat} {v : Int32} (hz : Zr h a len) (hl : q < len) : Zr (sI h q k v) a len := fun b hb j => by
  rw [gI_sI, gL_sI, if_neg (fun z => by omega)]; exact hz b hb j
theorem Zr.sL {h : Mem} {a : Asg} {len q k : Nat} {v : Int64} (hz : Zr h a len) (hl : q < len) : Zr (sL h q k v) a len := fun b hb j => by
  rw [gI_sL, gL_sL, if_neg (fun z => by omega)]; exact hz b hb j
theorem Zr.sA {h : Mem} {a : Asg} {len q k : Nat} (hz : Zr h a len) (hl : q < len) : Zr h (sA a q k) len := fun b hb j => by
  refine ⟨(hz b hb j).1, (hz b hb j).2.1, ?_⟩
  show (if b = q ∧ j = k then true else a b j) = false
  rw [if_neg (fun z => by omega)]; exact (hz b hb j).2.2
theorem Zr.up {h : Mem} {a : Asg} {len : Nat} (hz : Zr h a len) : Zr h a (len + 1) := fun b hb j => hz b (by omega) j
def dfl : Nat → Value
  | 0 => .int 0
  | 1 => .long 0
  | _ + 2 => .null
theorem fldsP_dfl {ad : Nat → Nat} {h : Mem} {a : Asg} {len : Nat} (hz : Zr h a len) : ∀ (l : List Nat) (n : Nat), fldsP ad h a len n l = l.map dfl
  | [], _ => rfl
  | c :: l, n => by
    show fvP ad h a len n c :: fldsP ad h a len (n + 1) l = dfl c :: l.map dfl
    rw [fldsP_dfl hz l (n + 1)]
    obtain ⟨h1, h2, h3⟩ := hz len (Nat.le_refl _) n
    congr 1
    match c with
    | 0 => exact congrArg Value.int h1
    | 1 => exact congrArg Value.long h2
    | c + 2 => show (if a len n = true then _ else _) = _; rw [h3]; rfl
def NestA (U : State) : Prop := Nest U ∧ va_AO "TurnedBeam$Sheet" U
theorem NestA.warm {s U : State} (hW : s.WarmedH U.vm) (h : NestA s) : NestA U := ⟨h.1.warm hW, va_AO.moved hW.alike h.2⟩
/-- the heap H, as it stands in the midst of a constructor that began at s -/
def CI (G : GG) (B : Nat) (s : State) (h : Mem) (a : Asg) (len : Nat) (H : Heap) (locs : List Loc) : Prop :=
  va_P G.1 vwCl (wsP G h a len) H ∧ va_D (fun x : Nat => B ≤ x) (wsP G h a len) ∧ va_S (fun x : Nat => B ≤ x) s.heap H locs ∧ H.size = B + len ∧ Zr h a len
def CWd (G : GG) (B : Nat) (h : Mem) (a : Asg) (len : Nat) (U : State) : Prop :=
  va_P G.1 vwCl (wsP G h a len) U.heap ∧ va_D (fun x : Nat => B ≤ x) (wsP G h a len) ∧ KK G U ∧ NestA U ∧ U.heap.size = B + len ∧ Zr h a len
def rmc (d mc ms : Nat) : Room := { frames := d, cells := mc, slots := ms, locals := 64 * d }
def Qzc (G : GG) (B : Nat) (h' : Mem) (a' : Asg) (len' : Nat) : Array Value → State → Outcome → State → Prop := fun _ st o t => o = .returned none ∧ CWd G B h' a' len' t ∧ va_F (fun x : Nat => B ≤ x) st t
/-- THE CONTRACT of a constructor -/
def SatC (l : Launch) (G : GG) (B : Nat) (y : MethodName) (cc : ByteArray) (n d : Nat) (av : List Value) (h : Mem) (a : Asg) (len : Nat) (h' : Mem) (a' : Asg) (len' mc ms : Nat) : Prop :=
  Met l y (.code y cc n none :: TT) (rmc d mc ms) (va_Pc av (CWd G B h a len)) (Qzc G B h' a' len') mc ms (fun x : Nat => B ≤ x)
theorem CI.Wd {G : GG} {B : Nat} {s t : State} {h : Mem} {a : Asg} {len : Nat} {H : Heap} {locs : List Loc} (hw : CI G B s h a len H locs) (hK : KK G s) (hN : NestA s) (ht : t.heap = H) (hW : s.WarmedH t.vm) : CWd G B h a len t :=
  ⟨by rw [ht]; exact hw.1, hw.2.1, va_K.moved hW.alike hK, hN.warm hW, by rw [ht]; exact hw.2.2.2.1, hw.2.2.2.2⟩
/-- what a constructor's walk has at hand -/
def CFX (G : GG) (own : String) (cc : ByteArray) (n : Nat) (p : Program) (s : State) (m : MethodId) (args : Array Value) (meth : Method) (c : Code) : Prop :=
  p.tables.exec = Jvm.exec ∧ c.code = cc ∧ c.maxLocals = n ∧ s.vm.findClass own = some m.cls ∧ (∀ w ∈ TT, w.before args s = true) ∧ KK G s ∧ NestA s ∧ meth.name = "<init>"
theorem SatC.mk {l : Launch} {G : GG} {B : Nat} {y : MethodName} {cc : ByteArray} {n d : Nat} {av : List Value} {h h' : Mem} {a a' : Asg} {len len' mc ms : Nat} (hy : plainName y.cls = true) (hyn : y.name = "<init>") (hn : (lg_sl av).length ≤ n)
    (body : ∀ p e s m args below meth c Q, CFX G y.cls cc n p s m args meth c → (∀ (pc : Nat) (ls : Array Slot) (H : Heap) (locs : List Loc) (cells slots : Nat), decode cc pc = .ok (.return_, 1) → CI G B s h' a' len' H locs → cells ≤ mc → slots ≤ ms → W p l e (rmc d mc ms) s m args below meth c H locs cells slots Q (F0 m pc ls [])) → CI G B s h a len s.heap [] → ∀ ls : Array Slot, lv_has ls n (lv_args 0 av) →
      W p l e (rmc d mc ms) s m args below meth c s.heap [] 0 0 Q (F0 m 0 ls [])) : SatC l G B y cc n d av h a len h' a' len' mc ms := by
  refine Met.ofW (cc := cc) (maxL := n) (ret := none) hy rfl ?_
  intro p e s m args below meth c s₁ Bo hml hv
  obtain ⟨rfl, hP, hD, hK, hN, hz, hZ⟩ := hv
  rw [lg_entry_eq]
  have hr := Bo.returns
  have hlocks := Bo.notSynchronized
  exact body p e s m _ below meth c _ ⟨Bo.exec, Bo.bytes, hml, findClass_of_methodNamed Bo.named, fun w hw => atoms_spec (ws := .code y cc n none :: TT) Bo.pre w (List.mem_cons_of_mem _ hw), hK, hN, (name_of_methodNamed Bo.named Bo.method).1.trans hyn⟩
    (fun pc ls H locs cells slots hd hw h1 h2 => W.widen h1 h2 (W.vret Bo.exec Bo.bytes hr (fun t ht hW => ⟨rfl, hw.Wd hK hN ht hW, hw.2.2.1.F ht⟩) hw.2.2.1.2.2 hd)) ⟨hP, hD, va_S.rf, hz, hZ⟩ _ (lv_entry av hn)
def CNEW (own : String) (index ci N : Nat) : Prop := ∃ (C : String) (T : u_T) (ty0 : Nat → FieldType), vwCl[ci]? = some (C, T, N) ∧ (∀ w ∈ u_ws C T N, w ∈ TT) ∧ (∀ k, k < N → parseFieldDescriptor (T k).2.2.1 = some (ty0 k)) ∧ (∀ j, j < N → defaultValue (ty0 j) = vp_V ((FTab ci).map dfl) j) ∧ Cond.classLink own index C ∈ TT ∧ Cond.instantiable C N ∈ TT ∧ Cond.initialized C ∈ TT
def CFP (own : String) (index ci k code : Nat) (ty : FieldType) (fin : Bool) : Prop := ∃ (C : String) (T : u_T) (N : Nat) (ty0 : Nat → FieldType), vwCl[ci]? = some (C, T, N) ∧ (∀ w ∈ u_ws C T N, w ∈ TT) ∧ (∀ k, k < N → parseFieldDescriptor (T k).2.2.1 = some (ty0 k)) ∧ (∀ a, a < N → ∀ b, b < N → a ≠ b → (T a).2.1 ≠ (T b).2.1) ∧ k < N ∧ (FTab ci)[k]? = some code ∧ Cond.fieldLink own index (T k).1 (T k).2.1 (T k).2.2.1 ∈ TT ∧ (T k).2.2.2 = fin ∧ parseFieldDescriptor (T k).2.2.1 = some ty ∧ (T k).1 = own
def CC (own : String) (index : Nat) (y : MethodName) (cc : ByteArray) (n na : Nat) : Prop :=
  ((∃ host, (own, index, y, host) ∈ NW) ∨ Cond.methodLink own index y ∈ TT) ∧ Cond.instanceMethod y ∈ TT ∧ Cond.initialized y.cls ∈ TT ∧ Cond.code y cc n none ∈ TT ∧ y.name = "<init>" ∧ NoMH y na
section CROWS
variable {p : Program} {l : Launch} {e : Env} {R : Room} {s : State} {m : MethodId} {args : Array Value} {below : List Frame} {meth : Method} {c : Code} {H : Heap} {locs : List Loc} {cells slots : Nat} {Q : State → Prop}
variable {cc : ByteArray} {nL pc : Nat} {ls : Array Slot} {rest : List Value} {own : String} {G : GG} {h h' : Mem} {a a' : Asg} {len len' q n index B : Nat}
theorem c_new {ci z N : Nat} (hG : ∀ j, G.2.2.1 j = B + j) (hx : p.tables.exec = Jvm.exec) (hb : c.code = cc) (hts : ∀ w ∈ TT, w.before args s = true) (hown : s.vm.findClass own = some m.cls) (hK : KK G s) (hw : CI G B s h a len H locs) (hL : LAY[len]? = some (ci + 3, z)) (hC : CNEW own index ci N) (hcells : cells + 1 ≤ R.cells) (hslots : slots + N ≤ R.slots) (hd : decode cc pc = .ok (.new index, 3))
    (kk : ∀ H1 : Heap, CI G B s h a (len + 1) H1 locs → W p l e R s m args below meth c H1 locs (cells + 1) (slots + N) Q (F0 m (pc + 3) ls (.ref (G.2.2.1 len) :: rest))) : W p l e R s m args below meth c H locs cells slots Q (F0 m pc ls rest) := by
  obtain ⟨C, T, ty0, h1, h2, hty, hdf, w1, w2, w3⟩ := hC
  obtain ⟨hP, hD, hS, hsz, hZ⟩ := hw
  have hKn := hK.1 ci _ h1
  refine W.newcK hx hb hown (hts _ w1) (hts _ w2) (hts _ w3) rfl hd hcells hslots hKn.2.1 hsz fun H1 kC hkC e1 z1 o1 => ?_
  have hk : ∀ (k : Nat) (x : Nat × va_E), (wsP G h a len)[k]? = some x → H1[x.1]? = H[x.1]? := fun k x hx => o1 x.1 (by rw [← hsz]; exact (hP k x hx).lt)
  have hnew : va_P G.1 vwCl [(G.2.2.1 len, enP G h a len (ci + 3, z))] H1 := fun k x hx => by
    have hz : k < 1 := (List.getElem?_eq_some_iff.mp hx).1
    rw [show k = 0 by omega] at hx
    cases hx
    refine ⟨_, h1, ?_⟩
    show t_OB (G.2.2.1 len) _ _ _ H1 (vp_V (fldsP G.2.2.1 h a len 0 (FTab ci)))
    rw [fldsP_dfl hZ, hG]
    exact (u_born ty0 hts h2 hKn hkC e1 hty).to hdf
  have e : (.ref (G.2.2.1 len) : Value) = .ref (B + len) := by rw [hG]
  rw [e] at kk
  refine kk H1 ⟨by rw [wsP_push hL]; exact (hP.kept hk).app hnew, by rw [wsP_push hL]; exact hD.push hP (by rw [hG, hsz]) (by rw [hG]; exact Nat.le_add_right _ _), ⟨Nat.le_trans hS.1 (by omega), fun x q1 q2 => (o1 x (by rw [← hsz]; exact Nat.lt_of_lt_of_le q1 hS.1)).trans (hS.2.1 x q1 q2), hS.2.2⟩, z1, hZ.up⟩
theorem c_newa {atype : ArrayType} {ty : FieldType} {N : Nat} {v : Int32} {s0 : Nat × Nat} (hG : ∀ j, G.2.2.1 j = B + j) (hx : p.tables.exec = Jvm.exec) (hb : c.code = cc) (hts : ∀ w ∈ TT, w.before args s = true) (hK : KK G s) (hw : CI G B s h a len H locs) (hL : LAY[len]? = some s0) (hty : newarray.typeOf atype = ty) (hAr : Cond.arrayClass ty ∈ TT) (hn : ¬ v < 0) (hN : v.toNatClampNeg = N) (hby : N * componentBytes ty ≤ 536870912) (hs0 : (s0 = (0, N) ∧ ty = .int) ∨ (s0 = (1, N) ∧ ty = .long)) (hcells : cells + 1 ≤ R.cells) (hslots : slots + N ≤ R.slots) (hd : decode cc pc = .ok (.newarray atype, 2))
    (kk : ∀ H1 : Heap, CI G B s h a (len + 1) H1 locs → W p l e R s m args below meth c H1 locs (cells + 1) (slots + N) Q (F0 m (pc + 2) ls (.ref (G.2.2.1 len) :: rest))) : W p l e R s m args below meth c H locs cells slots Q (F0 m pc ls (.int v :: rest)) := by
  obtain ⟨hP, hD, hS, hsz, hZ⟩ := hw
  subst hty
  refine va_newaK hx hb (hts _ hAr) rfl hd rfl hn hN hby hcells hslots hsz fun H1 cA e1 z1 o1 hArr hNm => ?_
  have hk : ∀ (k : Nat) (x : Nat × va_E), (wsP G h a len)[k]? = some x → H1[x.1]? = H[x.1]? := fun k x hx => o1 x.1 (by rw [← hsz]; exact (hP k x hx).lt)
  have hnew : va_P G.1 vwCl [(G.2.2.1 len, enP G h a len s0)] H1 := fun k x hx => by
    have hz : k < 1 := (List.getElem?_eq_some_iff.mp hx).1
    rw [show k = 0 by omega] at hx
    cases hx
    rcases hs0 with ⟨rfl, ht⟩ | ⟨rfl, ht⟩
    · have hcl : G.2.1.1 = cA := by
        have hq := (hK.2 0 _ rfl).2
        rw [ht] at hNm
        exact Option.some.inj (hq.symm.trans hNm)
      show H1[G.2.2.1 len]? = some (vp_cell G.2.1.1 (N, .inl (fun j => gI h len j)))
      rw [show (fun j => gI h len j) = fun _ => 0 from funext fun j => (hZ len (Nat.le_refl _) j).1, hG, e1, hcl, ht]
      rfl
    · have hcl : G.2.1.2.1 = cA := by
        have hq := (hK.2 1 _ rfl).2
        rw [ht] at hNm
        exact Option.some.inj (hq.symm.trans hNm)
      show H1[G.2.2.1 len]? = some (vp_cell G.2.1.2.1 (N, .inr (.inl (fun j => gL h len j))))
      rw [show (fun j => gL h len j) = fun _ => 0 from funext fun j => (hZ len (Nat.le_refl _) j).2.1, hG, e1, hcl, ht]
      rfl
  have e : (.ref (G.2.2.1 len) : Value) = .ref (B + len) := by rw [hG]
  rw [e] at kk
  refine kk H1 ⟨by rw [wsP_push hL]; exact (hP.kept hk).app hnew, by rw [wsP_push hL]; exact hD.push hP (by rw [hG, hsz]) (by rw [hG]; exact Nat.le_add_right _ _), ⟨Nat.le_trans hS.1 (by omega), fun x q1 q2 => (o1 x (by rw [← hsz]; exact Nat.lt_of_lt_of_le q1 hS.1)).trans (hS.2.1 x q1 q2), hS.2.2⟩, z1, hZ.up⟩
theorem c_newq {N : Nat} {v : Int32} (hG : ∀ j, G.2.2.1 j = B + j) (hx : p.tables.exec = Jvm.exec) (hb : c.code = cc) (hts : ∀ w ∈ TT, w.before args s = true) (hown : s.vm.findClass own = some m.cls) (hK : KK G s) (hw : CI G B s h a len H locs) (hL : LAY[len]? = some (2, N)) (hcl : Cond.classLink own index "TurnedBeam$Sheet" ∈ TT) (hover : va_AO "TurnedBeam$Sheet" s) (hn : ¬ v < 0) (hN : v.toNatClampNeg = N) (hby : N * 4 ≤ 536870912) (hcells : cells + 1 ≤ R.cells) (hslots : slots + N ≤ R.slots) (hd : decode cc pc = .ok (.anewarray index, 3))
    (kk : ∀ H1 : Heap, CI G B s h a (len + 1) H1 locs → W p l e R s m args below meth c H1 locs (cells + 1) (slots + N) Q (F0 m (pc + 3) ls (.ref (G.2.2.1 len) :: rest))) : W p l e R s m args below meth c H locs cells slots Q (F0 m pc ls (.int v :: rest)) := by
  obtain ⟨hP, hD, hS, hsz, hZ⟩ := hw
  subst hN
  refine W.anew hx hb hown (hts _ hcl) (va_AO.use hover) rfl hd rfl hn hby hcells hslots fun cA kA comp f1 f2 f3 f4 => ?_
  generalize hH1 : H.push ({ cls := cA, slots := Array.replicate v.toNatClampNeg .null, vm := .none } : Cell) = H1
  have z1 : H1.size = H.size + 1 := by rw [← hH1, Array.size_push]
  have e1 : H1[H.size]? = some (arrV cA v.toNatClampNeg (fun _ => .null)) := by rw [← hH1, Array.getElem?_push_size, ← arrV_new]
  have o1 : ∀ q : Nat, q < H.size → H1[q]? = H[q]? := fun q hq => by rw [← hH1, Array.getElem?_push, if_neg (Nat.ne_of_lt hq)]
  have hk : ∀ (k : Nat) (x : Nat × va_E), (wsP G h a len)[k]? = some x → H1[x.1]? = H[x.1]? := fun k x hx => o1 x.1 ((hP k x hx).lt)
  have hnew : va_P G.1 vwCl [(G.2.2.1 len, enP G h a len (2, v.toNatClampNeg))] H1 := fun k x hx => by
    have hz : k < 1 := (List.getElem?_eq_some_iff.mp hx).1
    rw [show k = 0 by omega] at hx
    cases hx
    have hcl : G.2.1.2.2 = cA := by
      obtain ⟨kA', comp', g1, g2, g3, g4⟩ := (hK.2 2 _ rfl).2
      exact Option.some.inj (g4.symm.trans f1)
    show H1[G.2.2.1 len]? = some (vp_cell G.2.1.2.2 (v.toNatClampNeg, .inr (.inr (.inr (.inr (shP G.2.2.1 a len))))))
    rw [show shP G.2.2.1 a len = fun _ => none from funext fun j => by unfold shP; rw [(hZ len (Nat.le_refl _) j).2.2]; rfl, hG, ← hsz, e1, hcl]
    rfl
  have e : (.ref (G.2.2.1 len) : Value) = .ref H.size := by rw [hG, hsz]
  rw [e] at kk
  exact kk H1 ⟨by rw [wsP_push hL]; exact (hP.kept hk).app hnew, by rw [wsP_push hL]; exact hD.push hP (by rw [hG, hsz]) (by rw [hG]; exact Nat.le_add_right _ _), ⟨Nat.le_trans hS.1 (by omega), fun x q1 q2 => (o1 x (Nat.lt_of_lt_of_le q1 hS.1)).trans (hS.2.1 x q1 q2), hS.2.2⟩, by rw [z1, hsz]; omega, hZ.up⟩
/-- any field of the object at q, in a constructor: what is put there is told by 'hset' -/
theorem c_put {ci z k code : Nat} {ty : FieldType} {fin : Bool} {v : Value} {h' : Mem} {a' : Asg} (hx : p.tables.exec = Jvm.exec) (hb : c.code = cc) (hts : ∀ w ∈ TT, w.before args s = true) (hown : s.vm.findClass own = some m.cls) (hK : KK G s) (hin2 : meth.name = "<init>") (hw : CI G B s h a len H locs) (hq : LAY[q]? = some (ci + 3, z)) (hl : q < len) (hF : CFP own index ci k code ty fin) (hn : narrow ty v = v) (hfit : fits ty v = true) (hd : decode cc pc = .ok (.putfield index, 3))
    (hset : (wsP G h a len).set q (G.2.2.1 q, .inr (ci, (fldsP G.2.2.1 h a q 0 (FTab ci)).set k v)) = wsP G h' a' len) (hZ' : Zr h' a' len)
    (kk : ∀ (H1 : Heap) (locs1 : List Loc), CI G B s h' a' len H1 locs1 → W p l e R s m args below meth c H1 locs1 cells slots Q (F0 m (pc + 3) ls rest)) : W p l e R s m args below meth c H locs cells slots Q (F0 m pc ls (v :: .ref (G.2.2.1 q) :: rest)) := by
  obtain ⟨C, T, N, ty0, h1, h2, hty, hnm, hk, h4, h5, h6, h7, hdecl⟩ := hF
  obtain ⟨hP, hD, hS, hsz, hZ⟩ := hw
  have he := wsP_get (G := G) (h := h) (a := a) hq hl
  have hap := va_apart (own := own) hts h2 ty0 hty hnm hK h1
  obtain ⟨r, hr1, cell, q1, q2, q3, q4⟩ := hP q _ he
  have hr : r = (C, T, N) := Option.some.inj (hr1.symm.trans h1)
  subst hr
  obtain ⟨hSl, hfc, kC, hkC, hkind⟩ := hK.1 ci _ h1
  obtain ⟨cf, kf, fi, f, hi, hsl⟩ := hSl k hk
  have hlay := hts _ (h2 _ (u_in_lay hk))
  have hst := (u_facts hfc hkC (u_lays hts h2 hk) hi).1
  have hfl : k < (fldsP G.2.2.1 h a q 0 (FTab ci)).length := by rw [fldsP_len]; exact (List.getElem?_eq_some_iff.mp h4).1
  have hslot : f.slot < cell.slots.size := by rw [hsl]; exact k2_hasslot (q4 k hk)
  have hnf := u_fits hfc hkC hkind (u_lays hts h2 hk) hi h7 hn hfit
  have fin : ∀ H' : Heap, H'[G.2.2.1 q]? = some (cell.setSlot f.slot v) → H'.size = H.size → (∀ x : Nat, x ≠ G.2.2.1 q → H'[x]? = H[x]?) → W p l e R s m args below meth c H' (locs ++ [⟨G.2.2.1 q, f.slot⟩]) cells slots Q (F0 m (pc + 3) ls rest) := by
    intro H' e1 e2 e3
    rw [hsl] at e1
    have hP' := hP.set hD he (e := .inr (ci, (fldsP G.2.2.1 h a q 0 (FTab ci)).set k v)) ⟨_, h1, t_OB.to (V := updV (vp_V (fldsP G.2.2.1 h a q 0 (FTab ci))) k v) ⟨_, e1, q2, q3, t_set q4 hap hk v⟩ (fun j _ => vp_updV_set hfl v j)⟩ e3
    have hD' := hD.set (e := .inr (ci, (fldsP G.2.2.1 h a q 0 (FTab ci)).set k v)) he
    rw [hset] at hP' hD'
    exact kk H' _ ⟨hP', hD', hS.put e2 e3 (hD.2 q _ he), by rw [e2]; exact hsz, hZ'⟩
  by_cases hfb : (T k).2.2.2 = true
  · unfold u_lay at hlay
    rw [if_pos hfb] at hlay
    have hcf : m.cls = cf := by
      obtain ⟨_, _, c', _, _, _, -, -, hf', -, -, -, hown2, -⟩ := Cond.laysFinal_spec hlay
      have e1 : c' = cf := by have := hi.symm.trans hf'; simp at this; exact this.1.symm
      rw [hdecl] at hown2
      rw [← e1]; exact Option.some.inj (hown.symm.trans hown2)
    exact W.putFinK hx hb hown (hts _ h5) hi hst hcf hin2 (by rw [q2]; exact hnf) q1 q3 hslot rfl rfl hd fin
  · unfold u_lay at hlay
    rw [if_neg hfb] at hlay
    have h6' := u_store hfc hkC hkind hlay hi h7 hn hfit
    exact W.putK hx hb (f := f) ⟨hown, hts _ h5, ⟨_, _, _, hi⟩, hst⟩ (by rw [q2]; exact h6') q1 q3 hslot rfl rfl hd fin
theorem c_putI {ci z k : Nat} {ty : FieldType} {fin : Bool} {v : Int32} (hx : p.tables.exec = Jvm.exec) (hb : c.code = cc) (hts : ∀ w ∈ TT, w.before args s = true) (hown : s.vm.findClass own = some m.cls) (hK : KK G s) (hin2 : meth.name = "<init>") (hw : CI G B s h a len H locs) (hq : LAY[q]? = some (ci + 3, z)) (hl : q < len) (hF : CFP own index ci k 0 ty fin) (hn : narrow ty (.int v) = .int v) (hfit : fits ty (.int v) = true) (hd : decode cc pc = .ok (.putfield index, 3))
    (kk : ∀ (H1 : Heap) (locs1 : List Loc), CI G B s (sI h q k v) a len H1 locs1 → W p l e R s m args below meth c H1 locs1 cells slots Q (F0 m (pc + 3) ls rest)) : W p l e R s m args below meth c H locs cells slots Q (F0 m pc ls (.int v :: .ref (G.2.2.1 q) :: rest)) := by
  have hf4 : (FTab ci)[k]? = some 0 := by obtain ⟨_, _, _, _, _, _, _, _, _, h4, _⟩ := id hF; exact h4
  exact c_put hx hb hts hown hK hin2 hw hq hl hF hn hfit hd (wsP_setI hq hl hf4) (hw.2.2.2.2.sI hl) kk
theorem c_putL {ci z k : Nat} {fin : Bool} {v : Int64} (hx : p.tables.exec = Jvm.exec) (hb : c.code = cc) (hts : ∀ w ∈ TT, w.before args s = true) (hown : s.vm.findClass own = some m.cls) (hK : KK G s) (hin2 : meth.name = "<init>") (hw : CI G B s h a len H locs) (hq : LAY[q]? = some (ci + 3, z)) (hl : q < len) (hF : CFP own index ci k 1 .long fin) (hd : decode cc pc = .ok (.putfield index, 3))
    (kk : ∀ (H1 : Heap) (locs1 : List Loc), CI G B s (sL h q k v) a len H1 locs1 → W p l e R s m args below meth c H1 locs1 cells slots Q (F0 m (pc + 3) ls rest)) : W p l e R s m args below meth c H locs cells slots Q (F0 m pc ls (.long v :: .ref (G.2.2.1 q) :: rest)) := by
  have hf4 : (FTab ci)[k]? = some 1 := by obtain ⟨_, _, _, _, _, _, _, _, _, h4, _⟩ := id hF; exact h4
  exact c_put hx hb hts hown hK hin2 hw hq hl hF rfl rfl hd (wsP_setL hq hl hf4) (hw.2.2.2.2.sL hl) kk
theorem c_putR {ci z k n : Nat} {ty : FieldType} {fin : Bool} (hx : p.tables.exec = Jvm.exec) (hb : c.code = cc) (hts : ∀ w ∈ TT, w.before args s = true) (hown : s.vm.findClass own = some m.cls) (hK : KK G s) (hin2 : meth.name = "<init>") (hw : CI G B s h a len H locs) (hq : LAY[q]? = some (ci + 3, z)) (hl : q < len) (hF : CFP own index ci k (n + 2) ty fin) (hn : narrow ty (.ref (G.2.2.1 (q + n))) = .ref (G.2.2.1 (q + n))) (hfit : fits ty (.ref (G.2.2.1 (q + n))) = true) (hd : decode cc pc = .ok (.putfield index, 3))
    (kk : ∀ (H1 : Heap) (locs1 : List Loc), CI G B s h (sA a q k) len H1 locs1 → W p l e R s m args below meth c H1 locs1 cells slots Q (F0 m (pc + 3) ls rest)) : W p l e R s m args below meth c H locs cells slots Q (F0 m pc ls (.ref (G.2.2.1 (q + n)) :: .ref (G.2.2.1 q) :: rest)) := by
  have hf4 : (FTab ci)[k]? = some (n + 2) := by obtain ⟨_, _, _, _, _, _, _, _, _, h4, _⟩ := id hF; exact h4
  exact c_put hx hb hts hown hK hin2 hw hq hl hF hn hfit hd (wsP_setR hq hl hf4) (hw.2.2.2.2.sA hl) kk
theorem c_getR {ci z k o : Nat} (hx : p.tables.exec = Jvm.exec) (hb : c.code = cc) (hts : ∀ w ∈ TT, w.before args s = true) (hown : s.vm.findClass own = some m.cls) (hK : KK G s) (hw : CI G B s h a len H locs) (hq : LAY[q]? = some (ci + 3, z)) (hl : q < len) (hF : FG own index ci k (o + 2)) (hset : a q k = true) (hd : decode cc pc = .ok (.getfield index, 3))
    (kk : W p l e R s m args below meth c H locs cells slots Q (F0 m (pc + 3) ls (.ref (G.2.2.1 (q + o)) :: rest))) : W p l e R s m args below meth c H locs cells slots Q (F0 m pc ls (.ref (G.2.2.1 q) :: rest)) := by
  obtain ⟨C, T, N, h1, h2, h3, h4, h5⟩ := hF
  refine va_get (D := G.1) hx hb hts h2 hown hK hw.1 q (wsP_get hq hl) h1 k h3 (hts _ h5) (fun _ h => h) (fldsP_get h4) hd ?_
  rw [Nat.zero_add]
  show W p l e R s m args below meth c H locs cells slots Q (F0 m (pc + 3) ls ((if a q k = true then .ref (G.2.2.1 (q + o)) else .null) :: rest))
  rw [if_pos hset]
  exact kk
theorem c_alenA (hx : p.tables.exec = Jvm.exec) (hb : c.code = cc) (hK : KK G s) (hw : CI G B s h a len H locs) (hq : LAY[q]? = some (2, n)) (hl : q < len) (hd : decode cc pc = .ok (.arraylength, 1))
    (kk : W p l e R s m args below meth c H locs cells slots Q (F0 m (pc + 1) ls (.int (Int32.ofNat n) :: rest))) : W p l e R s m args below meth c H locs cells slots Q (F0 m pc ls (.ref (G.2.2.1 q) :: rest)) :=
  va_alen hx hb hK hw.1 q 2 (wsP_get hq hl) rfl rfl hd kk
theorem c_ast {i v : Int32} {k : Nat} (hx : p.tables.exec = Jvm.exec) (hb : c.code = cc) (hK : KK G s) (hw : CI G B s h a len H locs) (hq : LAY[q]? = some (0, n)) (hl : q < len) (hin : vp_in i n) (hik : i.toNatClampNeg = k) (hd : decode cc pc = .ok (.iastore, 1))
    (kk : ∀ (H1 : Heap) (locs1 : List Loc), CI G B s (sI h q k v) a len H1 locs1 → W p l e R s m args below meth c H1 locs1 cells slots Q (F0 m (pc + 1) ls rest)) : W p l e R s m args below meth c H locs cells slots Q (F0 m pc ls (.int v :: .int i :: .ref (G.2.2.1 q) :: rest)) := by
  obtain ⟨hP, hD, hS, hsz, hZ⟩ := hw
  subst hik
  have ha := wsP_get (G := G) (h := h) (a := a) hq hl
  refine W.iast hx hb (hP q _ ha) ((hK.2 0 _ rfl).1 n (fun j => .int (gI h q j))) (fun q => by cases q) (by show ¬ (i < 0 ∨ (arrV _ _ _).slots.size ≤ _); rw [arrV_size]; exact hin) rfl rfl hd fun H1 e z oq => ?_
  have he : va_at G.1 vwCl (G.2.2.1 q, .inl (G.2.1.1, (n, .inl (upd (fun j => gI h q j) i.toNatClampNeg v)))) H1 := by
    show H1[G.2.2.1 q]? = some (vp_cell _ _)
    rw [e]
    show some ((vp_cell G.2.1.1 (n, .inl (fun j => gI h q j))).setSlot _ _) = _
    rw [vp_cell_i, vp_cell_i, arrV_store]
    congr 2
    funext j
    unfold updV upd
    by_cases hj : j = i.toNatClampNeg
    · rw [if_pos hj, if_pos hj]
    · rw [if_neg hj, if_neg hj]
  have hP' := hP.set hD ha he oq
  have hD' := hD.set (e := .inl (G.2.1.1, (n, .inl (upd (fun j => gI h q j) i.toNatClampNeg v)))) ha
  rw [wsP_astI hq hl] at hP' hD'
  exact kk H1 _ ⟨hP', hD', hS.put z oq (hD.2 q _ ha), by rw [z]; exact hsz, hZ.sI hl⟩
theorem c_aast {i : Int32} {k ci z : Nat} {fs : List Value} (hx : p.tables.exec = Jvm.exec) (hb : c.code = cc) (hK : KK G s) (hw : CI G B s h a len H locs) (hq : LAY[q]? = some (2, n)) (hl : q < len) (hv : LAY[64 + 2 * k]? = some (10, 0)) (hvl : 64 + 2 * k < len) (hin : vp_in i n) (hik : i.toNatClampNeg = k) (hd : decode cc pc = .ok (.aastore, 1))
    (kk : ∀ (H1 : Heap) (locs1 : List Loc), CI G B s h (sA a q k) len H1 locs1 → W p l e R s m args below meth c H1 locs1 cells slots Q (F0 m (pc + 1) ls rest)) : W p l e R s m args below meth c H locs cells slots Q (F0 m pc ls (.ref (G.2.2.1 (64 + 2 * k)) :: .int i :: .ref (G.2.2.1 q) :: rest)) := by
  obtain ⟨hP, hD, hS, hsz, hZ⟩ := hw
  subst hik
  have ha := wsP_get (G := G) (h := h) (a := a) hq hl
  have hav := wsP_get (G := G) (h := h) (a := a) hv hvl
  have hlt : i.toNatClampNeg < n := Nat.not_le.mp fun q => hin (Or.inr q)
  have h0 : ¬ i < 0 := fun q => hin (Or.inl q)
  obtain ⟨r', hr', cellV, g1, g2, g3, -⟩ := hP _ _ hav
  have hr0 : r' = (RX7, TX7, 3) := (Option.some.inj (hr'.symm.trans rfl))
  subst hr0
  have hcls := (hK.1 7 _ rfl).2
  obtain ⟨kA, comp, k1, k2, k3, -⟩ := (hK.2 2 _ rfl).2
  have hcomp : comp = G.1.1 7 := Option.some.inj (k3.symm.trans hcls.1)
  subst hcomp
  obtain ⟨kC, hkC, -⟩ := hcls.2
  refine W.aast hx hb (hP q _ ha) (fun q h => by cases h) (fun h => by cases h) k1 k2 rfl hkC ⟨h0, by show _ < (arrV _ _ _).slots.size; rw [arrV_size]; exact hlt⟩ g1 (fun q h => by rw [g3] at h; cases h) (by rw [g2]; exact hkC) (by rw [g2]; exact va_assign hcls) rfl rfl hd fun H1 e z oq => ?_
  have he : va_at G.1 vwCl (G.2.2.1 q, .inl (G.2.1.2.2, (n, .inr (.inr (.inr (.inr (va_up (shP G.2.2.1 a q) i.toNatClampNeg (some (G.2.2.1 (64 + 2 * i.toNatClampNeg)))))))))) H1 := by
    show H1[G.2.2.1 q]? = some (vp_cell _ _)
    rw [e]
    show some ((vp_cell G.2.1.2.2 (n, .inr (.inr (.inr (.inr (shP G.2.2.1 a q)))))).setSlot _ _) = _
    rw [vp_cell_q, vp_cell_q, arrV_store]
    congr 2
    funext j
    unfold updV va_up
    by_cases hj : j = i.toNatClampNeg
    · rw [if_pos hj, if_pos hj]; rfl
    · rw [if_neg hj, if_neg hj]
  have hP' := hP.set hD ha he oq
  have hD' := hD.set (e := .inl (G.2.1.2.2, (n, .inr (.inr (.inr (.inr (va_up (shP G.2.2.1 a q) i.toNatClampNeg (some (G.2.2.1 (64 + 2 * i.toNatClampNeg)))))))))) ha
  rw [wsP_astA hq hl] at hP' hD'
  exact kk H1 _ ⟨hP', hD', hS.put z oq (hD.2 q _ ha), by rw [z]; exact hsz, hZ.sA hl⟩
theorem cblind {av : List Value} : FrameBlind (va_Pc av (CWd G B h a len)) := by
  intro x U g mk q
  obtain ⟨q0, qP, qD, qK, qN, qz, qZ⟩ := q
  exact ⟨q0, qP, qD, va_K.moved (u := U) (U := U.calling g mk x) (Vm.Alike.refl U.vm) qK, ⟨Nest.same (u := U) (U := U.calling g mk x) rfl qN.1, va_AO.moved (u := U) (U := U.calling g mk x) (Vm.Alike.refl U.vm) qN.2⟩, qz, qZ⟩
variable {y : MethodName} {bytes : ByteArray} {maxL na d mc ms : Nat} {As : List Value}
theorem c_call {b : Addr} (hx : p.tables.exec = Jvm.exec) (hb : c.code = cc) (hml : c.maxLocals = nL) (hls : ls.size = nL) (hts : ∀ w ∈ TT, w.before args s = true) (hown : s.vm.findClass own = some m.cls) (hK : KK G s) (hN : NestA s) (hw : CI G B s h a len H locs)
    (hM : SatC l G B y bytes maxL d (.ref b :: As) h a len h' a' len' mc ms) (hC : CC own index y bytes maxL na) (hR : d + 1 ≤ R.frames ∧ 8 + (maxL + 11) + 64 * d ≤ R.locals ∧ cells + mc ≤ R.cells ∧ slots + ms ≤ R.slots) (hn : As.length = na) (hcat : (rest.map fun v => v.category).sum ≤ 8) {st0 : List Value} (hst : st0 = As.reverse ++ .ref b :: rest) (hd : decode cc pc = .ok (.invokespecial index, 3))
    (kk : ∀ (H1 : Heap) (locs1 : List Loc), CI G B s h' a' len' H1 locs1 → W p l e R s m args below meth c H1 locs1 (cells + mc) (slots + ms) Q (F0 m (pc + 3) ls rest)) : W p l e R s m args below meth c H locs cells slots Q (F0 m pc ls st0) := by
  obtain ⟨c1, c2, c3, c4, c5, c6⟩ := hC
  have hp : PreS s H (va_Pc (.ref b :: As) (CWd G B h a len)) (.ref b :: As) := ⟨cblind, fun U hU hW => ⟨rfl, hw.Wd hK hN hU hW⟩⟩
  have hrun : va_Run p l e R s m args below meth c H locs cells slots mc ms (F0 m pc ls st0) rest (Qzc G B h' a' len' (.ref b :: As).toArray) (fun x : Nat => B ≤ x) := by
    rcases c1 with ⟨host, c1⟩ | c1
    · exact va_runIN (As := As) (rest := rest) ⟨hx, hb, hml, hown, hts⟩ hM ⟨va_cnB na hts (good_code c4) rfl rfl rfl (hN.1 _ c1) (hts _ c3) c6 ⟨hR.1, hR.2.1⟩, c5, hts _ c2⟩ hp rfl hn hls hst (lv_room hcat) hd ⟨hR.2.2.1, hR.2.2.2⟩
    · exact va_runI (As := As) (rest := rest) ⟨hx, hb, hml, hown, hts⟩ hM (cwI na hts (good_code c4) rfl rfl rfl (hts _ c3) (hts _ c1) (hts _ c2) c5 c6 ⟨hR.1, hR.2.1⟩) hp rfl hn hls hst (lv_room hcat) hd ⟨hR.2.2.1, hR.2.2.2⟩
  intro T hT X
  obtain ⟨v, st₀, t, T', L, h0, X', hL, e1, e2, ⟨hv, hWd, hF⟩, st⟩ := hrun T hT X
  cases hv
  obtain ⟨hz, hk⟩ := hF
  rw [h0] at hz hk
  obtain ⟨t2, a1, b1⟩ := kk T'.heap (locs ++ L) ⟨by rw [e1]; exact hWd.1, hWd.2.1, ⟨Nat.le_trans hw.2.2.1.1 (by rw [e1]; exact hz), fun q h1 h2 => by rw [e1, hk q (Nat.lt_of_lt_of_le h1 hw.2.2.1.1) h2]; exact hw.2.2.1.2.1 q h1 h2, fun q hq => by
      rcases List.mem_append.mp hq with h | h
      · exact hw.2.2.1.2.2 q h
      · exact hL q h⟩, by rw [e1]; exact hWd.2.2.2.2.1, hWd.2.2.2.2.2⟩ T' rfl X'
  exact ⟨t2, st t2 a1, b1⟩
end CROWS
