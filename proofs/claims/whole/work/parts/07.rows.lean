/-! what the tables say of a field, of a call: one word each -/
def FG (own : String) (index ci k code : Nat) : Prop := ∃ (C : String) (T : u_T) (N : Nat), vwCl[ci]? = some (C, T, N) ∧ (∀ w ∈ u_ws C T N, w ∈ TT) ∧ k < N ∧ (FTab ci)[k]? = some code ∧ Cond.fieldLink own index (T k).1 (T k).2.1 (T k).2.2.1 ∈ TT
def FP (own : String) (index ci k code : Nat) (ty : FieldType) : Prop := ∃ (C : String) (T : u_T) (N : Nat) (ty0 : Nat → FieldType), vwCl[ci]? = some (C, T, N) ∧ (∀ w ∈ u_ws C T N, w ∈ TT) ∧ (∀ k, k < N → parseFieldDescriptor (T k).2.2.1 = some (ty0 k)) ∧ (∀ a, a < N → ∀ b, b < N → a ≠ b → (T a).2.1 ≠ (T b).2.1) ∧ k < N ∧ (FTab ci)[k]? = some code ∧ Cond.fieldLink own index (T k).1 (T k).2.1 (T k).2.2.1 ∈ TT ∧ (T k).2.2.2 = false ∧ parseFieldDescriptor (T k).2.2.1 = some ty
def NoMH (y : MethodName) (na : Nat) : Prop := y.cls ≠ "java/lang/invoke/MethodHandle" ∧ y.cls ≠ "java/lang/invoke/VarHandle" ∧ (parseMethodDescriptor y.desc).map (fun d => d.parameters.length) = some na
def CV (own : String) (index : Nat) (y : MethodName) (cc : ByteArray) (n : Nat) (ret : Option FieldType) (na : Nat) : Prop :=
  Cond.methodLink own index y ∈ TT ∧ Cond.instanceMethod y ∈ TT ∧ Cond.selects y.cls y y ∈ TT ∧ Cond.initialized y.cls ∈ TT ∧ Cond.code y cc n ret ∈ TT ∧ NoMH y na
def CS (own : String) (index : Nat) (y : MethodName) (cc : ByteArray) (n : Nat) (ret : Option FieldType) (na : Nat) : Prop :=
  Cond.methodLink own index y ∈ TT ∧ Cond.static y ∈ TT ∧ Cond.initialized y.cls ∈ TT ∧ Cond.code y cc n ret ∈ TT ∧ NoMH y na
def CN (own : String) (index : Nat) (y : MethodName) (cc : ByteArray) (n : Nat) (ret : Option FieldType) (na : Nat) : Prop :=
  (∃ host, (own, index, y, host) ∈ NW) ∧ Cond.static y ∈ TT ∧ Cond.initialized y.cls ∈ TT ∧ Cond.code y cc n ret ∈ TT ∧ NoMH y na
theorem good_code {y : MethodName} {cc : ByteArray} {n : Nat} {ret : Option FieldType} (h : Cond.code y cc n ret ∈ TT) : GoodIn TT (.code y cc n ret :: TT) := by
  intro w hw
  rcases List.mem_cons.mp hw with rfl | hw
  · exact ⟨h, TT_good _ h⟩
  · exact ⟨hw, TT_good _ hw⟩
theorem in_of {i : Int32} {n : Nat} (h : 0 ≤ i.toInt ∧ i.toInt < n) : vp_in i n := vp_in_iff.mpr h
def mnI (x y : Int32) : Int32 := if y < x then y else x
def mxI (x y : Int32) : Int32 := if x < y then y else x
def ushI (x y : Int32) : Int32 := (x.toUInt32 >>> (y.toUInt32 &&& Int32.toUInt32 31)).toInt32
def ushL (x : Int64) (y : Int32) : Int64 := (x.toUInt64 >>> (y.toInt64.toUInt64 &&& Int64.toUInt64 63)).toInt64
section ROWS
variable {p : Program} {l : Launch} {e : Env} {R : Room} {s : State} {m : MethodId} {args : Array Value} {below : List Frame} {meth : Method} {c : Code} {H : Heap} {locs : List Loc} {cells slots : Nat} {Q : State → Prop}
variable {cc : ByteArray} {nL pc : Nat} {ls : Array Slot} {rest : List Value} {own : String} {G : GG} {h h' : Mem} {ρ : Type} {r : ρ} {q n index : Nat}
theorem q_topI {x y : Int32} (hxy : x = y) (k : W p l e R s m args below meth c H locs cells slots Q (F0 m pc ls (.int y :: rest))) : W p l e R s m args below meth c H locs cells slots Q (F0 m pc ls (.int x :: rest)) := by rw [hxy]; exact k
theorem q_topL {x y : Int64} (hxy : x = y) (k : W p l e R s m args below meth c H locs cells slots Q (F0 m pc ls (.long y :: rest))) : W p l e R s m args below meth c H locs cells slots Q (F0 m pc ls (.long x :: rest)) := by rw [hxy]; exact k
theorem q_getI {ci z k : Nat} (hx : p.tables.exec = Jvm.exec) (hb : c.code = cc) (hts : ∀ w ∈ TT, w.before args s = true) (hown : s.vm.findClass own = some m.cls) (hK : KK G s) (hw : IW G s h H locs) (hq : LAY[q]? = some (ci + 3, z)) (hF : FG own index ci k 0) (hd : decode cc pc = .ok (.getfield index, 3))
    (kk : W p l e R s m args below meth c H locs cells slots Q (F0 m (pc + 3) ls (.int (gI h q k) :: rest))) : W p l e R s m args below meth c H locs cells slots Q (F0 m pc ls (.ref (G.2.2.1 q) :: rest)) := by
  obtain ⟨C, T, N, h1, h2, h3, h4, h5⟩ := hF
  refine va_get (D := G.1) hx hb hts h2 hown hK hw.1 q (ws_get hq) h1 k h3 (hts _ h5) (fun _ h => h) (flds_get h4) hd ?_
  rw [Nat.zero_add]
  exact kk
theorem q_getL {ci z k : Nat} (hx : p.tables.exec = Jvm.exec) (hb : c.code = cc) (hts : ∀ w ∈ TT, w.before args s = true) (hown : s.vm.findClass own = some m.cls) (hK : KK G s) (hw : IW G s h H locs) (hq : LAY[q]? = some (ci + 3, z)) (hF : FG own index ci k 1) (hd : decode cc pc = .ok (.getfield index, 3))
    (kk : W p l e R s m args below meth c H locs cells slots Q (F0 m (pc + 3) ls (.long (gL h q k) :: rest))) : W p l e R s m args below meth c H locs cells slots Q (F0 m pc ls (.ref (G.2.2.1 q) :: rest)) := by
  obtain ⟨C, T, N, h1, h2, h3, h4, h5⟩ := hF
  refine va_get (D := G.1) hx hb hts h2 hown hK hw.1 q (ws_get hq) h1 k h3 (hts _ h5) (fun _ h => h) (flds_get h4) hd ?_
  rw [Nat.zero_add]
  exact kk
theorem q_getR {ci z k o : Nat} (hx : p.tables.exec = Jvm.exec) (hb : c.code = cc) (hts : ∀ w ∈ TT, w.before args s = true) (hown : s.vm.findClass own = some m.cls) (hK : KK G s) (hw : IW G s h H locs) (hq : LAY[q]? = some (ci + 3, z)) (hF : FG own index ci k (o + 2)) (hd : decode cc pc = .ok (.getfield index, 3))
    (kk : W p l e R s m args below meth c H locs cells slots Q (F0 m (pc + 3) ls (.ref (G.2.2.1 (q + o)) :: rest))) : W p l e R s m args below meth c H locs cells slots Q (F0 m pc ls (.ref (G.2.2.1 q) :: rest)) := by
  obtain ⟨C, T, N, h1, h2, h3, h4, h5⟩ := hF
  refine va_get (D := G.1) hx hb hts h2 hown hK hw.1 q (ws_get hq) h1 k h3 (hts _ h5) (fun _ h => h) (flds_get h4) hd ?_
  exact kk
theorem q_putI {ci z k : Nat} {v : Int32} {K : Mem → Option ρ} (hx : p.tables.exec = Jvm.exec) (hb : c.code = cc) (hts : ∀ w ∈ TT, w.before args s = true) (hown : s.vm.findClass own = some m.cls) (hK : KK G s) (hw : IW G s h H locs) (hq : LAY[q]? = some (ci + 3, z)) (hF : FP own index ci k 0 .int) (hd : decode cc pc = .ok (.putfield index, 3)) (hs : nm (sI h q k v) K = some r)
    (kk : ∀ (h1 : Mem) (H1 : Heap) (locs1 : List Loc), IW G s h1 H1 locs1 → K h1 = some r → W p l e R s m args below meth c H1 locs1 cells slots Q (F0 m (pc + 3) ls rest)) : W p l e R s m args below meth c H locs cells slots Q (F0 m pc ls (.int v :: .ref (G.2.2.1 q) :: rest)) := by
  obtain ⟨C, T, N, ty0, h1, h2, hty, hnm, h3, h4, h5, h6, h7⟩ := hF
  refine va_put (D := G.1) hx hb hts h2 ty0 hty hnm hown hK hw.1 hw.2.1 hw.2.2 q (ws_get hq) h1 k h3 (hts _ h5) (fun _ h => h) h6 h7 rfl rfl (by rw [flds_len]; exact (List.getElem?_eq_some_iff.mp h4).1) hd (fun H1 locs1 hP hD hS => ?_)
  rw [ws_setI hq h4] at hP hD
  exact kk _ H1 locs1 ⟨hP, hD, hS⟩ hs
theorem q_putZ {ci z k : Nat} {v : Int32} {K : Mem → Option ρ} (hx : p.tables.exec = Jvm.exec) (hb : c.code = cc) (hts : ∀ w ∈ TT, w.before args s = true) (hown : s.vm.findClass own = some m.cls) (hK : KK G s) (hw : IW G s h H locs) (hq : LAY[q]? = some (ci + 3, z)) (hF : FP own index ci k 0 .boolean) (hd : decode cc pc = .ok (.putfield index, 3)) (hs : rZ v (nm (sI h q k v) K) = some r)
    (kk : ∀ (h1 : Mem) (H1 : Heap) (locs1 : List Loc), IW G s h1 H1 locs1 → K h1 = some r → W p l e R s m args below meth c H1 locs1 cells slots Q (F0 m (pc + 3) ls rest)) : W p l e R s m args below meth c H locs cells slots Q (F0 m pc ls (.int v :: .ref (G.2.2.1 q) :: rest)) := by
  obtain ⟨C, T, N, ty0, h1, h2, hty, hnm, h3, h4, h5, h6, h7⟩ := hF
  obtain ⟨hv, hs⟩ := q_rZ hs
  refine va_put (D := G.1) hx hb hts h2 ty0 hty hnm hown hK hw.1 hw.2.1 hw.2.2 q (ws_get hq) h1 k h3 (hts _ h5) (fun _ h => h) h6 h7 (by rcases hv with rfl | rfl <;> rfl) (by rcases hv with rfl | rfl <;> rfl) (by rw [flds_len]; exact (List.getElem?_eq_some_iff.mp h4).1) hd (fun H1 locs1 hP hD hS => ?_)
  rw [ws_setI hq h4] at hP hD
  exact kk _ H1 locs1 ⟨hP, hD, hS⟩ hs
theorem q_putL {ci z k : Nat} {v : Int64} {K : Mem → Option ρ} (hx : p.tables.exec = Jvm.exec) (hb : c.code = cc) (hts : ∀ w ∈ TT, w.before args s = true) (hown : s.vm.findClass own = some m.cls) (hK : KK G s) (hw : IW G s h H locs) (hq : LAY[q]? = some (ci + 3, z)) (hF : FP own index ci k 1 .long) (hd : decode cc pc = .ok (.putfield index, 3)) (hs : nm (sL h q k v) K = some r)
    (kk : ∀ (h1 : Mem) (H1 : Heap) (locs1 : List Loc), IW G s h1 H1 locs1 → K h1 = some r → W p l e R s m args below meth c H1 locs1 cells slots Q (F0 m (pc + 3) ls rest)) : W p l e R s m args below meth c H locs cells slots Q (F0 m pc ls (.long v :: .ref (G.2.2.1 q) :: rest)) := by
  obtain ⟨C, T, N, ty0, h1, h2, hty, hnm, h3, h4, h5, h6, h7⟩ := hF
  refine va_put (D := G.1) hx hb hts h2 ty0 hty hnm hown hK hw.1 hw.2.1 hw.2.2 q (ws_get hq) h1 k h3 (hts _ h5) (fun _ h => h) h6 h7 rfl rfl (by rw [flds_len]; exact (List.getElem?_eq_some_iff.mp h4).1) hd (fun H1 locs1 hP hD hS => ?_)
  rw [ws_setL hq h4] at hP hD
  exact kk _ H1 locs1 ⟨hP, hD, hS⟩ hs
theorem q_ald {i : Int32} {K : Int32 → Option ρ} (hx : p.tables.exec = Jvm.exec) (hb : c.code = cc) (hK : KK G s) (hw : IW G s h H locs) (hq : LAY[q]? = some (0, n)) (hd : decode cc pc = .ok (.iaload, 1)) (hs : ald h q n i K = some r)
    (kk : ∀ v : Int32, K v = some r → W p l e R s m args below meth c H locs cells slots Q (F0 m (pc + 1) ls (.int v :: rest))) : W p l e R s m args below meth c H locs cells slots Q (F0 m pc ls (.int i :: .ref (G.2.2.1 q) :: rest)) := by
  obtain ⟨hi, hs⟩ := q_ch hs
  exact va_iald hx hb hK hw.1 q 0 (ws_get hq) rfl (in_of hi) hd (kk _ hs)
theorem q_aldL {i : Int32} {K : Int64 → Option ρ} (hx : p.tables.exec = Jvm.exec) (hb : c.code = cc) (hK : KK G s) (hw : IW G s h H locs) (hq : LAY[q]? = some (1, n)) (hd : decode cc pc = .ok (.laload, 1)) (hs : aldL h q n i K = some r)
    (kk : ∀ v : Int64, K v = some r → W p l e R s m args below meth c H locs cells slots Q (F0 m (pc + 1) ls (.long v :: rest))) : W p l e R s m args below meth c H locs cells slots Q (F0 m pc ls (.int i :: .ref (G.2.2.1 q) :: rest)) := by
  obtain ⟨hi, hs⟩ := q_ch hs
  exact va_lald hx hb hK hw.1 q 1 (ws_get hq) rfl (in_of hi) hd (kk _ hs)
theorem q_ast {i v : Int32} {K : Mem → Option ρ} (hx : p.tables.exec = Jvm.exec) (hb : c.code = cc) (hK : KK G s) (hw : IW G s h H locs) (hq : LAY[q]? = some (0, n)) (hd : decode cc pc = .ok (.iastore, 1)) (hs : ast h q n i v K = some r)
    (kk : ∀ (h1 : Mem) (H1 : Heap) (locs1 : List Loc), IW G s h1 H1 locs1 → K h1 = some r → W p l e R s m args below meth c H1 locs1 cells slots Q (F0 m (pc + 1) ls rest)) : W p l e R s m args below meth c H locs cells slots Q (F0 m pc ls (.int v :: .int i :: .ref (G.2.2.1 q) :: rest)) := by
  obtain ⟨hi, hs⟩ := q_ch hs
  refine va_iast hx hb hK hw.1 hw.2.1 hw.2.2 q 0 (ws_get hq) rfl (in_of hi) hd (fun H1 locs1 hP hD hS => ?_)
  rw [ws_astI hq] at hP hD
  exact kk _ H1 locs1 ⟨hP, hD, hS⟩ hs
theorem q_astL {i : Int32} {v : Int64} {K : Mem → Option ρ} (hx : p.tables.exec = Jvm.exec) (hb : c.code = cc) (hK : KK G s) (hw : IW G s h H locs) (hq : LAY[q]? = some (1, n)) (hd : decode cc pc = .ok (.lastore, 1)) (hs : astL h q n i v K = some r)
    (kk : ∀ (h1 : Mem) (H1 : Heap) (locs1 : List Loc), IW G s h1 H1 locs1 → K h1 = some r → W p l e R s m args below meth c H1 locs1 cells slots Q (F0 m (pc + 1) ls rest)) : W p l e R s m args below meth c H locs cells slots Q (F0 m pc ls (.long v :: .int i :: .ref (G.2.2.1 q) :: rest)) := by
  obtain ⟨hi, hs⟩ := q_ch hs
  refine va_last hx hb hK hw.1 hw.2.1 hw.2.2 q 1 (ws_get hq) rfl (in_of hi) hd (fun H1 locs1 hP hD hS => ?_)
  rw [ws_astL hq] at hP hD
  exact kk _ H1 locs1 ⟨hP, hD, hS⟩ hs
theorem q_aald {i : Int32} {K : Nat → Option ρ} (hx : p.tables.exec = Jvm.exec) (hb : c.code = cc) (hK : KK G s) (hw : IW G s h H locs) (hq : LAY[q]? = some (2, n)) (hd : decode cc pc = .ok (.aaload, 1)) (hs : rng i n K = some r)
    (kk : ∀ j : Nat, j < n → K j = some r → W p l e R s m args below meth c H locs cells slots Q (F0 m (pc + 1) ls (.ref (G.2.2.1 (64 + 2 * j)) :: rest))) : W p l e R s m args below meth c H locs cells slots Q (F0 m pc ls (.int i :: .ref (G.2.2.1 q) :: rest)) := by
  obtain ⟨hi, hs⟩ := q_ch hs
  have hlt : i.toNatClampNeg < n := by
    show i.toInt.toNat < n
    omega
  exact va_aldq hx hb hK hw.1 q 2 (ws_get hq) rfl (in_of hi) hd (kk _ hlt hs)
theorem q_alen (hx : p.tables.exec = Jvm.exec) (hb : c.code = cc) (hK : KK G s) (hw : IW G s h H locs) (hq : LAY[q]? = some (0, n)) (hd : decode cc pc = .ok (.arraylength, 1))
    (kk : W p l e R s m args below meth c H locs cells slots Q (F0 m (pc + 1) ls (.int (Int32.ofNat n) :: rest))) : W p l e R s m args below meth c H locs cells slots Q (F0 m pc ls (.ref (G.2.2.1 q) :: rest)) :=
  va_alen hx hb hK hw.1 q 0 (ws_get hq) rfl rfl hd kk
theorem q_alenA (hx : p.tables.exec = Jvm.exec) (hb : c.code = cc) (hK : KK G s) (hw : IW G s h H locs) (hq : LAY[q]? = some (2, n)) (hd : decode cc pc = .ok (.arraylength, 1))
    (kk : W p l e R s m args below meth c H locs cells slots Q (F0 m (pc + 1) ls (.int (Int32.ofNat n) :: rest))) : W p l e R s m args below meth c H locs cells slots Q (F0 m pc ls (.ref (G.2.2.1 q) :: rest)) :=
  va_alen hx hb hK hw.1 q 2 (ws_get hq) rfl rfl hd kk
/-! static tables -/
theorem q_gets {C d : String} {t : Nat} {nm' : String} (hx : p.tables.exec = Jvm.exec) (hb : c.code = cc) (hts : ∀ w ∈ TT, w.before args s = true) (hown : s.vm.findClass own = some m.cls) (hw : IW G s h H locs) (hZ : va_Z C nm' d (.ref t) (WA G) s s.heap) (hl : Cond.fieldLink own index C nm' d ∈ TT) (hd : decode cc pc = .ok (.getstatic index, 3))
    (kk : W p l e R s m args below meth c H locs cells slots Q (F0 m (pc + 3) ls (.ref t :: rest))) : W p l e R s m args below meth c H locs cells slots Q (F0 m pc ls rest) :=
  va_gets hx hb hZ hw.2.2 hown (hts _ hl) (fun _ h => h) hd kk
theorem q_tldI {i : Int32} {t N : Nat} {f : Nat → Int32} {K : Int32 → Option ρ} (hx : p.tables.exec = Jvm.exec) (hb : c.code = cc) (hw : IW G s h H locs) (hT : va_T .int t N (fun j => .int (f j)) (WA G) s s.heap) (hd : decode cc pc = .ok (.iaload, 1)) (hs : tld f N i K = some r)
    (kk : ∀ v : Int32, K v = some r → W p l e R s m args below meth c H locs cells slots Q (F0 m (pc + 1) ls (.int v :: rest))) : W p l e R s m args below meth c H locs cells slots Q (F0 m pc ls (.int i :: .ref t :: rest)) := by
  obtain ⟨hi, hs⟩ := q_ch hs
  exact va_ti hx hb hT hw.2.2 (in_of hi) rfl hd (kk _ hs)
theorem q_tldC {i : Int32} {t N : Nat} {f : Nat → Int32} {K : Int32 → Option ρ} (hx : p.tables.exec = Jvm.exec) (hb : c.code = cc) (hw : IW G s h H locs) (hT : va_T .char t N (fun j => .int (f j)) (WA G) s s.heap) (hd : decode cc pc = .ok (.caload, 1)) (hs : tld f N i K = some r)
    (kk : ∀ v : Int32, K v = some r → W p l e R s m args below meth c H locs cells slots Q (F0 m (pc + 1) ls (.int v :: rest))) : W p l e R s m args below meth c H locs cells slots Q (F0 m pc ls (.int i :: .ref t :: rest)) := by
  obtain ⟨hi, hs⟩ := q_ch hs
  exact va_tc hx hb hT hw.2.2 (in_of hi) rfl hd (kk _ hs)
theorem q_tlen {t N : Nat} {ty : FieldType} {f : Nat → Value} (hx : p.tables.exec = Jvm.exec) (hb : c.code = cc) (hw : IW G s h H locs) (hT : va_T ty t N f (WA G) s s.heap) (hd : decode cc pc = .ok (.arraylength, 1))
    (kk : W p l e R s m args below meth c H locs cells slots Q (F0 m (pc + 1) ls (.int (Int32.ofNat N) :: rest))) : W p l e R s m args below meth c H locs cells slots Q (F0 m pc ls (.ref t :: rest)) :=
  va_tlen hx hb hT hw.2.2 rfl hd kk
/-! the library's own -/
def MT (own : String) (index : Nat) (y : MethodName) (cc : ByteArray) : Prop := Cond.methodLink own index y ∈ TT ∧ Cond.static y ∈ TT ∧ Cond.initialized "java/lang/Math" ∈ TT ∧ Cond.code y cc 2 (some .int) ∈ TT
theorem q_min {x y : Int32} (hx : p.tables.exec = Jvm.exec) (hb : c.code = cc) (hml : c.maxLocals = nL) (hls : ls.size = nL) (hts : ∀ w ∈ TT, w.before args s = true) (hown : s.vm.findClass own = some m.cls) (hR : 1 ≤ R.frames ∧ (rest.map fun v => v.category).sum + 13 ≤ R.locals ∧ cells ≤ R.cells ∧ slots ≤ R.slots) (hM : MT own index Lib.Math.min.name Lib.Math.min.code) (hd : decode cc pc = .ok (.invokestatic index, 3))
    (kk : W p l e R s m args below meth c H locs cells slots Q (F0 m (pc + 3) ls (.int (mnI x y) :: rest))) : W p l e R s m args below meth c H locs cells slots Q (F0 m pc ls (.int y :: .int x :: rest)) :=
  va_mmin hx hb (hml.trans hls.symm) hown (hts _ hM.1) (hts _ hM.2.1) (hts _ hM.2.2.1) (hts _ hM.2.2.2) hR.1 hR.2.1 hR.2.2.1 hR.2.2.2 hd kk
theorem q_max {x y : Int32} (hx : p.tables.exec = Jvm.exec) (hb : c.code = cc) (hml : c.maxLocals = nL) (hls : ls.size = nL) (hts : ∀ w ∈ TT, w.before args s = true) (hown : s.vm.findClass own = some m.cls) (hR : 1 ≤ R.frames ∧ (rest.map fun v => v.category).sum + 13 ≤ R.locals ∧ cells ≤ R.cells ∧ slots ≤ R.slots) (hM : MT own index Lib.Math.max.name Lib.Math.max.code) (hd : decode cc pc = .ok (.invokestatic index, 3))
    (kk : W p l e R s m args below meth c H locs cells slots Q (F0 m (pc + 3) ls (.int (mxI x y) :: rest))) : W p l e R s m args below meth c H locs cells slots Q (F0 m pc ls (.int y :: .int x :: rest)) :=
  va_mmax hx hb (hml.trans hls.symm) hown (hts _ hM.1) (hts _ hM.2.1) (hts _ hM.2.2.1) (hts _ hM.2.2.2) hR.1 hR.2.1 hR.2.2.1 hR.2.2.2 hd kk
def AC (own : String) (index : Nat) : Prop := Cond.methodLink own index arraycopyName ∈ TT ∧ Cond.native arraycopyName ∈ TT ∧ Cond.static arraycopyName ∈ TT ∧ Cond.initialized "java/lang/System" ∈ TT
theorem q_acp {a b an bn : Nat} {i j k : Int32} {K : Mem → Option ρ} (hx : p.tables.exec = Jvm.exec) (hb : c.code = cc) (hml : c.maxLocals = nL) (hls : ls.size = nL) (hts : ∀ w ∈ TT, w.before args s = true) (hown : s.vm.findClass own = some m.cls) (hK : KK G s) (hw : IW G s h H locs) (ha : LAY[a]? = some (0, an)) (hbb : LAY[b]? = some (0, bn)) (hA : AC own index) (hR : 1 ≤ R.frames ∧ (rest.map fun v => v.category).sum + (nativeFrameWords "java/lang/System" "arraycopy" 5 + 11) ≤ R.locals) (hd : decode cc pc = .ok (.invokestatic index, 3)) (hs : acp h a an i b bn j k K = some r)
    (kk : ∀ (h1 : Mem) (H1 : Heap) (locs1 : List Loc), IW G s h1 H1 locs1 → K h1 = some r → W p l e R s m args below meth c H1 locs1 cells slots Q (F0 m (pc + 3) ls rest)) : W p l e R s m args below meth c H locs cells slots Q (F0 m pc ls (.int k :: .int j :: .ref (G.2.2.1 b) :: .int i :: .ref (G.2.2.1 a) :: rest)) := by
  obtain ⟨⟨h1, h2, h3, h4, h5⟩, hs⟩ := q_ch hs
  have nn : ∀ z : Int32, 0 ≤ z.toInt → ¬ z < 0 := fun z hz q => by
    have := Int32.lt_iff_toInt_lt.mp q
    simp at this
    omega
  have cl : ∀ z : Int32, z.toNatClampNeg = z.toInt.toNat := fun _ => rfl
  refine va_copyi hx hb (hml.trans hls.symm) hown (hts _ hA.1) (hts _ hA.2.1) (hts _ hA.2.2.1) (hts _ hA.2.2.2) hK hw.1 hw.2.1 hw.2.2 a b 0 0 (ws_get ha) (ws_get hbb) rfl rfl rfl (nn _ h1) (nn _ h2) (nn _ h3) (by simp only [cl]; omega) (by simp only [cl]; omega) (fun _ _ => rfl) hR.1 hR.2 hd (fun H1 locs1 hP hD hS => ?_)
  rw [ws_cpI hbb] at hP hD
  exact kk _ H1 locs1 ⟨hP, hD, hS⟩ hs
/-! calls -/
theorem q_run {st0 : List Value} {rr : Option Value} {a : Array Value} (hw : IW G s h H locs) (hr : va_Run p l e R s m args below meth c H locs cells slots 0 0 (F0 m pc ls st0) rest (Qz G h' rr a) (WA G))
    (kk : ∀ (H1 : Heap) (locs1 : List Loc), IW G s h' H1 locs1 → W p l e R s m args below meth c H1 locs1 cells slots Q (F0 m (pc + 3) ls (rr.toList ++ rest))) : W p l e R s m args below meth c H locs cells slots Q (F0 m pc ls st0) := by
  intro T hT X
  obtain ⟨v, st₀, t, T', L, h0, X', hL, e1, e2, ⟨hv, hWd, hF⟩, st⟩ := hr T hT X
  cases hv
  obtain ⟨hz, hk⟩ := hF
  rw [h0] at hz hk
  obtain ⟨t2, a1, b1⟩ := kk T'.heap (locs ++ L) ⟨by rw [e1]; exact hWd.1, hWd.2.1, Nat.le_trans hw.2.2.1 (by rw [e1]; exact hz), fun q h1 h2 => by rw [e1, hk q (Nat.lt_of_lt_of_le h1 hw.2.2.1) h2]; exact hw.2.2.2.1 q h1 h2, fun q hq => by
      rcases List.mem_append.mp hq with h | h
      · exact hw.2.2.2.2 q h
      · exact hL q h⟩ T' rfl X'
  exact ⟨t2, st t2 a1, b1⟩
theorem blind {av : List Value} : FrameBlind (va_Pc av (Wd G h)) := by
  intro a U g mk q
  obtain ⟨q0, qP, qD, qK, qS, qN⟩ := q
  exact ⟨q0, qP, qD, va_K.moved (u := U) (U := U.calling g mk a) (Vm.Alike.refl U.vm) qK, Stat.moved (u := U) (U := U.calling g mk a) (Vm.Alike.refl U.vm) qS, Nest.same (u := U) (U := U.calling g mk a) rfl qN⟩
theorem q_preV {ci z : Nat} {As : List Value} {CC : String} {T : u_T} {N : Nat} (hw : IW G s h H locs) (hK : KK G s) (hSt : Stat G s s.heap) (hN : Nest s) (hq : LAY[q]? = some (ci + 3, z)) (hc : vwCl[ci]? = some (CC, T, N)) : PreV s H CC (G.2.2.1 q) (va_Pc (.ref (G.2.2.1 q) :: As) (Wd G h)) As :=
  ⟨blind, va_recv hK hw.1 hc (ws_get hq), fun U hU hW => ⟨rfl, hw.Wd hK hSt hN hU hW⟩⟩
theorem q_preS {As : List Value} (hw : IW G s h H locs) (hK : KK G s) (hSt : Stat G s s.heap) (hN : Nest s) : PreS s H (va_Pc As (Wd G h)) As :=
  ⟨blind, fun U hU hW => ⟨rfl, hw.Wd hK hSt hN hU hW⟩⟩
variable {y : MethodName} {bytes : ByteArray} {maxL na d : Nat} {ret : Option FieldType} {As : List Value} {rr : Option Value}
theorem q_callV {ci z : Nat} {T : u_T} {N : Nat} (hx : p.tables.exec = Jvm.exec) (hb : c.code = cc) (hml : c.maxLocals = nL) (hls : ls.size = nL) (hts : ∀ w ∈ TT, w.before args s = true) (hown : s.vm.findClass own = some m.cls) (hK : KK G s) (hSt : Stat G s s.heap) (hN : Nest s) (hw : IW G s h H locs)
    (hM : Sat l G y bytes maxL ret d (.ref (G.2.2.1 q) :: As) h rr h') (hq : LAY[q]? = some (ci + 3, z)) (hc : vwCl[ci]? = some (y.cls, T, N)) (hC : CV own index y bytes maxL ret na) (hR : d + 1 ≤ R.frames ∧ 8 + (maxL + 11) + 64 * d ≤ R.locals ∧ cells ≤ R.cells ∧ slots ≤ R.slots) (hn : As.length = na) (hcat : (rest.map fun v => v.category).sum ≤ 8) {st0 : List Value} (hst : st0 = As.reverse ++ .ref (G.2.2.1 q) :: rest) {rs : List Value} (hrs : rr.toList ++ rest = rs) (hd : decode cc pc = .ok (.invokevirtual index, 3))
    (kk : ∀ (H1 : Heap) (locs1 : List Loc), IW G s h' H1 locs1 → W p l e R s m args below meth c H1 locs1 cells slots Q (F0 m (pc + 3) ls rs)) : W p l e R s m args below meth c H locs cells slots Q (F0 m pc ls st0) := by
  subst hrs
  obtain ⟨c1, c2, c3, c4, c5, c6⟩ := hC
  refine q_run hw (va_runV (As := As) (rest := rest) ⟨hx, hb, hml, hown, hts⟩ hM (cwV na hts (fun w hw => ?_) rfl rfl rfl ⟨rfl, c6⟩ ⟨hR.1, hR.2.1⟩) (q_preV hw hK hSt hN hq hc) rfl hn hls hst (lv_room hcat) hd ⟨hR.2.2.1, hR.2.2.2⟩) kk
  unfold wsV at hw
  rcases List.mem_append.mp hw with hw | hw
  · simp only [List.mem_cons, List.not_mem_nil, or_false] at hw
    rcases hw with rfl | rfl | rfl | rfl
    · exact ⟨c1, TT_good _ c1⟩
    · exact ⟨c2, TT_good _ c2⟩
    · exact ⟨c3, TT_good _ c3⟩
    · exact ⟨c4, TT_good _ c4⟩
  · exact good_code c5 w hw
theorem q_callS (hx : p.tables.exec = Jvm.exec) (hb : c.code = cc) (hml : c.maxLocals = nL) (hls : ls.size = nL) (hts : ∀ w ∈ TT, w.before args s = true) (hown : s.vm.findClass own = some m.cls) (hK : KK G s) (hSt : Stat G s s.heap) (hN : Nest s) (hw : IW G s h H locs)
    (hM : Sat l G y bytes maxL ret d As h rr h') (hC : CS own index y bytes maxL ret na) (hR : d + 1 ≤ R.frames ∧ 8 + (maxL + 11) + 64 * d ≤ R.locals ∧ cells ≤ R.cells ∧ slots ≤ R.slots) (hn : As.length = na) (hcat : (rest.map fun v => v.category).sum ≤ 8) {st0 : List Value} (hst : st0 = As.reverse ++ rest) {rs : List Value} (hrs : rr.toList ++ rest = rs) (hd : decode cc pc = .ok (.invokestatic index, 3))
    (kk : ∀ (H1 : Heap) (locs1 : List Loc), IW G s h' H1 locs1 → W p l e R s m args below meth c H1 locs1 cells slots Q (F0 m (pc + 3) ls rs)) : W p l e R s m args below meth c H locs cells slots Q (F0 m pc ls st0) := by
  subst hrs
  obtain ⟨c1, c2, c3, c4, c5⟩ := hC
  refine q_run hw (va_runS (As := As) (rest := rest) ⟨hx, hb, hml, hown, hts⟩ hM (va_cwS na hts (fun w hw => ?_) rfl rfl rfl c5 ⟨hR.1, hR.2.1⟩) (q_preS hw hK hSt hN) rfl hn hls hst (lv_room hcat) hd ⟨hR.2.2.1, hR.2.2.2⟩) kk
  unfold va_wsS at hw
  rcases List.mem_append.mp hw with hw | hw
  · simp only [List.mem_cons, List.not_mem_nil, or_false] at hw
    rcases hw with rfl | rfl | rfl
    · exact ⟨c1, TT_good _ c1⟩
    · exact ⟨c2, TT_good _ c2⟩
    · exact ⟨c3, TT_good _ c3⟩
  · exact good_code c4 w hw
theorem q_callN (hx : p.tables.exec = Jvm.exec) (hb : c.code = cc) (hml : c.maxLocals = nL) (hls : ls.size = nL) (hts : ∀ w ∈ TT, w.before args s = true) (hown : s.vm.findClass own = some m.cls) (hK : KK G s) (hSt : Stat G s s.heap) (hN : Nest s) (hw : IW G s h H locs)
    (hM : Sat l G y bytes maxL ret d As h rr h') (hC : CN own index y bytes maxL ret na) (hR : d + 1 ≤ R.frames ∧ 8 + (maxL + 11) + 64 * d ≤ R.locals ∧ cells ≤ R.cells ∧ slots ≤ R.slots) (hn : As.length = na) (hcat : (rest.map fun v => v.category).sum ≤ 8) {st0 : List Value} (hst : st0 = As.reverse ++ rest) {rs : List Value} (hrs : rr.toList ++ rest = rs) (hd : decode cc pc = .ok (.invokestatic index, 3))
    (kk : ∀ (H1 : Heap) (locs1 : List Loc), IW G s h' H1 locs1 → W p l e R s m args below meth c H1 locs1 cells slots Q (F0 m (pc + 3) ls rs)) : W p l e R s m args below meth c H locs cells slots Q (F0 m pc ls st0) := by
  subst hrs
  obtain ⟨⟨host, c1⟩, c2, c3, c4, c5⟩ := hC
  exact q_run hw (va_runSN (As := As) (rest := rest) ⟨hx, hb, hml, hown, hts⟩ hM ⟨va_cnB na hts (good_code c4) rfl rfl rfl (hN _ c1) (hts _ c3) c5 ⟨hR.1, hR.2.1⟩, hts _ c2, trivial⟩ (q_preS hw hK hSt hN) rfl hn hls hst (lv_room hcat) hd ⟨hR.2.2.1, hR.2.2.2⟩) kk
/-! switches -/
theorem q_tout {dflt lo hi : Int} {offs : Array Int} {len : Nat} {x : Int32} {tgt : Nat} (hx : p.tables.exec = Jvm.exec) (hb : c.code = cc) (hdg : decode cc pc = .ok (.tableswitch dflt lo hi offs, len)) (h : x.toInt < lo ∨ hi < x.toInt) (ht : (pc : Int) + dflt = (tgt : Int))
    (k : W p l e R s m args below meth c H locs cells slots Q (F0 m tgt ls rest)) : W p l e R s m args below meth c H locs cells slots Q (F0 m pc ls (.int x :: rest)) := lv_tableOut hx hb hdg h ht k
end ROWS
theorem toInt_ne {x : Int32} {z : Int} (h : ¬ x = iI z) : ¬ x.toInt = z := fun q => h (by rw [← q]; exact (Int32.ofInt_toInt ..).symm)
