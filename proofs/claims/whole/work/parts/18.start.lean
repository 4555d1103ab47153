/-! THE CLAIM OUT OF ONE WALK OF THE LAW'S BODY. Your part is whole_start (and what it stands on); all else here is the same for every law, but numbers. -/
def R_law : String := "TurnedBeamLaw"
def lw_P (b : Addr) (xs : List Int32) (args : Array Value) (s : State) : Prop := args = #[.ref b] ∧ s.IntsAt b xs ∧ xs.length ≤ 3072 ∧ (Jvm.Cond.and given_1 narrow_1).before args s = true
def lw_Q (_ : Array Value) (s : State) (o : Outcome) (t : State) : Prop := o = .returned (some (.int 1)) ∧ Framed s o t [] 600000 7302249
def lw_Z (below : List Frame) (a : Array Value) (s : State) : State → Prop := fun t => ∃ o, t.status = .running ∧ Ended t below o ∧ lw_Q a s o t
/-- the law's own end, with 1 on the stack, nothing written that was there before, its room as the claim has it -/
theorem lw_ret {p : Program} {l : Launch} {e : Env} {s : State} {m : MethodId} {below : List Frame} {meth : Method} {c : Code} {b : Nat} (hx : p.tables.exec = Jvm.exec) (hb : c.code = code) (hr : meth.sig.returnType = ret) (hlocks : meth.locks = false) {pc : Nat} {H : Heap} {ls : Array Slot} (hdg : decode code pc = .ok (.ireturn, 1)) : W p l e room_1 s m #[Value.ref b] below meth c H [] 600000 7302249 (lw_Z below #[Value.ref b] s) (F0 m pc ls [.int 1]) := by
  intro T hT X
  obtain ⟨fs, hret, hrun, hended, hW, hframe⟩ := X.leave (v := some (.int 1)) (hlocks := hlocks) (fun h => by rw [hr] at h; cases h)
  have hmeth' : T.vm.method? m = some meth := X.method'
  refine ⟨T.setFrames fs, ?_, .returned (some (.int 1)), hrun, hended, rfl, ⟨_, rfl⟩, hW, hframe⟩
  jvm_step X.here [X.here.top, hx, hb, hdg, hmeth', hr, ret, narrow_b1]
  (try refine ⟨rfl, ?_⟩); (try refine ⟨rfl, ?_⟩)
  first | (intro acts; rw [hret _ acts rfl rfl rfl]) | rw [hret _ _ rfl rfl rfl]
  exact Steps.refl _
/-- what holds at the law's entry: the machine, the code, the tables' words (any of lw_tbl by 'hts w (by decide +kernel)'), the script of L ints xs at the cell b, what the Statement gives of the start (any of its parts by flat_of_before) -/
def lw_At (p : Program) (s : State) (m : MethodId) (meth : Method) (c : Code) (b L : Nat) (xs : Nat → Int32) : Prop :=
  p.tables.exec = Jvm.exec ∧ c.code = code ∧ meth.sig.returnType = ret ∧ c.maxLocals = 4 ∧ s.vm.findClass R_law = some m.cls ∧ (∀ w ∈ lw_tbl, w.before #[Value.ref b] s = true) ∧ va_X b L xs s s.heap ∧ b < s.heap.size ∧ meth.locks = false ∧ (Jvm.Cond.and given_1 narrow_1).before #[Value.ref b] s = true
theorem st_ABOVE (G : GG) {s : State} {b : Nat} (hgv : (Jvm.Cond.and given_1 narrow_1).before #[Value.ref b] s = true) (hts : ∀ w ∈ lw_tbl, w.before #[Value.ref b] s = true) {A : Nat → Prop} (hA : ∀ a : Nat, a < s.heap.size → ¬ A a) : ∃ t : Nat, va_Z "TurnedBeam$Hall" "ABOVE" "[I" (.ref t) A s s.heap ∧ va_T .int t 7 (fun j => .int (tabA j)) A s s.heap := by
  have hs := flat_of_before _ hgv
  obtain ⟨t, h1, h2⟩ := va_Tof (tm := (Term.static "TurnedBeam$Hall" "ABOVE" "[I")) (ty := .int) (N := 7) (f := fun j => .int (tabA j)) (A := A) (by decide) (hs (.arrayOf (Term.static "TurnedBeam$Hall" "ABOVE" "[I") .int) (by decide +kernel)) (va_eqt (hs (.eq (.length (Term.static "TurnedBeam$Hall" "ABOVE" "[I")) (.int (Int32.ofNat 7))) (by decide +kernel))) (fun j hj => va_eqt (hs _ ((show ∀ j, j < 7 → Cond.eq (.elem (Term.static "TurnedBeam$Hall" "ABOVE" "[I") (.int (Int32.ofNat j))) (.int (tabA j)) ∈ flatC (Jvm.Cond.and given_1 narrow_1) by decide +kernel) j hj))) hA
  exact ⟨t, va_Zref (hts (.laysStatic "TurnedBeam$Hall" "ABOVE" "[I") (List.mem_of_getElem? (i := 628) (by decide +kernel))) (hts (.initialized "TurnedBeam$Hall") (List.mem_of_getElem? (i := 100) (by decide +kernel))) h1 hA, h2⟩
theorem st_NAMES (G : GG) {s : State} {b : Nat} (hgv : (Jvm.Cond.and given_1 narrow_1).before #[Value.ref b] s = true) (hts : ∀ w ∈ lw_tbl, w.before #[Value.ref b] s = true) {A : Nat → Prop} (hA : ∀ a : Nat, a < s.heap.size → ¬ A a) : ∃ t : Nat, va_Z "TurnedBeam$Reader" "NAMES" "[C" (.ref t) A s s.heap ∧ va_T .char t 6 (fun j => .int (tabN j)) A s s.heap := by
  have hs := flat_of_before _ hgv
  obtain ⟨t, h1, h2⟩ := va_Tof (tm := (Term.static "TurnedBeam$Reader" "NAMES" "[C")) (ty := .char) (N := 6) (f := fun j => .int (tabN j)) (A := A) (by decide) (hs (.arrayOf (Term.static "TurnedBeam$Reader" "NAMES" "[C") .char) (by decide +kernel)) (va_eqt (hs (.eq (.length (Term.static "TurnedBeam$Reader" "NAMES" "[C")) (.int (Int32.ofNat 6))) (by decide +kernel))) (fun j hj => va_eqt (hs _ ((show ∀ j, j < 6 → Cond.eq (.elem (Term.static "TurnedBeam$Reader" "NAMES" "[C") (.int (Int32.ofNat j))) (.int (tabN j)) ∈ flatC (Jvm.Cond.and given_1 narrow_1) by decide +kernel) j hj))) hA
  exact ⟨t, va_Zref (hts (.laysStatic "TurnedBeam$Reader" "NAMES" "[C") (List.mem_of_getElem? (i := 821) (by decide +kernel))) (hts (.initialized "TurnedBeam$Reader") (List.mem_of_getElem? (i := 103) (by decide +kernel))) h1 hA, h2⟩
theorem st_BODIES (G : GG) {s : State} {b : Nat} (hgv : (Jvm.Cond.and given_1 narrow_1).before #[Value.ref b] s = true) (hts : ∀ w ∈ lw_tbl, w.before #[Value.ref b] s = true) {A : Nat → Prop} (hA : ∀ a : Nat, a < s.heap.size → ¬ A a) : ∃ t : Nat, va_Z "TurnedBeam$Voice" "BODIES" "[I" (.ref t) A s s.heap ∧ va_T .int t 28 (fun j => .int (tabB j)) A s s.heap := by
  have hs := flat_of_before _ hgv
  obtain ⟨t, h1, h2⟩ := va_Tof (tm := (Term.static "TurnedBeam$Voice" "BODIES" "[I")) (ty := .int) (N := 28) (f := fun j => .int (tabB j)) (A := A) (by decide) (hs (.arrayOf (Term.static "TurnedBeam$Voice" "BODIES" "[I") .int) (by decide +kernel)) (va_eqt (hs (.eq (.length (Term.static "TurnedBeam$Voice" "BODIES" "[I")) (.int (Int32.ofNat 28))) (by decide +kernel))) (fun j hj => va_eqt (hs _ ((show ∀ j, j < 28 → Cond.eq (.elem (Term.static "TurnedBeam$Voice" "BODIES" "[I") (.int (Int32.ofNat j))) (.int (tabB j)) ∈ flatC (Jvm.Cond.and given_1 narrow_1) by decide +kernel) j hj))) hA
  exact ⟨t, va_Zref (hts (.laysStatic "TurnedBeam$Voice" "BODIES" "[I") (List.mem_of_getElem? (i := 1034) (by decide +kernel))) (hts (.initialized "TurnedBeam$Voice") (List.mem_of_getElem? (i := 104) (by decide +kernel))) h1 hA, h2⟩
theorem nest_in : ∀ q ∈ NW, Cond.methodLinkNest q.1 q.2.1 q.2.2.1 q.2.2.2 ∈ lw_tbl := by decide +kernel
theorem known_all {s : State} {b : Nat} (hts : ∀ w ∈ lw_tbl, w.before #[Value.ref b] s = true) : ∃ D : va_G, ∀ (k : Nat) (q : vw_C), vwCl[k]? = some q → u_Kn s q.1 q.2.1 q.2.2 (D.1 k) (D.2 k) := by
  obtain ⟨c0, i0, k0⟩ := u_known (C := RX0) (T := TX0) (N := 8) (n := 8) hts (fun w hw => (List.mem_filter.mp (inX0 w hw)).1) (hts (.instantiable RX0 8) (List.mem_of_getElem? (i := 239) (by decide +kernel)))
  obtain ⟨c1, i1, k1⟩ := u_known (C := RX1) (T := TX1) (N := 11) (n := 11) hts (fun w hw => (List.mem_filter.mp (inX1 w hw)).1) (hts (.instantiable RX1 11) (List.mem_of_getElem? (i := 411) (by decide +kernel)))
  obtain ⟨c2, i2, k2⟩ := u_known (C := RX2) (T := TX2) (N := 10) (n := 10) hts (fun w hw => (List.mem_filter.mp (inX2 w hw)).1) (hts (.instantiable RX2 10) (List.mem_of_getElem? (i := 331) (by decide +kernel)))
  obtain ⟨c3, i3, k3⟩ := u_known (C := RX3) (T := TX3) (N := 7) (n := 7) hts (fun w hw => (List.mem_filter.mp (inX3 w hw)).1) (hts (.instantiable RX3 7) (List.mem_of_getElem? (i := 129) (by decide +kernel)))
  obtain ⟨c4, i4, k4⟩ := u_known (C := RX4) (T := TX4) (N := 7) (n := 7) hts (fun w hw => (List.mem_filter.mp (inX4 w hw)).1) (hts (.instantiable RX4 7) (List.mem_of_getElem? (i := 376) (by decide +kernel)))
  obtain ⟨c5, i5, k5⟩ := u_known (C := RX5) (T := TX5) (N := 4) (n := 4) hts (fun w hw => (List.mem_filter.mp (inX5 w hw)).1) (hts (.instantiable RX5 4) (List.mem_of_getElem? (i := 178) (by decide +kernel)))
  obtain ⟨c6, i6, k6⟩ := u_known (C := RX6) (T := TX6) (N := 7) (n := 7) hts (fun w hw => (List.mem_filter.mp (inX6 w hw)).1) (hts (.instantiable RX6 7) (List.mem_of_getElem? (i := 277) (by decide +kernel)))
  obtain ⟨c7, i7, k7⟩ := u_known (C := RX7) (T := TX7) (N := 3) (n := 3) hts (fun w hw => (List.mem_filter.mp (inX7 w hw)).1) (hts (.instantiable RX7 3) (List.mem_of_getElem? (i := 458) (by decide +kernel)))
  obtain ⟨c8, i8, k8⟩ := u_known (C := RX8) (T := TX8) (N := 5) (n := 5) hts (fun w hw => (List.mem_filter.mp (inX8 w hw)).1) (hts (.instantiable RX8 5) (List.mem_of_getElem? (i := 307) (by decide +kernel)))
  obtain ⟨c9, i9, k9⟩ := u_known (C := RX9) (T := TX9) (N := 10) (n := 10) hts (fun w hw => (List.mem_filter.mp (inX9 w hw)).1) (hts (.instantiable RX9 10) (List.mem_of_getElem? (i := 123) (by decide +kernel)))
  obtain ⟨c10, i10, k10⟩ := u_known (C := RX10) (T := TX10) (N := 12) (n := 12) hts (fun w hw => (List.mem_filter.mp (inX10 w hw)).1) (hts (.instantiable RX10 12) (List.mem_of_getElem? (i := 115) (by decide +kernel)))
  obtain ⟨c11, i11, k11⟩ := u_known (C := RX11) (T := TX11) (N := 44) (n := 44) hts (fun w hw => (List.mem_filter.mp (inX11 w hw)).1) (hts (.instantiable RX11 44) (List.mem_of_getElem? (i := 1147) (by decide +kernel)))
  refine ⟨(fun k => if k = 0 then c0 else if k = 1 then c1 else if k = 2 then c2 else if k = 3 then c3 else if k = 4 then c4 else if k = 5 then c5 else if k = 6 then c6 else if k = 7 then c7 else if k = 8 then c8 else if k = 9 then c9 else if k = 10 then c10 else c11, fun k => if k = 0 then i0 else if k = 1 then i1 else if k = 2 then i2 else if k = 3 then i3 else if k = 4 then i4 else if k = 5 then i5 else if k = 6 then i6 else if k = 7 then i7 else if k = 8 then i8 else if k = 9 then i9 else if k = 10 then i10 else i11), ?_⟩
  intro k q hq
  match k, hq with
  | 0, hq => cases hq; exact k0
  | 1, hq => cases hq; exact k1
  | 2, hq => cases hq; exact k2
  | 3, hq => cases hq; exact k3
  | 4, hq => cases hq; exact k4
  | 5, hq => cases hq; exact k5
  | 6, hq => cases hq; exact k6
  | 7, hq => cases hq; exact k7
  | 8, hq => cases hq; exact k8
  | 9, hq => cases hq; exact k9
  | 10, hq => cases hq; exact k10
  | 11, hq => cases hq; exact k11
  | k + 12, hq => simp [vwCl] at hq
theorem arr_known {s : State} {args : Array Value} {ty : FieldType} (hp : ∀ n, ty ≠ .object n) (h : (Cond.arrayClass ty).before args s = true) (hr : refKind ty = false) : ∃ cA, ArrOfT s cA ty ∧ va_RA s cA ty := by
  obtain ⟨c, k, comp, h1, h2, h3⟩ := Cond.arrayClass_spec h
  refine ⟨c, fun n z => ⟨fun k h => (by cases h), k, h2, comp, h3⟩, ?_⟩
  cases ty <;> first | exact h1 | exact absurd rfl (hp _)
theorem arrq_known {s : State} {args : Array Value} {C : String} (h : (Cond.arrayOver (.object C)).before args s = true) : ∃ cA, ArrOfT s cA (.object C) ∧ va_RA s cA (.object C) := by
  obtain ⟨comp, c, k, f1, f0, f2, f3, f4⟩ := Cond.arrayOver_spec h
  exact ⟨c, fun N z => ⟨(fun k h => by cases h), k, f2, comp, f3⟩, k, comp, f2, f3, f1, f4⟩
def mem0 : Mem := (fun _ _ => 0, fun _ _ => 0)
def asg0 : Asg := fun _ _ => false
/-- the memory that the constructors leave -/
def hInit : Mem := m_X11 (m_X10 mem0)
def aFin : Asg := s_X11 (s_X10 asg0)
def okAt (a : Asg) : Bool := (List.range 89).all fun q => match LAY[q]? with
  | some (c + 3, _) => (List.range (FTab c).length).all fun k => match (FTab c)[k]? with
    | some (_ + 2) => a q k
    | _ => true
  | _ => true
theorem okFin : okAt aFin = true := by decide +kernel
theorem okFin_at {a : Asg} (h : okAt a = true) {q c z k d : Nat} (hq : LAY[q]? = some (c + 3, z)) (hk : (FTab c)[k]? = some (d + 2)) : a q k = true := by
  have hl : q < LAY.length := (List.getElem?_eq_some_iff.mp hq).1
  rw [lay_len] at hl
  have h1 := List.all_eq_true.mp h q (List.mem_range.mpr hl)
  rw [hq] at h1
  have hkl := (List.getElem?_eq_some_iff.mp hk).1
  have h2 := List.all_eq_true.mp h1 k (List.mem_range.mpr hkl)
  rw [hk] at h2
  exact h2
theorem fldsP_full {ad : Nat → Nat} {h : Mem} {a : Asg} {q : Nat} : ∀ (l : List Nat) (n : Nat), (∀ k d, l[k]? = some (d + 2) → a q (n + k) = true) → fldsP ad h a q n l = flds ad h q n l
  | [], _, _ => rfl
  | c :: l, n, ha => by
    show fvP ad h a q n c :: fldsP ad h a q (n + 1) l = fv ad h q n c :: flds ad h q (n + 1) l
    rw [fldsP_full l (n + 1) (fun k d hk => by rw [show n + 1 + k = n + (k + 1) by omega]; exact ha (k + 1) d hk)]
    congr 1
    match c, ha with
    | 0, _ => rfl
    | 1, _ => rfl
    | d + 2, ha => exact if_pos (ha 0 d rfl)
theorem lay_28 {k n : Nat} (h : LAY[k]? = some (2, n)) : k = 28 ∧ n = 4 := by
  have hl : k < LAY.length := (List.getElem?_eq_some_iff.mp h).1
  rw [lay_len] at hl
  have h1 := (show ∀ k, k < 89 → ∀ s ∈ LAY[k]?, s.1 = 2 → k = 28 ∧ s.2 = 4 by decide +kernel) k hl _ h rfl
  exact h1
theorem fin_world {G : GG} {h : Mem} {a : Asg} {H : Heap} (hok : okAt a = true) (hsh : ∀ j, j < 4 → a 28 j = true) (hP : va_P G.1 vwCl (wsP G h a 89) H) : va_P G.1 vwCl (wsOf G h) H := by
  intro k q hk
  unfold wsOf at hk
  rw [wsA_get, Nat.zero_add] at hk
  cases hs : LAY[k]? with
  | none => rw [hs] at hk; cases hk
  | some s =>
    rw [hs] at hk
    cases hk
    have hl : k < LAY.length := (List.getElem?_eq_some_iff.mp hs).1
    rw [lay_len] at hl
    have h1 := hP k _ (wsP_get (G := G) (h := h) (a := a) hs hl)
    obtain ⟨t, n⟩ := s
    match t, hs with
    | 0, hs => exact h1
    | 1, hs => exact h1
    | 2, hs =>
      obtain ⟨rfl, rfl⟩ := lay_28 hs
      have h2 : H[G.2.2.1 28]? = some (vp_cell G.2.1.2.2 (4, .inr (.inr (.inr (.inr (shP G.2.2.1 a 28)))))) := h1
      show H[G.2.2.1 28]? = some (vp_cell G.2.1.2.2 (4, .inr (.inr (.inr (.inr (shc G.2.2.1))))))
      rw [h2, vp_cell_q, vp_cell_q]
      have e : (Array.ofFn (n := 4) fun j => va_rf (shP G.2.2.1 a 28 j.val)) = Array.ofFn (n := 4) fun j => va_rf (shc G.2.2.1 j.val) := by
        congr 1
        funext j
        show va_rf (if a 28 j.val = true then _ else none) = _
        rw [if_pos (hsh j.val j.isLt)]
        rfl
      exact congrArg (fun x : Array Value => some ({ cls := G.2.1.2.2, slots := x, vm := .none } : Cell)) e
    | c + 3, hs =>
      have e : enP G h a k (c + 3, n) = en G h k (c + 3, n) := congrArg (fun l => Sum.inr (c, l)) (fldsP_full (FTab c) 0 (fun j d hj => by rw [Nat.zero_add]; exact okFin_at hok hs hj))
      rw [e] at h1
      exact h1
theorem fin_apart {G : GG} {h : Mem} {B : Nat} (hG : ∀ j, G.2.2.1 j = B + j) : va_D (WA G) (wsOf G h) := by
  have key : ∀ (k : Nat) (q : Nat × va_E), (wsOf G h)[k]? = some q → k < 89 ∧ q.1 = B + k := by
    intro k q hk
    unfold wsOf at hk
    rw [wsA_get, Nat.zero_add] at hk
    cases hs : LAY[k]? with
    | none => rw [hs] at hk; cases hk
    | some s =>
      rw [hs] at hk
      cases hk
      have hl : k < LAY.length := (List.getElem?_eq_some_iff.mp hs).1
      rw [lay_len] at hl
      exact ⟨hl, hG k⟩
  refine ⟨fun i j x y hi hj hxy => ?_, fun k q hk => ?_⟩
  · have h1 := (key i x hi).2
    have h2 := (key j y hj).2
    omega
  · exact ⟨k, (key k q hk).1, by rw [hG]; exact (key k q hk).2⟩
theorem cnew_L_7 : CNEW RL 7 10 12 := ⟨_, _, _, rfl, inX10, tyX10_ok, (fun j hj => by rcases (show j = 0 ∨ j = 1 ∨ j = 2 ∨ j = 3 ∨ j = 4 ∨ j = 5 ∨ j = 6 ∨ j = 7 ∨ j = 8 ∨ j = 9 ∨ j = 10 ∨ j = 11 by omega) with rfl | rfl | rfl | rfl | rfl | rfl | rfl | rfl | rfl | rfl | rfl | rfl <;> rfl), TT_mem 114 (by decide +kernel) (by decide +kernel), TT_mem 115 (by decide +kernel) (by decide +kernel), TT_mem 98 (by decide +kernel) (by decide +kernel)⟩
theorem cnew_L_10 : CNEW RL 10 11 44 := ⟨_, _, _, rfl, inX11, tyX11_ok, (fun j hj => by rcases (show j = 0 ∨ j = 1 ∨ j = 2 ∨ j = 3 ∨ j = 4 ∨ j = 5 ∨ j = 6 ∨ j = 7 ∨ j = 8 ∨ j = 9 ∨ j = 10 ∨ j = 11 ∨ j = 12 ∨ j = 13 ∨ j = 14 ∨ j = 15 ∨ j = 16 ∨ j = 17 ∨ j = 18 ∨ j = 19 ∨ j = 20 ∨ j = 21 ∨ j = 22 ∨ j = 23 ∨ j = 24 ∨ j = 25 ∨ j = 26 ∨ j = 27 ∨ j = 28 ∨ j = 29 ∨ j = 30 ∨ j = 31 ∨ j = 32 ∨ j = 33 ∨ j = 34 ∨ j = 35 ∨ j = 36 ∨ j = 37 ∨ j = 38 ∨ j = 39 ∨ j = 40 ∨ j = 41 ∨ j = 42 ∨ j = 43 by omega) with rfl | rfl | rfl | rfl | rfl | rfl | rfl | rfl | rfl | rfl | rfl | rfl | rfl | rfl | rfl | rfl | rfl | rfl | rfl | rfl | rfl | rfl | rfl | rfl | rfl | rfl | rfl | rfl | rfl | rfl | rfl | rfl | rfl | rfl | rfl | rfl | rfl | rfl | rfl | rfl | rfl | rfl | rfl | rfl <;> rfl), TT_mem 1146 (by decide +kernel) (by decide +kernel), TT_mem 1147 (by decide +kernel) (by decide +kernel), TT_mem 109 (by decide +kernel) (by decide +kernel)⟩
theorem cc_L_9 : CC RL 9 yX10_init cX10_init 2 0 := ⟨Or.inr (TT_mem 116 (by decide +kernel) (by decide +kernel)), TT_mem 117 (by decide +kernel) (by decide +kernel), TT_mem 98 (by decide +kernel) (by decide +kernel), TT_mem 118 (by decide +kernel) (by decide +kernel), rfl, (by decide +kernel), (by decide +kernel), (by decide +kernel)⟩
theorem cc_L_12 : CC RL 12 yX11_init cX11_init 1 0 := ⟨Or.inr (TT_mem 1148 (by decide +kernel) (by decide +kernel)), TT_mem 1149 (by decide +kernel) (by decide +kernel), TT_mem 109 (by decide +kernel) (by decide +kernel), TT_mem 1150 (by decide +kernel) (by decide +kernel), rfl, (by decide +kernel), (by decide +kernel), (by decide +kernel)⟩
theorem iI_lits : (0 : Int32) = iI 0 := by decide
set_option maxHeartbeats 40000000 in
set_option maxRecDepth 100000 in
/-- THE LAW from its entry, once its meaning is known to answer 1 -/
theorem start_of {p : Program} {e : Env} {s : State} {m : MethodId} {below : List Frame} {meth : Method} {c : Code} (l : Launch) {b L : Nat} {xs : Nat → Int32} (C0 : lw_At p s m meth c b L xs) (hlaw : f_law xs L hInit = some (iI 1)) : W p l e room_1 s m #[Value.ref b] below meth c s.heap [] 0 0 (lw_Z below #[Value.ref b] s) (entryFrame m ([Value.ref b] : List Value).toArray 4) := by
  obtain ⟨hx, hb, hr, hml, hown, htsl, hX, hbl, hlocks, hgv⟩ := id C0
  obtain ⟨B, hB⟩ : ∃ B : Nat, B = s.heap.size := ⟨_, rfl⟩
  have hts := TT_hts htsl
  obtain ⟨D, hD0⟩ := known_all htsl
  obtain ⟨cI, hI1, hI2⟩ := arr_known (ty := .int) (fun n h => by cases h) (htsl _ (List.mem_filter.mp ar_int).1) rfl
  obtain ⟨cJ, hJ1, hJ2⟩ := arr_known (ty := .long) (fun n h => by cases h) (htsl _ (List.mem_filter.mp ar_long).1) rfl
  have hover : (Cond.arrayOver (.object "TurnedBeam$Sheet")).before #[Value.ref b] s = true := htsl _ (List.mem_of_getElem? (i := 237) (by decide +kernel))
  obtain ⟨cS, hS1, hS2⟩ := arrq_known hover
  have hAB : ∀ a : Nat, a < s.heap.size → ¬ (fun q : Nat => ∃ k, k < 89 ∧ q = B + k) a := fun a ha ⟨k, _, hk⟩ => by omega
  obtain ⟨t0, z0, z1⟩ := st_ABOVE (D, (cI, cJ, cS), (fun j => B + j), (0, 0, 0)) hgv htsl hAB
  obtain ⟨t1, z2, z3⟩ := st_NAMES (D, (cI, cJ, cS), (fun j => B + j), (0, 0, 0)) hgv htsl hAB
  obtain ⟨t2, z4, z5⟩ := st_BODIES (D, (cI, cJ, cS), (fun j => B + j), (0, 0, 0)) hgv htsl hAB
  obtain ⟨G, eG⟩ : ∃ G : GG, G = (D, (cI, cJ, cS), (fun j => B + j), (t0, t1, t2)) := ⟨_, rfl⟩
  have hG : ∀ j, G.2.2.1 j = B + j := fun j => by rw [eG]
  have hSt : Stat G s s.heap := by rw [eG]; exact ⟨⟨z0, z1⟩, ⟨z2, z3⟩, ⟨z4, z5⟩⟩
  have hK : KK G s := by
    rw [eG]
    refine ⟨hD0, fun k q hq => ?_⟩
    match k, hq with
    | 0, hq => cases hq; exact ⟨hI1, hI2⟩
    | 1, hq => cases hq; exact ⟨hJ1, hJ2⟩
    | 2, hq => cases hq; exact ⟨hS1, hS2⟩
    | k + 3, hq => simp at hq
  have hN : Nest s := fun q hq => va_Nw.of rfl (htsl _ (nest_in q hq))
  have hNA : NestA s := ⟨hN, va_AO.of hover⟩
  have hw : CI G B s mem0 asg0 0 s.heap [] := ⟨fun k q h => by simp [wsP, wsPA] at h, ⟨fun i j p q h => by simp [wsP, wsPA] at h, fun k q h => by simp [wsP, wsPA] at h⟩, va_S.rf, by omega, fun q _ k => ⟨rfl, rfl, rfl⟩⟩
  have hl := lv_entry ([.ref b]) (n := 4) (Nat.le_of_ble_eq_true rfl)
  rw [lg_entry_eq]
  generalize (lg_sl ([.ref b]) ++ List.replicate (4 - (lg_sl ([.ref b])).length) Slot.unset).toArray = ls at hl ⊢
  have hl : lv_has ls 4 [(0, .ref b)] := hl
  have hown : s.vm.findClass RL = some m.cls := hown
  refine c_new (pc := 0) (len := 0) hG hx hb hts hown hK hw rfl cnew_L_7 (Nat.le_of_ble_eq_true rfl) (Nat.le_of_ble_eq_true rfl) dL_law_0 (fun H hw => ?_)
  refine lv_dup (pc := 3) hx hb dL_law_3 rfl ?_
  refine c_call (pc := 4) (As := []) (rest := [.ref (G.2.2.1 0)]) hx hb hml hl.1 hts hown hK hNA hw (ci_X10 l G B hG _ _) cc_L_9 ⟨Nat.le_of_ble_eq_true rfl, Nat.le_of_ble_eq_true rfl, Nat.le_of_ble_eq_true rfl, Nat.le_of_ble_eq_true rfl⟩ rfl (Nat.le_of_ble_eq_true rfl) rfl dL_law_4 (fun H locs hw => ?_)
  refine lv_astore_n (pc := 7) (lv' := [(1, .ref (G.2.2.1 0)), (0, .ref b)]) hx hb dL_law_7 rfl hl (by decide) rfl (fun ls hl => ?_)
  refine c_new (pc := 8) (len := 72) hG hx hb hts hown hK hw rfl cnew_L_10 (Nat.le_of_ble_eq_true rfl) (Nat.le_of_ble_eq_true rfl) dL_law_8 (fun H hw => ?_)
  refine lv_dup (pc := 11) hx hb dL_law_11 rfl ?_
  refine c_call (pc := 12) (As := []) (rest := [.ref (G.2.2.1 72)]) hx hb hml hl.1 hts hown hK hNA hw (ci_X11 l G B hG _ _) cc_L_12 ⟨Nat.le_of_ble_eq_true rfl, Nat.le_of_ble_eq_true rfl, Nat.le_of_ble_eq_true rfl, Nat.le_of_ble_eq_true rfl⟩ rfl (Nat.le_of_ble_eq_true rfl) rfl dL_law_12 (fun H locs hw => ?_)
  refine lv_astore_n (pc := 15) (lv' := [(2, .ref (G.2.2.1 72)), (1, .ref (G.2.2.1 0)), (0, .ref b)]) hx hb dL_law_15 rfl hl (by decide) rfl (fun ls hl => ?_)
  refine lv_iconst (pc := 16) (v := iI 0) hx hb dL_law_16 rfl ?_
  refine lv_istore_n (pc := 17) (lv' := [(3, .int (iI 0)), (2, .ref (G.2.2.1 72)), (1, .ref (G.2.2.1 0)), (0, .ref b)]) hx hb dL_law_17 rfl hl (by decide) rfl (fun ls hl => ?_)
  obtain ⟨hP, hD, hS, hsz, hZ⟩ := hw
  refine va_forget (fun q hq => by rw [← hB]; exact hS.2.2 q hq) ?_
  have hiw : IW G s hInit H [] := ⟨fin_world okFin (by decide) hP, fin_apart hG, hS.1, fun q h1 h2 => hS.2.1 q h1 (by show ¬ B ≤ q; omega), fun l h => by cases h⟩
  refine W.widen (k := 600000) (n := 7302249) (Nat.le_of_ble_eq_true rfl) (Nat.le_of_ble_eq_true rfl) ?_
  refine c_law (Nat.le_refl _) (Nat.le_refl _) hx hb hml hown hts hK hSt hN hX hbl (fun ⟨k, _, hk⟩ => by rw [hG] at hk; omega) (fun pc ls H locs h1 hd hw => ?_) hInit hlaw H [] hiw ls (lv_sub hl [3, 2, 1, 0] rfl)
  refine va_forget (fun q hq => ?_) (lw_ret hx hb hr hlocks hd)
  obtain ⟨k, _, hk⟩ := hw.2.2.2.2 q hq
  rw [hk, hG]
  omega
