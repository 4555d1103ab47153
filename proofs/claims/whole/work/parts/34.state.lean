/-! the state of the whole, without memory -/
abbrev WH : Type := Nat × Nat × (Nat → Nat) × (Nat → Nat) × (Nat → Bool) × (Nat → Nat) × (Nat → Nat) × Int × Nat × Int32 × List Int32 × List Int32 × (Nat → List Int32) × (Nat → Option (List Int32))
abbrev WH.R (s : WH) : Nat := s.1
abbrev WH.C (s : WH) : Nat := s.2.1
abbrev WH.K (s : WH) : Nat → Nat := s.2.2.1
abbrev WH.M (s : WH) : Nat → Nat := s.2.2.2.1
abbrev WH.S (s : WH) : Nat → Bool := s.2.2.2.2.1
abbrev WH.T (s : WH) : Nat → Nat := s.2.2.2.2.2.1
abbrev WH.L (s : WH) : Nat → Nat := s.2.2.2.2.2.2.1
abbrev WH.tak (s : WH) : Int := s.2.2.2.2.2.2.2.1
abbrev WH.day (s : WH) : Nat := s.2.2.2.2.2.2.2.2.1
abbrev WH.z (s : WH) : Int32 := s.2.2.2.2.2.2.2.2.2.1
abbrev WH.tape (s : WH) : List Int32 := s.2.2.2.2.2.2.2.2.2.2.1
abbrev WH.waits (s : WH) : List Int32 := s.2.2.2.2.2.2.2.2.2.2.2.1
abbrev WH.code (s : WH) : Nat → List Int32 := s.2.2.2.2.2.2.2.2.2.2.2.2.1
abbrev WH.text (s : WH) : Nat → Option (List Int32) := s.2.2.2.2.2.2.2.2.2.2.2.2.2
/-- a list of ints stands in the cell a from the place i on -/
def LSt (h : Mem) (a i : Nat) (l : List Int32) : Prop := ∀ k (hk : k < l.length), gI h a (i + k) = l[k]
/-- a whole of the class at the cell a -/
def WC (h : Mem) (a : Nat) (s : WH) : Prop :=
  HC h (a + 1) s.R s.C s.K s.M s.S s.T s.L ∧ gI h a 4 = iI s.tape.length ∧ LSt h (a + 11) 0 s.tape ∧ gI h a 6 = iI s.waits.length ∧ LSt h (a + 12) 0 s.waits ∧ gI h a 7 = iI s.tak ∧ gI h a 8 = iI s.day ∧ gI h a 9 = s.z ∧
  gI h (a + 5) 2 = iI (s.code 0).length ∧ LSt h (a + 6) 0 (s.code 0) ∧ gI h (a + 8) 2 = iI (s.code 1).length ∧ LSt h (a + 9) 0 (s.code 1) ∧ gI h (a + 5) 0 = iI 0 ∧ gI h (a + 8) 0 = iI 1
/-- a text of the model's row -/
def TX (h : Mem) (r u : Nat) (t : Option (List Int32)) : Prop :=
  match t with
  | none => gI h r (7 + u) = iI (-1)
  | some l => gI h r (7 + u) = iI l.length ∧ LSt h r (205 + 50 * u) l
/-- a whole of the model: the row in the cell r -/
def WM (h : Mem) (r : Nat) (s : WH) : Prop :=
  RM h r s.R s.C s.K s.M s.S s.T s.L ∧ gI h r 2 = iI s.tak ∧ gI h r 3 = iI s.day ∧ gI h r 4 = s.z ∧ gI h r 5 = iI s.tape.length ∧ LSt h r 135 s.tape ∧ gI h r 6 = iI s.waits.length ∧ LSt h r 185 s.waits ∧ TX h r 0 (s.text 0) ∧ TX h r 1 (s.text 1)
/-- h' is as h in the class's cells, in the model's cells -/
def FC (h h' : Mem) : Prop := ∀ x k, x < 72 → gI h' x k = gI h x k ∧ gL h' x k = gL h x k
def FM (h h' : Mem) : Prop := ∀ x k, 72 ≤ x → gI h' x k = gI h x k ∧ gL h' x k = gL h x k
theorem FC.tr {h h1 h2 : Mem} (x : FC h h1) (y : FC h1 h2) : FC h h2 := fun a k q => ⟨(y a k q).1.trans (x a k q).1, (y a k q).2.trans (x a k q).2⟩
theorem FM.tr {h h1 h2 : Mem} (x : FM h h1) (y : FM h1 h2) : FM h h2 := fun a k q => ⟨(y a k q).1.trans (x a k q).1, (y a k q).2.trans (x a k q).2⟩
theorem hc_cong {h h2 : Mem} {a R C : Nat} {K M T L : Nat → Nat} {S : Nat → Bool} (hh : HC h a R C K M S T L) (e : ∀ x k, a ≤ x → x ≤ a + 3 → gI h2 x k = gI h x k) (e2 : gL h2 a 6 = gL h a 6) : HC h2 a R C K M S T L := by
  obtain ⟨h1, h2', h3, h4, h5, h6, h7⟩ := hh
  exact ⟨(e a 0 (by omega) (by omega)).trans h1, (e a 1 (by omega) (by omega)).trans h2', fun q hq => (e _ q (by omega) (by omega)).trans (h3 q hq), fun q hq => (e _ q (by omega) (by omega)).trans (h4 q hq), fun q hq => (e _ q (by omega) (by omega)).trans (h5 q hq), (e a 5 (by omega) (by omega)).trans h6, e2.trans h7⟩
theorem LSt.cong {h h2 : Mem} {a i : Nat} {l : List Int32} (hl : LSt h a i l) (e : ∀ k, gI h2 a k = gI h a k) : LSt h2 a i l := fun k hk => (e _).trans (hl k hk)
theorem WC.cong {h h2 : Mem} {a : Nat} {s : WH} (hw : WC h a s) (e : ∀ x k, a ≤ x → x ≤ a + 12 → gI h2 x k = gI h x k) (e2 : gL h2 (a + 1) 6 = gL h (a + 1) 6) : WC h2 a s := by
  obtain ⟨h1, h2', h3, h4, h5, h6, h7, h8, h9, h10, h11, h12, h13, h14⟩ := hw
  exact ⟨hc_cong h1 (fun x k p q => e x k (by omega) (by omega)) e2, (e _ _ (by omega) (by omega)).trans h2', h3.cong fun k => e _ k (by omega) (by omega), (e _ _ (by omega) (by omega)).trans h4, h5.cong fun k => e _ k (by omega) (by omega), (e _ _ (by omega) (by omega)).trans h6, (e _ _ (by omega) (by omega)).trans h7, (e _ _ (by omega) (by omega)).trans h8, (e _ _ (by omega) (by omega)).trans h9, h10.cong fun k => e _ k (by omega) (by omega), (e _ _ (by omega) (by omega)).trans h11, h12.cong fun k => e _ k (by omega) (by omega), (e _ _ (by omega) (by omega)).trans h13, (e _ _ (by omega) (by omega)).trans h14⟩
theorem TX.cong {h h2 : Mem} {r r2 u : Nat} {t : Option (List Int32)} (ht : TX h r u t) (hu : u < 2) (h50 : ∀ l, t = some l → l.length ≤ 50) (e : ∀ k, k < 305 → gI h2 r2 k = gI h r k) : TX h2 r2 u t := by
  cases t with
  | none => exact (e _ (by omega)).trans ht
  | some l => exact ⟨(e _ (by omega)).trans ht.1, fun k hk => (e _ (by have := h50 l rfl; omega)).trans (ht.2 k hk)⟩
/-- numbers of a whole are such as they can be (the laws' agreement stands elsewhere) -/
def WV (s : WH) : Prop := VS s.R s.C s.K s.M ∧ VD s.R s.C s.M s.S s.T s.L ∧ (-99999 ≤ s.tak ∧ s.tak ≤ 99999) ∧ s.day ≤ 9999 ∧ s.tape.length ≤ 50 ∧ s.waits.length ≤ 20 ∧ (∀ u, (s.code u).length ≤ 50 ∧ LTie u (s.code u) (s.text u)) ∧ (∀ u l, s.text u = some l → l.length ≤ 50)
theorem WM.copy {h h2 : Mem} {r r2 : Nat} {s : WH} (hw : WM h r s) (hV : WV s) (e : ∀ k, k < 305 → gI h2 r2 k = gI h r k) : WM h2 r2 s := by
  obtain ⟨h1, h2', h3, h4, h5, h6, h7, h8, h9, h10⟩ := hw
  obtain ⟨-, -, -, -, v5, v6, -, v8⟩ := hV
  exact ⟨rm_copy h1 e, (e _ (by omega)).trans h2', (e _ (by omega)).trans h3, (e _ (by omega)).trans h4, (e _ (by omega)).trans h5, fun k hk => (e _ (by omega)).trans (h6 k hk), (e _ (by omega)).trans h7, fun k hk => (e _ (by omega)).trans (h8 k hk), h9.cong (by omega) (v8 0) e, h10.cong (by omega) (v8 1) e⟩
