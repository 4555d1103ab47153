/-! the state of both objects -/
/-- now, kept, images, failures, bits of the sheets, sheets (as the class has them), the voice's trace -/
abbrev GS : Type := WH × Option WH × Nat × (Nat → Int32) × (Nat → Nat) × (Nat → List Int32) × List Int32
abbrev GS.now (g : GS) : WH := g.1
abbrev GS.kept (g : GS) : Option WH := g.2.1
abbrev GS.images (g : GS) : Nat := g.2.2.1
abbrev GS.fl (g : GS) : Nat → Int32 := g.2.2.2.1
abbrev GS.bits (g : GS) : Nat → Nat := g.2.2.2.2.1
abbrev GS.sheet (g : GS) : Nat → List Int32 := g.2.2.2.2.2.1
abbrev GS.trace (g : GS) : List Int32 := g.2.2.2.2.2.2
def nrw (b : Nat) (x : Int32) : Int32 := if b = 8 then n8I x else if b = 16 then n16I x else x
def CSt (h : Mem) (g : GS) : Prop :=
  WC h 2 g.now ∧ (∀ s, g.kept = some s → WC h 15 s) ∧ gI h 0 3 = iI g.images ∧ (∀ e, 1 ≤ e → e ≤ 5 → gI h 1 e = g.fl e) ∧
  (∀ u, u < 4 → gI h (64 + 2 * u) 0 = iI (g.bits u) ∧ gI h (64 + 2 * u) 1 = iI (g.sheet u).length ∧ LSt h (64 + 2 * u + 1) 0 (g.sheet u)) ∧
  gI h 37 1 = iI g.trace.length ∧ LSt h 38 0 g.trace ∧
  gI h 29 6 = iI (-1) ∧ gI h 44 6 = iI (-1) ∧ gI h 55 6 = iI (-1) ∧ gI h 61 6 = iI (-1) ∧ gI h 20 0 = iI 0 ∧ gI h 23 0 = iI 1
def MSt (h : Mem) (g : GS) : Prop :=
  WM h 73 g.now ∧ (∀ s, g.kept = some s → WM h 74 s) ∧ gI h 72 4 = bn g.kept.isSome ∧ gI h 72 5 = iI g.images ∧ (∀ e, 1 ≤ e → e ≤ 5 → gI h 77 e = g.fl e) ∧
  (∀ u, u < 4 → gI h 83 u = iI (g.bits u) ∧ gI h 84 u = iI (g.sheet u).length ∧ ∀ k (hk : k < (g.sheet u).length), gI h 85 (40 * u + k) = nrw (g.bits u) (g.sheet u)[k]) ∧
  gI h 72 40 = iI g.trace.length ∧ LSt h 88 0 g.trace ∧ gI h 72 12 = iI (-1) ∧ gI h 72 13 = iI (-1)
/-- the class's cells that hold state (whole cells; fields of 0, 37 and of the beams beside) -/
theorem CSt.keep {h h2 : Mem} {g : GS} (hc : CSt h g) (e : ∀ x k, (1 ≤ x ∧ x ≤ 27) ∨ (64 ≤ x ∧ x ≤ 71) ∨ x = 38 ∨ (x = 0 ∧ k = 3) ∨ (x = 37 ∧ k = 1) ∨ ((x = 29 ∨ x = 44 ∨ x = 55 ∨ x = 61) ∧ k = 6) → gI h2 x k = gI h x k) (e2 : gL h2 3 6 = gL h 3 6) (e3 : gL h2 16 6 = gL h 16 6) : CSt h2 g := by
  obtain ⟨h1, h2', h3, h4, h5, h6, h7, h8, h9, h10, h11, h12, h13⟩ := hc
  refine ⟨h1.cong (fun x k p q => e x k (by omega)) e2, fun s hs => (h2' s hs).cong (fun x k p q => e x k (by omega)) e3, (e _ _ (by omega)).trans h3, fun n p q => (e _ _ (by omega)).trans (h4 n p q), fun u hu => ?_, (e _ _ (by omega)).trans h6, h7.cong fun k => e _ _ (by omega), (e _ _ (by omega)).trans h8, (e _ _ (by omega)).trans h9, (e _ _ (by omega)).trans h10, (e _ _ (by omega)).trans h11, (e _ _ (by omega)).trans h12, (e _ _ (by omega)).trans h13⟩
  obtain ⟨a1, a2, a3⟩ := h5 u hu
  exact ⟨(e _ _ (by omega)).trans a1, (e _ _ (by omega)).trans a2, a3.cong fun k => e _ _ (by omega)⟩
theorem CSt.far {h h2 : Mem} {g : GS} (hc : CSt h g) (e : FC h h2) : CSt h2 g :=
  hc.keep (fun x k _ => (e x k (by omega)).1) (e 3 6 (by omega)).2 (e 16 6 (by omega)).2
theorem MSt.keep {h h2 : Mem} {g : GS} (hc : MSt h g) (hV : WV g.now) (hK : ∀ s, g.kept = some s → WV s) (e : ∀ x k, ((x = 73 ∨ x = 74) ∧ k < 305) ∨ x = 77 ∨ (83 ≤ x ∧ x ≤ 85) ∨ x = 88 ∨ (x = 72 ∧ (k = 4 ∨ k = 5 ∨ k = 12 ∨ k = 13 ∨ k = 40)) → gI h2 x k = gI h x k) : MSt h2 g := by
  obtain ⟨h1, h2', h3, h4, h5, h6, h7, h8, h9, h10⟩ := hc
  refine ⟨h1.copy hV fun k hk => e _ _ (by omega), fun s hs => (h2' s hs).copy (hK s hs) fun k hk => e _ _ (by omega), (e _ _ (by omega)).trans h3, (e _ _ (by omega)).trans h4, fun n p q => (e _ _ (by omega)).trans (h5 n p q), fun u hu => ?_, (e _ _ (by omega)).trans h7, h8.cong fun k => e _ _ (by omega), (e _ _ (by omega)).trans h9, (e _ _ (by omega)).trans h10⟩
  obtain ⟨a1, a2, a3⟩ := h6 u hu
  exact ⟨(e _ _ (by omega)).trans a1, (e _ _ (by omega)).trans a2, fun k hk => (e _ _ (by omega)).trans (a3 k hk)⟩
theorem MSt.far {h h2 : Mem} {g : GS} (hc : MSt h g) (hV : WV g.now) (hK : ∀ s, g.kept = some s → WV s) (e : FM h h2) : MSt h2 g :=
  hc.keep hV hK (fun x k _ => (e x k (by omega)).1)
