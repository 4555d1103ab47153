section KEEP2
theorem lo1_t {ρ A : Type} {F : A → (A → Option ρ) → Option ρ} (Inv : Nat → A → Prop) (Post : Option ρ → Prop)
    (step : ∀ f a, Inv f a → ∀ K, (∃ o, F a K = o ∧ Post o) ∨ (∃ f' a', f' < f ∧ Inv f' a' ∧ F a K = K a')) : ∀ N f a, f < N → Inv f a → Post (lo1 F N a)
  | 0, f, a, h, _ => absurd h (Nat.not_lt_zero f)
  | N + 1, f, a, h, hi => by
    show Post (F a (lo1 F N))
    rcases step f a hi (lo1 F N) with ⟨o, h1, h2⟩ | ⟨f', a', h1, h2, h3⟩
    · rw [h1]; exact h2
    · rw [h3]; exact lo1_t Inv Post step N f' a' (by omega) h2
theorem lo3_t {ρ A B C : Type} {F : A → B → C → (A → B → C → Option ρ) → Option ρ} (Inv : Nat → A → B → C → Prop) (Post : Option ρ → Prop)
    (step : ∀ f a b c, Inv f a b c → ∀ K, (∃ o, F a b c K = o ∧ Post o) ∨ (∃ f' a' b' c', f' < f ∧ Inv f' a' b' c' ∧ F a b c K = K a' b' c')) : ∀ N f a b c, f < N → Inv f a b c → Post (lo3 F N a b c)
  | 0, f, a, b, c, h, _ => absurd h (Nat.not_lt_zero f)
  | N + 1, f, a, b, c, h, hi => by
    show Post (F a b c (lo3 F N))
    rcases step f a b c hi (lo3 F N) with ⟨o, h1, h2⟩ | ⟨f', a', b', c', h1, h2, h3⟩
    · rw [h1]; exact h2
    · rw [h3]; exact lo3_t Inv Post step N f' a' b' c' (by omega) h2
theorem lo4_t {ρ A B C D : Type} {F : A → B → C → D → (A → B → C → D → Option ρ) → Option ρ} (Inv : Nat → A → B → C → D → Prop) (Post : Option ρ → Prop)
    (step : ∀ f a b c d, Inv f a b c d → ∀ K, (∃ o, F a b c d K = o ∧ Post o) ∨ (∃ f' a' b' c' d', f' < f ∧ Inv f' a' b' c' d' ∧ F a b c d K = K a' b' c' d')) : ∀ N f a b c d, f < N → Inv f a b c d → Post (lo4 F N a b c d)
  | 0, f, a, b, c, d, h, _ => absurd h (Nat.not_lt_zero f)
  | N + 1, f, a, b, c, d, h, hi => by
    show Post (F a b c d (lo4 F N))
    rcases step f a b c d hi (lo4 F N) with ⟨o, h1, h2⟩ | ⟨f', a', b', c', d', h1, h2, h3⟩
    · rw [h1]; exact h2
    · rw [h3]; exact lo4_t Inv Post step N f' a' b' c' d' (by omega) h2
/-- the model's state but for its row now and its two watches -/
def MX (h : Mem) (g : GS) : Prop :=
  (∀ s, g.kept = some s → WM h 74 s) ∧ gI h 72 4 = bn g.kept.isSome ∧ gI h 72 5 = iI g.images ∧ (∀ e, 1 ≤ e → e ≤ 5 → gI h 77 e = g.fl e) ∧
  (∀ u, u < 4 → gI h 83 u = iI (g.bits u) ∧ gI h 84 u = iI (g.sheet u).length ∧ ∀ k (hk : k < (g.sheet u).length), gI h 85 (40 * u + k) = nrw (g.bits u) (g.sheet u)[k]) ∧
  gI h 72 40 = iI g.trace.length ∧ LSt h 88 0 g.trace
theorem MSt.mx {h : Mem} {g : GS} (hm : MSt h g) : MX h g := ⟨hm.2.1, hm.2.2.1, hm.2.2.2.1, hm.2.2.2.2.1, hm.2.2.2.2.2.1, hm.2.2.2.2.2.2.1, hm.2.2.2.2.2.2.2.1⟩
theorem MSt.w12 {h : Mem} {g : GS} (hm : MSt h g) : gI h 72 12 = iI (-1) := hm.2.2.2.2.2.2.2.2.1
theorem MSt.w13 {h : Mem} {g : GS} (hm : MSt h g) : gI h 72 13 = iI (-1) := hm.2.2.2.2.2.2.2.2.2
theorem MX.st {h : Mem} {g : GS} (hx : MX h g) (hw : WM h 73 g.now) (h12 : gI h 72 12 = iI (-1)) (h13 : gI h 72 13 = iI (-1)) : MSt h g :=
  ⟨hw, hx.1, hx.2.1, hx.2.2.1, hx.2.2.2.1, hx.2.2.2.2.1, hx.2.2.2.2.2.1, hx.2.2.2.2.2.2, h12, h13⟩
theorem MX.put {h : Mem} {g : GS} {s : WH} (hx : MX h g) : MX h (g.put s) := hx
theorem MX.keep {h h2 : Mem} {g : GS} (hc : MX h g) (hK : ∀ s, g.kept = some s → WV s) (e : ∀ x k, (x = 74 ∧ k < 305) ∨ x = 77 ∨ (83 ≤ x ∧ x ≤ 85) ∨ x = 88 ∨ (x = 72 ∧ (k = 4 ∨ k = 5 ∨ k = 40)) → gI h2 x k = gI h x k) : MX h2 g := by
  obtain ⟨h2', h3, h4, h5, h6, h7, h8⟩ := hc
  refine ⟨fun s hs => (h2' s hs).copy (hK s hs) fun k hk => e _ _ (by omega), (e _ _ (by omega)).trans h3, (e _ _ (by omega)).trans h4, fun n p q => (e _ _ (by omega)).trans (h5 n p q), fun u hu => ?_, (e _ _ (by omega)).trans h7, h8.cong fun k => e _ _ (by omega)⟩
  obtain ⟨a1, a2, a3⟩ := h6 u hu
  exact ⟨(e _ _ (by omega)).trans a1, (e _ _ (by omega)).trans a2, fun k hk => (e _ _ (by omega)).trans (a3 k hk)⟩
theorem MX.fr {h h2 : Mem} {g : GS} (hc : MX h g) (hg : GV g) (f : FrM h h2) : MX h2 g :=
  hc.keep hg.2.1 fun x k q => by
    by_cases e : x = 72
    · subst e; exact f.2.1 k (by omega) (by omega) (by omega) (by omega) (by omega) (by omega) (by omega)
    · exact (f.1 x k e (by omega)).1
theorem FrM.fc {h h2 : Mem} (f : FrM h h2) : FC h h2 := fun x k hx => f.1 x k (by omega) (by omega)
/-- the row is set aside and a ray is tried: all but the row now -/
def MTr (h : Mem) (g : GS) : Prop := WM h 75 g.now ∧ MX h g
theorem MTr.keep {h h2 : Mem} {g : GS} (hm : MTr h g) (hg : GV g) (e : ∀ x k, ((x = 74 ∨ x = 75) ∧ k < 305) ∨ x = 77 ∨ (83 ≤ x ∧ x ≤ 85) ∨ x = 88 ∨ (x = 72 ∧ (k = 4 ∨ k = 5 ∨ k = 40)) → gI h2 x k = gI h x k) : MTr h2 g :=
  ⟨hm.1.copy hg.1 fun k hk => e _ _ (by omega), hm.2.keep hg.2.1 fun x k hx => e x k (by omega)⟩
theorem MTr.fr {h h2 : Mem} {g : GS} (hm : MTr h g) (hg : GV g) (f : FrM h h2) : MTr h2 g :=
  ⟨hm.1.copy hg.1 fun k hk => (f.1 75 k (by omega) (by omega)).1, hm.2.fr hg f⟩
theorem m_try {h : Mem} {g : GS} (hm : MSt h g) (hg : GV g) :
    ∃ h2, f_X11_moveAll h 73 305 75 305 = some h2 ∧ WM h2 73 g.now ∧ MTr h2 g ∧ (∀ x k, x ≠ 75 → gI h2 x k = gI h x k) ∧ (∀ x k, gL h2 x k = gL h x k) := by
  obtain ⟨h2, e1, e2, e3, e4⟩ := m_copy (q1 := 73) (q2 := 75) (n1 := 305) (n2 := 305) (h := h) (by omega) (by omega) (by omega)
  exact ⟨h2, e1, hm.1.copy hg.1 fun k hk => e2 _ _ (by omega), ⟨hm.1.copy hg.1 e4, hm.mx.keep hg.2.1 fun x k q => e2 _ _ (by omega)⟩, fun x k hx => e2 _ _ (Or.inl hx), e3⟩
theorem m_untry {h : Mem} {g : GS} (hm : MTr h g) (hg : GV g) (h12 : gI h 72 12 = iI (-1)) (h13 : gI h 72 13 = iI (-1)) :
    ∃ h2, f_X11_moveAll h 75 305 73 305 = some h2 ∧ MSt h2 g ∧ MTr h2 g ∧ (∀ x k, x ≠ 73 → gI h2 x k = gI h x k) ∧ (∀ x k, gL h2 x k = gL h x k) := by
  obtain ⟨h2, e1, e2, e3, e4⟩ := m_copy (q1 := 75) (q2 := 73) (n1 := 305) (n2 := 305) (h := h) (by omega) (by omega) (by omega)
  have hX : MX h2 g := hm.2.keep hg.2.1 fun x k q => e2 _ _ (by omega)
  exact ⟨h2, e1, hX.st (hm.1.copy hg.1 e4) ((e2 _ _ (by omega)).trans h12) ((e2 _ _ (by omega)).trans h13), ⟨hm.1.copy hg.1 fun k hk => e2 _ _ (by omega), hX⟩, fun x k hx => e2 _ _ (Or.inl hx), e3⟩
/-- the class's state with another whole now -/
theorem CSt.now {h h2 : Mem} {g : GS} {s : WH} (hc : CSt h g) (hw : WC h2 2 s) (e : ∀ x k, x = 1 ∨ (15 ≤ x ∧ x ≤ 27) ∨ (64 ≤ x ∧ x ≤ 71) ∨ x = 38 ∨ (x = 0 ∧ k = 3) ∨ (x = 37 ∧ k = 1) ∨ ((x = 29 ∨ x = 44 ∨ x = 55 ∨ x = 61) ∧ k = 6) → gI h2 x k = gI h x k) (e3 : gL h2 16 6 = gL h 16 6) : CSt h2 (g.put s) := by
  obtain ⟨h1, h2', h3, h4, h5, h6, h7, h8, h9, h10, h11, h12, h13⟩ := hc
  refine ⟨hw, fun s hs => (h2' s hs).cong (fun x k p q => e x k (by omega)) e3, (e _ _ (by omega)).trans h3, fun n p q => (e _ _ (by omega)).trans (h4 n p q), fun u hu => ?_, (e _ _ (by omega)).trans h6, h7.cong fun k => e _ _ (by omega), (e _ _ (by omega)).trans h8, (e _ _ (by omega)).trans h9, (e _ _ (by omega)).trans h10, (e _ _ (by omega)).trans h11, (e _ _ (by omega)).trans h12, (e _ _ (by omega)).trans h13⟩
  obtain ⟨a1, a2, a3⟩ := h5 u hu
  exact ⟨(e _ _ (by omega)).trans a1, (e _ _ (by omega)).trans a2, a3.cong fun k => e _ _ (by omega)⟩
theorem WC.hall {h h2 : Mem} {a : Nat} {s : WH} {R C : Nat} {K M T L : Nat → Nat} {S : Nat → Bool} (hw : WC h a s) (hh : HC h2 (a + 1) R C K M S T L) (e : ∀ x k, x = a ∨ (a + 5 ≤ x ∧ x ≤ a + 12) → gI h2 x k = gI h x k) : WC h2 a (s.row R C K M S T L) := by
  obtain ⟨p1, p2, p3, p4, p5, p6, p7, p8, p9, p10, p11, p12, p13, p14⟩ := hw
  exact ⟨hh, (e _ _ (by omega)).trans p2, p3.cong fun k => e _ _ (by omega), (e _ _ (by omega)).trans p4, p5.cong fun k => e _ _ (by omega), (e _ _ (by omega)).trans p6, (e _ _ (by omega)).trans p7, (e _ _ (by omega)).trans p8, (e _ _ (by omega)).trans p9, p10.cong fun k => e _ _ (by omega), (e _ _ (by omega)).trans p11, p12.cong fun k => e _ _ (by omega), (e _ _ (by omega)).trans p13, (e _ _ (by omega)).trans p14⟩
/-- the model's state with another row now -/
theorem MSt.now {h h2 : Mem} {g : GS} {s : WH} (hm : MSt h g) (hg : GV g) (hw : WM h2 73 s) (e : ∀ x k, (x = 74 ∧ k < 305) ∨ x = 77 ∨ (83 ≤ x ∧ x ≤ 85) ∨ x = 88 ∨ (x = 72 ∧ (k = 4 ∨ k = 5 ∨ k = 12 ∨ k = 13 ∨ k = 40)) → gI h2 x k = gI h x k) : MSt h2 (g.put s) :=
  (hm.mx.keep (h2 := h2) hg.2.1 fun x k q => e x k (by omega)).put.st hw ((e _ _ (by omega)).trans hm.w12) ((e _ _ (by omega)).trans hm.w13)
theorem WM.hall {h h2 : Mem} {r : Nat} {s : WH} {R C : Nat} {K M T L : Nat → Nat} {S : Nat → Bool} (hw : WM h r s) (hV : WV s) (hh : RM h2 r R C K M S T L) (e : ∀ k, (2 ≤ k ∧ k < 10) ∨ (135 ≤ k ∧ k < 305) → gI h2 r k = gI h r k) : WM h2 r (s.row R C K M S T L) := by
  obtain ⟨p1, p2, p3, p4, p5, p6, p7, p8, p9, p10⟩ := hw
  obtain ⟨-, -, -, -, v5, v6, -, v8⟩ := hV
  have tx : ∀ u t, u < 2 → TX h r u t → (∀ l, t = some l → l.length ≤ 50) → TX h2 r u t := fun u t hu ht h50 => by
    cases t with
    | none => exact (e _ (by omega)).trans ht
    | some l => exact ⟨(e _ (by omega)).trans ht.1, fun k hk => (e _ (by have := h50 l rfl; omega)).trans (ht.2 k hk)⟩
  exact ⟨hh, (e _ (by omega)).trans p2, (e _ (by omega)).trans p3, (e _ (by omega)).trans p4, (e _ (by omega)).trans p5, fun k hk => (e _ (by have : k < s.tape.length := hk; omega)).trans (p6 k hk), (e _ (by omega)).trans p7, fun k hk => (e _ (by have : k < s.waits.length := hk; omega)).trans (p8 k hk), tx 0 _ (by omega) p9 (v8 0), tx 1 _ (by omega) p10 (v8 1)⟩
/-- the class's rays on other halls than that of now -/
theorem CSt.ray {h h2 : Mem} {g : GS} {a b R C : Nat} {K M : Nat → Nat} {x : RES} (hc : CSt h g) (hr : RayC h h2 a b R C K M x) (hab : (a = 30 ∧ b = 29) ∨ (a = 40 ∧ b = 44) ∨ (a = 51 ∧ b = 55) ∨ (a = 57 ∧ b = 61)) : CSt h2 g ∧ FM h h2 := by
  obtain ⟨-, -, -, -, -, r6, -, r8, -⟩ := hr
  refine ⟨hc.keep (fun x k q => ?_) (r8 _ _ (by omega) (by omega) (by omega)).2 (r8 _ _ (by omega) (by omega) (by omega)).2, fun x k q => r8 x k (by omega) (by omega) (by omega)⟩
  by_cases e : x = b
  · subst e
    rcases (show k = 6 by omega) with rfl
    exact r6
  · exact (r8 x k (by omega) (by omega) e).1
end KEEP2
