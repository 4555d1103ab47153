section HALLOP
theorem w_fill {q n : Nat} {v : Int32} {h : Mem} (hn : n < 100000) :
    ∃ h2, f_J7_fill_53178 h q n v = some h2 ∧ (∀ x k, x ≠ q ∨ n ≤ k → gI h2 x k = gI h x k) ∧ (∀ x k, gL h2 x k = gL h x k) ∧ (∀ k, k < n → gI h2 q k = v) := by
  unfold f_J7_fill_53178
  rw [nm_eq, iI_nat]
  obtain ⟨N, hN⟩ : ∃ N : Nat, N = 1000000 := ⟨_, rfl⟩
  rw [← hN]
  refine lo2_t (fun f x1 g => ∃ i : Nat, x1 = iI i ∧ i + f = n ∧ (∀ x k, x ≠ q ∨ n ≤ k → gI g x k = gI h x k) ∧ (∀ x k, gL g x k = gL h x k) ∧ (∀ k, k < i → gI g q k = v)) (fun o => ∃ h2, o = some h2 ∧ (∀ x k, x ≠ q ∨ n ≤ k → gI h2 x k = gI h x k) ∧ (∀ x k, gL h2 x k = gL h x k) ∧ (∀ k, k < n → gI h2 q k = v)) ?_ N n _ _ (by omega) ⟨0, rfl, by omega, fun _ _ _ => rfl, fun _ _ => rfl, fun k hk => absurd hk (Nat.not_lt_zero k)⟩
  rintro f x1 g ⟨i, rfl, hf, e1, e2, e3⟩ Kc
  unfold f_J7_fill_53178_k4
  have e : (iI n ≤ iI i) = ((n : Int) ≤ i) := iI_le ⟨by omega, by omega⟩
  by_cases hn : i = n
  · left
    rw [if_pos (by rw [e]; omega)]
    exact ⟨_, rfl, g, rfl, e1, e2, fun k hk => e3 k (by omega)⟩
  · right
    rw [if_neg (by rw [e]; omega), ast_i (by omega) (by omega), Int.toNat_natCast, nm_eq, iI_add]
    refine ⟨f - 1, _, _, by omega, ⟨i + 1, rfl, by omega, fun x k hx => ?_, fun x k => ?_, fun k hk => ?_⟩, rfl⟩
    · rw [gI_ne (by omega)]; exact e1 x k hx
    · exact e2 x k
    · by_cases hk2 : k = i
      · rw [hk2, gI_same]
      · rw [gI_ne (by omega)]; exact e3 k (by omega)
theorem sl_zero : slW (fun _ => false) = iI 0 := by
  apply b_ext
  intro i hi
  rw [b_0, b_slN _ _ (by omega) i hi]
  simp
theorem tm_zero : tmW (fun _ => 0) = iL 0 := by
  apply l_ext
  intro i hi
  rw [l_0 i hi, l_tmN (fun _ => by omega) 25 (by omega) i hi, Nat.zero_testBit, Bool.and_false]
theorem w_clear {h : Mem} {a r c : Nat} :
    ∃ h2, f_X3_clear h a (iI r) (iI c) = some h2 ∧ HC h2 a r c (fun _ => 0) (fun _ => 0) (fun _ => false) (fun _ => 0) (fun _ => 0) ∧ (∀ x k, x < a ∨ a + 3 < x → gI h2 x k = gI h x k) ∧ (∀ x k, x ≠ a → gL h2 x k = gL h x k) := by
  unfold f_X3_clear
  simp only [nm_eq]
  obtain ⟨m1, p1, p2, p3, p4⟩ := w_fill (h := sI (sI h a 0 (iI r)) a 1 (iI c)) (q := a + 1) (n := 25) (v := iI 0) (by omega)
  rw [p1, cal_some]
  obtain ⟨m2, q1, q2, q3, q4⟩ := w_fill (h := m1) (q := a + 2) (n := 25) (v := iI 0) (by omega)
  rw [q1, cal_some]
  obtain ⟨m3, r1, r2, r3, r4⟩ := w_fill (h := m2) (q := a + 3) (n := 25) (v := iI 0) (by omega)
  rw [r1, cal_some]
  refine ⟨_, rfl, ⟨?_, ?_, fun q hq => ?_, fun q hq => ?_, fun q hq => ?_, ?_, ?_⟩, fun x k hx => ?_, fun x k hx => ?_⟩
  · rw [gI_sL, gI_ne (by omega), r2 _ _ (by omega), q2 _ _ (by omega), p2 _ _ (by omega), gI_ne (by omega), gI_same]
  · rw [gI_sL, gI_ne (by omega), r2 _ _ (by omega), q2 _ _ (by omega), p2 _ _ (by omega), gI_same]
  · rw [gI_sL, gI_ne (by omega), r2 _ _ (by omega), q2 _ _ (by omega), p4 _ hq]; rfl
  · rw [gI_sL, gI_ne (by omega), r2 _ _ (by omega), q4 _ hq]; rfl
  · rw [gI_sL, gI_ne (by omega), r4 _ hq]; rfl
  · rw [gI_sL, gI_same, sl_zero]
  · rw [gL_same, tm_zero]
  · rw [gI_sL, gI_ne (by omega), r2 _ _ (by omega), q2 _ _ (by omega), p2 _ _ (by omega), gI_ne (by omega), gI_ne (by omega)]
  · rw [gL_ne (by omega), gL_sI, r3, q3, p3]; rfl
def GS.put (g : GS) (s : WH) : GS := (s, g.kept, g.images, g.fl, g.bits, g.sheet, g.trace)
def WH.row (s : WH) (R C : Nat) (K M : Nat → Nat) (S : Nat → Bool) (T L : Nat → Nat) : WH := (R, C, K, M, S, T, L, s.tak, s.day, s.z, s.tape, s.waits, s.code, s.text)
/-- only the hall of the class's whole now changes -/
theorem CSt.row {h h2 : Mem} {g : GS} {R C : Nat} {K M T L : Nat → Nat} {S : Nat → Bool} (hc : CSt h g) (hh : HC h2 3 R C K M S T L) (e : ∀ x k, x < 3 ∨ 6 < x → gI h2 x k = gI h x k) (e2 : ∀ x k, x ≠ 3 → gL h2 x k = gL h x k) : CSt h2 (g.put (g.now.row R C K M S T L)) := by
  obtain ⟨h1, h2', h3, h4, h5, h6, h7, h8, h9, h10, h11, h12, h13⟩ := hc
  obtain ⟨p1, p2, p3, p4, p5, p6, p7, p8, p9, p10, p11, p12, p13, p14⟩ := h1
  refine ⟨⟨hh, (e _ _ (by omega)).trans p2, p3.cong fun k => e _ _ (by omega), (e _ _ (by omega)).trans p4, p5.cong fun k => e _ _ (by omega), (e _ _ (by omega)).trans p6, (e _ _ (by omega)).trans p7, (e _ _ (by omega)).trans p8, (e _ _ (by omega)).trans p9, p10.cong fun k => e _ _ (by omega), (e _ _ (by omega)).trans p11, p12.cong fun k => e _ _ (by omega), (e _ _ (by omega)).trans p13, (e _ _ (by omega)).trans p14⟩, fun s hs => (h2' s hs).cong (fun x k p q => e _ _ (by omega)) (e2 _ _ (by omega)), (e _ _ (by omega)).trans h3, fun n p q => (e _ _ (by omega)).trans (h4 n p q), fun u hu => ?_, (e _ _ (by omega)).trans h6, h7.cong fun k => e _ _ (by omega), (e _ _ (by omega)).trans h8, (e _ _ (by omega)).trans h9, (e _ _ (by omega)).trans h10, (e _ _ (by omega)).trans h11, (e _ _ (by omega)).trans h12, (e _ _ (by omega)).trans h13⟩
  obtain ⟨a1, a2, a3⟩ := h5 u hu
  exact ⟨(e _ _ (by omega)).trans a1, (e _ _ (by omega)).trans a2, a3.cong fun k => e _ _ (by omega)⟩
end HALLOP
