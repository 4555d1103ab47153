section HALLOP
theorem w_fill {q n : Nat} {v : Int32} {h : Mem} (hn : n < 100000) :
    ∃ h2, f_J7_fill_53178 h q n v = some h2 ∧ (∀ x k, x ≠ q ∨ n ≤ k → gI h2 x k = gI h x k) ∧ (∀ x k, gL h2 x k = gL h x k) ∧ (∀ k, k < n → gI h2 q k = v) := by
  unfold f_J7_fill_53178
  rw [nm_eq, iI_nat]
  obtain ⟨N, hN⟩ : ∃ N : Nat, N = 1000000 := ⟨_, rfl⟩
  rw [← hN]
  refine lo2_t (fun f x1 g => ∃ i : Nat, x1 = iI i ∧ i + f = n ∧ (∀ x k, x ≠ q ∨ n ≤ k → gI g x k = gI h x k) ∧ (∀ x k, gL g x k = gL h x k) ∧ (∀ k, k < i → gI g q k = v)) (fun o => ∃ h2, o = some h2 ∧ (∀ x k, x ≠ q ∨ n ≤ k → gI h2 x k = gI h x k) ∧ (∀ x k, gL h2 x k = gL h x k) ∧ (∀ k, k < n → gI h2 q k = v)) ?_ N n _ _ (by omega) ⟨0, rfl, by omega, fun _ _ _ => rfl, fun _ _ => rfl, fun k hk => absurd hk (Nat.not_lt_zero k)⟩
  rintro f x1 g ⟨i, rfl, hf, e1, e2, e3⟩ Kc
  unfold f_J7_fill_53178_k4
  have e : (iI n ≤ iI i) = ((n : Int) ≤ i) := iI_le ⟨by omega, by omega⟩
  by_cases hn : i = n
  · left
    rw [if_pos (by rw [e]; omega)]
    exact ⟨_, rfl, g, rfl, e1, e2, fun k hk => e3 k (by omega)⟩
  · right
    rw [if_neg (by rw [e]; omega), ast_i (by omega) (by omega), Int.toNat_natCast, nm_eq, iI_add]
    refine ⟨f - 1, _, _, by omega, ⟨i + 1, rfl, by omega, fun x k hx => ?_, fun x k => ?_, fun k hk => ?_⟩, rfl⟩
    · rw [gI_ne (by omega)]; exact e1 x k hx
    · exact e2 x k
    · by_cases hk2 : k = i
      · rw [hk2, gI_same]
      · rw [gI_ne (by omega)]; exact e3 k (by omega)
theorem sl_zero : slW (fun _ => false) = iI 0 := by
  apply b_ext
  intro i hi
  rw [b_0, b_slN _ _ (by omega) i hi]
  simp
theorem w_clear {h : Mem} {a r c : Nat} (ht : tmW (fun _ => 0) = iL 0) :
    ∃ h2, f_X3_clear h a (iI r) (iI c) = some h2 ∧ HC h2 a r c (fun _ => 0) (fun _ => 0) (fun _ => false) (fun _ => 0) (fun _ => 0) ∧ (∀ x k, x < a ∨ a + 3 < x → gI h2 x k = gI h x k) ∧ (∀ x k, x ≠ a → gL h2 x k = gL h x k) := by
  unfold f_X3_clear
  simp only [nm_eq]
  obtain ⟨m1, p1, p2, p3, p4⟩ := w_fill (h := sI (sI h a 0 (iI r)) a 1 (iI c)) (q := a + 1) (n := 25) (v := iI 0) (by omega)
  rw [p1, cal_some]
  obtain ⟨m2, q1, q2, q3, q4⟩ := w_fill (h := m1) (q := a + 2) (n := 25) (v := iI 0) (by omega)
  rw [q1, cal_some]
  obtain ⟨m3, r1, r2, r3, r4⟩ := w_fill (h := m2) (q := a + 3) (n := 25) (v := iI 0) (by omega)
  rw [r1, cal_some]
  refine ⟨_, rfl, ⟨?_, ?_, fun q hq => ?_, fun q hq => ?_, fun q hq => ?_, ?_, ?_⟩, fun x k hx => ?_, fun x k hx => ?_⟩
  · rw [gI_sL, gI_ne (by omega), r2 _ _ (by omega), q2 _ _ (by omega), p2 _ _ (by omega), gI_ne (by omega), gI_same]
  · rw [gI_sL, gI_ne (by omega), r2 _ _ (by omega), q2 _ _ (by omega), p2 _ _ (by omega), gI_same]
  · rw [gI_sL, gI_ne (by omega), r2 _ _ (by omega), q2 _ _ (by omega), p4 _ hq]; rfl
  · rw [gI_sL, gI_ne (by omega), r2 _ _ (by omega), q4 _ hq]; rfl
  · rw [gI_sL, gI_ne (by omega), r4 _ hq]; rfl
  · rw [gI_sL, gI_same, sl_zero]
  · rw [gL_same, ht]
  · rw [gI_sL, gI_ne (by omega), r2 _ _ (by omega), q2 _ _ (by omega), p2 _ _ (by omega), gI_ne (by omega), gI_ne (by omega)]
  · rw [gL_ne (by omega), gL_sI, r3, q3, p3]; rfl
end HALLOP
