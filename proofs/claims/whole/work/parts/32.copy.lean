/-! copies of halls, rows, wholes -/
/-- h2 is as h but that the cells from a on stand in it as those from b on did; w: the fields that are copied -/
theorem w_hcopy {h : Mem} {a b : Nat} (hab : b + 3 < a ∨ a + 3 < b) :
    ∃ h2, f_X3_copyFrom h a b = some h2 ∧ (∀ x k, x < a ∨ a + 3 < x → gI h2 x k = gI h x k) ∧ (∀ x k, x ≠ a → gL h2 x k = gL h x k) ∧ (∀ k, k = 0 ∨ k = 1 ∨ k = 5 → gI h2 a k = gI h b k) ∧ (∀ k, k ≠ 0 ∧ k ≠ 1 ∧ k ≠ 5 → gI h2 a k = gI h a k) ∧ gL h2 a 6 = gL h b 6 ∧ (∀ k, k ≠ 6 → gL h2 a k = gL h a k) ∧ (∀ j k, j = 1 ∨ j = 2 ∨ j = 3 → k < 25 → gI h2 (a + j) k = gI h (b + j) k) := by
  unfold f_X3_copyFrom f_X3_standAs f_X3_stand
  simp only [nm_eq, cal_some]
  rw [acp_i (by omega) (by omega), acp_i (by omega) (by omega), acp_i (by omega) (by omega)]
  refine ⟨_, rfl, fun x k hx => ?_, fun x k hx => ?_, fun k hk => ?_, fun k hk => ?_, ?_, fun k hk => ?_, fun j k hj hk => ?_⟩
  · simp (disch := omega) only [gI_sL, gI_ne, gI_cpI, if_neg]
  · simp (disch := omega) only [gL_sI, gL_ne, gL_cpI]
  · rcases hk with rfl | rfl | rfl <;> simp (disch := omega) only [gI_sL, gI_ne, gI_same, gI_cpI, if_neg]
  · simp (disch := omega) only [gI_sL, gI_ne, gI_cpI, if_neg]
  · simp (disch := omega) only [gL_sI, gL_same, gL_cpI]
  · simp (disch := omega) only [gL_sI, gL_ne, gL_cpI]
  · rcases hj with rfl | rfl | rfl <;> simp (disch := omega) only [gI_sL, gI_ne, gI_cpI, if_neg, if_pos] <;> congr 1 <;> simp <;> (intro z; omega)
theorem hc_copy {h h2 : Mem} {a b R C : Nat} {K M T L : Nat → Nat} {S : Nat → Bool} (hh : HC h b R C K M S T L) (e1 : ∀ k, k = 0 ∨ k = 1 ∨ k = 5 → gI h2 a k = gI h b k) (e2 : gL h2 a 6 = gL h b 6) (e3 : ∀ j k, j = 1 ∨ j = 2 ∨ j = 3 → k < 25 → gI h2 (a + j) k = gI h (b + j) k) : HC h2 a R C K M S T L := by
  obtain ⟨h1, h2', h3, h4, h5, h6, h7⟩ := hh
  exact ⟨(e1 0 (by omega)).trans h1, (e1 1 (by omega)).trans h2', fun q hq => (e3 1 q (by omega) hq).trans (h3 q hq), fun q hq => (e3 2 q (by omega) hq).trans (h4 q hq), fun q hq => (e3 3 q (by omega) hq).trans (h5 q hq), (e1 5 (by omega)).trans h6, e2.trans h7⟩
/-- a loop over 305 places of a row -/
theorem m_copy {q1 q2 n1 n2 : Nat} {h : Mem} (hq : q1 ≠ q2) (hn1 : 305 ≤ n1 ∧ n1 < 100000) (hn2 : 305 ≤ n2 ∧ n2 < 100000) :
    ∃ h2, f_X11_moveAll h q1 n1 q2 n2 = some h2 ∧ (∀ x k, x ≠ q2 ∨ 305 ≤ k → gI h2 x k = gI h x k) ∧ (∀ x k, gL h2 x k = gL h x k) ∧ (∀ k, k < 305 → gI h2 q2 k = gI h q1 k) := by
  unfold f_X11_moveAll
  obtain ⟨N, hN⟩ : ∃ N : Nat, N = 1000000 := ⟨_, rfl⟩
  rw [← hN]
  refine lo2_t (fun f x1 g => ∃ n : Nat, x1 = iI n ∧ n + f = 305 ∧ (∀ x k, x ≠ q2 ∨ 305 ≤ k → gI g x k = gI h x k) ∧ (∀ x k, gL g x k = gL h x k) ∧ (∀ k, k < n → gI g q2 k = gI h q1 k)) (fun o => ∃ h2, o = some h2 ∧ (∀ x k, x ≠ q2 ∨ 305 ≤ k → gI h2 x k = gI h x k) ∧ (∀ x k, gL h2 x k = gL h x k) ∧ (∀ k, k < 305 → gI h2 q2 k = gI h q1 k)) ?_ N 305 _ _ (by omega) ⟨0, rfl, by omega, fun _ _ _ => rfl, fun _ _ => rfl, fun k hk => absurd hk (Nat.not_lt_zero k)⟩
  rintro f x1 g ⟨n, rfl, hf, e1, e2, e3⟩ Kc
  unfold f_X11_moveAll_k3
  have e : (iI 305 ≤ iI n) = ((305 : Int) ≤ n) := iI_le ⟨by omega, by omega⟩
  by_cases hn : n = 305
  · left
    rw [if_pos (by rw [e]; omega)]
    exact ⟨_, rfl, g, rfl, e1, e2, fun k hk => e3 k (by omega)⟩
  · right
    rw [if_neg (by rw [e]; omega), ald_i (by omega) (by omega), ast_i (by omega) (by omega), Int.toNat_natCast, nm_eq, iI_add]
    refine ⟨f - 1, _, _, by omega, ⟨n + 1, rfl, by omega, fun x k hx => ?_, fun x k => ?_, fun k hk => ?_⟩, rfl⟩
    · rw [gI_ne (by omega)]; exact e1 x k hx
    · exact e2 x k
    · by_cases hk2 : k = n
      · rw [hk2, gI_same]; exact e1 q1 n (Or.inl hq)
      · rw [gI_ne (by omega)]; exact e3 k (by omega)
theorem rm_copy {h h2 : Mem} {a b R C : Nat} {K M T L : Nat → Nat} {S : Nat → Bool} (hh : RM h b R C K M S T L) (e : ∀ k, k < 305 → gI h2 a k = gI h b k) : RM h2 a R C K M S T L := by
  obtain ⟨h1, h2', h3⟩ := hh
  refine ⟨(e 0 (by omega)).trans h1, (e 1 (by omega)).trans h2', fun q hq => ?_⟩
  obtain ⟨a1, a2, a3, a4, a5⟩ := h3 q hq
  exact ⟨(e _ (by omega)).trans a1, (e _ (by omega)).trans a2, (e _ (by omega)).trans a3, (e _ (by omega)).trans a4, (e _ (by omega)).trans a5⟩
