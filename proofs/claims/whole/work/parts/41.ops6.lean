section HALLOP4
theorem m_hallLoop {h : Mem} {r c : Nat} (h0 : gI h 73 0 = iI r) (h1 : gI h 73 1 = iI c) :
    ∃ h2, lo2 f_X11_hall_k10 1000000 (iI 10) h = some (iI (2 * (r + c) : Nat), h2) ∧ RM h2 73 r c (fun _ => 0) (fun _ => 0) (fun _ => false) (fun _ => 0) (fun _ => 0) ∧ (∀ x k, x ≠ 73 ∨ k < 10 ∨ 135 ≤ k → gI h2 x k = gI h x k) ∧ (∀ x k, gL h2 x k = gL h x k) := by
  obtain ⟨N, hN⟩ : ∃ N : Nat, N = 1000000 := ⟨_, rfl⟩
  rw [← hN]
  refine lo2_t (fun f x1 g => ∃ i : Nat, x1 = iI i ∧ i + f = 135 ∧ 10 ≤ i ∧ (∀ x k, x ≠ 73 ∨ k < 10 ∨ 135 ≤ k → gI g x k = gI h x k) ∧ (∀ x k, gL g x k = gL h x k) ∧ (∀ k, 10 ≤ k → k < i → gI g 73 k = iI 0)) (fun o => ∃ h2, o = some (iI (2 * (r + c) : Nat), h2) ∧ RM h2 73 r c (fun _ => 0) (fun _ => 0) (fun _ => false) (fun _ => 0) (fun _ => 0) ∧ (∀ x k, x ≠ 73 ∨ k < 10 ∨ 135 ≤ k → gI h2 x k = gI h x k) ∧ (∀ x k, gL h2 x k = gL h x k)) ?_ N 125 _ _ (by omega) ⟨10, rfl, by omega, by omega, fun _ _ _ => rfl, fun _ _ => rfl, fun k h1 h2 => absurd h2 (by omega)⟩
  rintro f x1 g ⟨i, rfl, hf, hi, e1, e2, e3⟩ Kc
  unfold f_X11_hall_k10
  have e : (iI 135 ≤ iI i) = ((135 : Int) ≤ i) := iI_le ⟨by omega, by omega⟩
  by_cases hn : i = 135
  · left
    have hR : RM g 73 r c (fun _ => 0) (fun _ => 0) (fun _ => false) (fun _ => 0) (fun _ => 0) :=
      ⟨(e1 _ _ (by omega)).trans h0, (e1 _ _ (by omega)).trans h1, fun q hq => ⟨e3 _ (by omega) (by omega), e3 _ (by omega) (by omega), e3 _ (by omega) (by omega), e3 _ (by omega) (by omega), e3 _ (by omega) (by omega)⟩⟩
    rw [if_pos (by rw [e]; omega), m_windows hR, cal_some]
    exact ⟨_, rfl, g, rfl, hR, e1, e2⟩
  · right
    rw [if_neg (by rw [e]; omega), ast_i (by omega) (by omega), Int.toNat_natCast, nm_eq, iI_add]
    refine ⟨f - 1, _, _, by omega, ⟨i + 1, rfl, by omega, by omega, fun x k hx => ?_, fun x k => ?_, fun k hk hk3 => ?_⟩, rfl⟩
    · rw [gI_ne (by omega)]; exact e1 x k hx
    · exact e2 x k
    · by_cases hk2 : k = i
      · rw [hk2, gI_same]
      · rw [gI_ne (by omega)]; exact e3 k hk (by omega)
end HALLOP4
