section HALLOP4
theorem m_hallLoop {h : Mem} {r c : Nat} (h0 : gI h 73 0 = iI r) (h1 : gI h 73 1 = iI c) :
    ∃ h2, lo2 f_X11_hall_k10 1000000 (iI 10) h = some (iI (2 * (r + c) : Nat), h2) ∧ RM h2 73 r c (fun _ => 0) (fun _ => 0) (fun _ => false) (fun _ => 0) (fun _ => 0) ∧ (∀ x k, x ≠ 73 ∨ k < 10 ∨ 135 ≤ k → gI h2 x k = gI h x k) ∧ (∀ x k, gL h2 x k = gL h x k) := by
  obtain ⟨N, hN⟩ : ∃ N : Nat, N = 1000000 := ⟨_, rfl⟩
  rw [← hN]
  refine lo2_t (fun f x1 g => ∃ i : Nat, x1 = iI i ∧ i + f = 135 ∧ 10 ≤ i ∧ (∀ x k, x ≠ 73 ∨ k < 10 ∨ 135 ≤ k → gI g x k = gI h x k) ∧ (∀ x k, gL g x k = gL h x k) ∧ (∀ k, 10 ≤ k → k < i → gI g 73 k = iI 0)) (fun o => ∃ h2, o = some (iI (2 * (r + c) : Nat), h2) ∧ RM h2 73 r c (fun _ => 0) (fun _ => 0) (fun _ => false) (fun _ => 0) (fun _ => 0) ∧ (∀ x k, x ≠ 73 ∨ k < 10 ∨ 135 ≤ k → gI h2 x k = gI h x k) ∧ (∀ x k, gL h2 x k = gL h x k)) ?_ N 125 _ _ (by omega) ⟨10, rfl, by omega, by omega, fun _ _ _ => rfl, fun _ _ => rfl, fun k h1 h2 => absurd h2 (by omega)⟩
  rintro f x1 g ⟨i, rfl, hf, hi, e1, e2, e3⟩ Kc
  unfold f_X11_hall_k10
  have e : (iI 135 ≤ iI i) = ((135 : Int) ≤ i) := iI_le ⟨by omega, by omega⟩
  by_cases hn : i = 135
  · left
    have hR : RM g 73 r c (fun _ => 0) (fun _ => 0) (fun _ => false) (fun _ => 0) (fun _ => 0) :=
      ⟨(e1 _ _ (by omega)).trans h0, (e1 _ _ (by omega)).trans h1, fun q hq => ⟨e3 _ (by omega) (by omega), e3 _ (by omega) (by omega), e3 _ (by omega) (by omega), e3 _ (by omega) (by omega), e3 _ (by omega) (by omega)⟩⟩
    rw [if_pos (by rw [e]; omega), m_windows hR, cal_some]
    exact ⟨_, rfl, g, rfl, hR, e1, e2⟩
  · right
    rw [if_neg (by rw [e]; omega), ast_i (by omega) (by omega), Int.toNat_natCast, nm_eq, iI_add]
    refine ⟨f - 1, _, _, by omega, ⟨i + 1, rfl, by omega, by omega, fun x k hx => ?_, fun x k => ?_, fun k hk hk3 => ?_⟩, rfl⟩
    · rw [gI_ne (by omega)]; exact e1 x k hx
    · exact e2 x k
    · by_cases hk2 : k = i
      · rw [hk2, gI_same]
      · rw [gI_ne (by omega)]; exact e3 k hk (by omega)
theorem m_hall {h : Mem} {g : GS} {x y : Int} (hm : MSt h g) (hg : GV g) (hx : -2147483648 ≤ x ∧ x < 2147483648) (hy : -2147483648 ≤ y ∧ y < 2147483648) :
    OPM h (f_X11_hall h (iI x) (iI y)) (if (1 ≤ x ∧ x ≤ 5) ∧ (1 ≤ y ∧ y ≤ 5) then iI (2 * (x.toNat + y.toNat) : Nat) else iI (-1000000001)) (if (1 ≤ x ∧ x ≤ 5) ∧ (1 ≤ y ∧ y ≤ 5) then hall0 g x.toNat y.toNat else g.fail 1) := by
  unfold f_X11_hall
  rw [m_in hx (by omega) (by omega), cal_some, join_eq, cal2_id]
  by_cases e1 : 1 ≤ x ∧ x ≤ 5
  · rw [decide_eq_true e1, bn_true, if_neg (by decide), m_in hy (by omega) (by omega), cal_some]
    by_cases e2 : 1 ≤ y ∧ y ≤ 5
    · rw [decide_eq_true e2, bn_true, if_pos (by decide), if_pos ⟨e1, e2⟩, if_pos ⟨e1, e2⟩, ast_i (by omega) (by omega), ast_i (by omega) (by omega), show (1 : Int).toNat = 1 from rfl, show (0 : Int).toNat = 0 from rfl]
      obtain ⟨h2, p1, p2, p3, p4⟩ := m_hallLoop (h := sI (sI h 73 0 (iI x)) 73 1 (iI y)) (r := x.toNat) (c := y.toNat) (by rw [gI_ne (by omega), gI_same, show (x.toNat : Int) = x by omega]) (by rw [gI_same, show (y.toNat : Int) = y by omega])
      rw [p1]
      refine ⟨h2, rfl, hm.row hg p2 fun a k q1 q2 q3 => ?_, fun a k hk => ⟨?_, ?_⟩⟩
      · rw [p3 _ _ (by omega), gI_ne (by omega), gI_ne (by omega)]
      · rw [p3 _ _ (by omega), gI_ne (by omega), gI_ne (by omega)]
      · rw [p4]; rfl
    · rw [decide_eq_false e2, bn_false, if_neg (by decide), if_neg (fun z => e2 z.2), if_neg (fun z => e2 z.2)]
      exact c_errs hm hg (e := 1) (by omega)
  · rw [decide_eq_false e1, bn_false, if_pos (by decide), if_neg (fun z => e1 z.1), if_neg (fun z => e1 z.1)]
    exact c_errs hm hg (e := 1) (by omega)
end HALLOP4
