/-- was the wanted square met -/
def met (wd : Int) (se : Nat → Bool) : Bool := if wd < 0 then false else se wd.toNat
section MLEAF
variable {h h0 : Mem} {R C : Nat} {K M T L : Nat → Nat} {S : Nat → Bool}
theorem m_in {a b c : Int} (ha : -2147483648 ≤ a ∧ a < 2147483648) (hb : -2147483648 ≤ b ∧ b < 2147483648) (hc : -2147483648 ≤ c ∧ c < 2147483648) : f_X11_in h (iI a) (iI b) (iI c) = some (bn (decide (b ≤ a ∧ a ≤ c))) := by
  unfold f_X11_in
  by_cases e1 : a < b
  · simp (disch := omega) only [iI_add, iI_sub, iI_mul, iI_neg, ald_i, ast_i, aldL_i, astL_i, tld_i, rng_i, acp_i, nz_i, rZ0, rZ1, cal_some, cal2_some, join_eq, nm_eq, gI_same, gI_ne, gL_same, gL_ne, gI_sL, gL_sI, iI_lt, iI_le, iI_eq, iI_zero, mnI_i, mxI_i, if_pos, if_neg, ifT, ifF, not_true_eq_false, not_false_eq_true, Int.toNat_natCast]
    rw [decide_eq_false (by omega)]; rfl
  · by_cases e2 : c < a
    · simp (disch := omega) only [iI_add, iI_sub, iI_mul, iI_neg, ald_i, ast_i, aldL_i, astL_i, tld_i, rng_i, acp_i, nz_i, rZ0, rZ1, cal_some, cal2_some, join_eq, nm_eq, gI_same, gI_ne, gL_same, gL_ne, gI_sL, gL_sI, iI_lt, iI_le, iI_eq, iI_zero, mnI_i, mxI_i, if_pos, if_neg, ifT, ifF, not_true_eq_false, not_false_eq_true, Int.toNat_natCast]
      rw [decide_eq_false (by omega)]; rfl
    · simp (disch := omega) only [iI_add, iI_sub, iI_mul, iI_neg, ald_i, ast_i, aldL_i, astL_i, tld_i, rng_i, acp_i, nz_i, rZ0, rZ1, cal_some, cal2_some, join_eq, nm_eq, gI_same, gI_ne, gL_same, gL_ne, gI_sL, gL_sI, iI_lt, iI_le, iI_eq, iI_zero, mnI_i, mxI_i, if_pos, if_neg, ifT, ifF, not_true_eq_false, not_false_eq_true, Int.toNat_natCast]
      rw [decide_eq_true (by omega)]; rfl
theorem m_enters {win : Nat} (hR : gI h 73 0 = iI R) (hC : gI h 73 1 = iI C) (hw : win < 2 * (R + C)) (hR1 : 1 ≤ R) (hC1 : 1 ≤ C) (hR5 : R ≤ 5) (hC5 : C ≤ 5) :
    f_X11_enters h (iI win) = some (sI (sI (sI (sI (sI h 72 10 (iI 0)) 72 11 (iI 0)) 72 7 (iI (entR R C win))) 72 8 (iI (entC R C win))) 72 9 (iI (entW R C win))) := by
  unfold f_X11_enters entR entC entW
  rw [ald_i (by omega) (by omega), ald_i (by omega) (by omega), show (1 : Int).toNat = 1 from rfl, show (0 : Int).toNat = 0 from rfl, hR, hC]
  by_cases e1 : win < C
  · simp (disch := omega) only [iI_add, iI_sub, iI_mul, iI_neg, ald_i, ast_i, aldL_i, astL_i, tld_i, rng_i, acp_i, nz_i, rZ0, rZ1, cal_some, cal2_some, join_eq, nm_eq, gI_same, gI_ne, gL_same, gL_ne, gI_sL, gL_sI, iI_lt, iI_le, iI_eq, iI_zero, mnI_i, mxI_i, if_pos, if_neg, ifT, ifF, not_true_eq_false, not_false_eq_true, Int.toNat_natCast]
    rfl
  · by_cases e2 : win < C + R
    · simp (disch := omega) only [iI_add, iI_sub, iI_mul, iI_neg, ald_i, ast_i, aldL_i, astL_i, tld_i, rng_i, acp_i, nz_i, rZ0, rZ1, cal_some, cal2_some, join_eq, nm_eq, gI_same, gI_ne, gL_same, gL_ne, gI_sL, gL_sI, iI_lt, iI_le, iI_eq, iI_zero, mnI_i, mxI_i, if_pos, if_neg, ifT, ifF, not_true_eq_false, not_false_eq_true, Int.toNat_natCast, show ((win - C : Nat) : Int) = (win : Int) - C by omega, show ((C - 1 : Nat) : Int) = (C : Int) - 1 by omega]
      rfl
    · by_cases e3 : win < 2 * C + R
      · simp (disch := omega) only [iI_add, iI_sub, iI_mul, iI_neg, ald_i, ast_i, aldL_i, astL_i, tld_i, rng_i, acp_i, nz_i, rZ0, rZ1, cal_some, cal2_some, join_eq, nm_eq, gI_same, gI_ne, gL_same, gL_ne, gI_sL, gL_sI, iI_lt, iI_le, iI_eq, iI_zero, mnI_i, mxI_i, if_pos, if_neg, ifT, ifF, not_true_eq_false, not_false_eq_true, Int.toNat_natCast, show ((R - 1 : Nat) : Int) = (R : Int) - 1 by omega, show ((win - C - R : Nat) : Int) = (win : Int) - C - R by omega]
        rfl
      · simp (disch := omega) only [iI_add, iI_sub, iI_mul, iI_neg, ald_i, ast_i, aldL_i, astL_i, tld_i, rng_i, acp_i, nz_i, rZ0, rZ1, cal_some, cal2_some, join_eq, nm_eq, gI_same, gI_ne, gL_same, gL_ne, gI_sL, gL_sI, iI_lt, iI_le, iI_eq, iI_zero, mnI_i, mxI_i, if_pos, if_neg, ifT, ifF, not_true_eq_false, not_false_eq_true, Int.toNat_natCast, show ((win - 2 * C - R : Nat) : Int) = (win : Int) - 2 * C - R by omega]
        rfl
theorem m_goesOn {r c : Int} {w : Nat} (h7 : gI h 72 7 = iI r) (h8 : gI h 72 8 = iI c) (h9 : gI h 72 9 = iI w) (h4 : w < 4) :
    f_X11_goesOn h = some (sI (sI h 72 7 (iI (if w = 0 then r - 1 else if w = 2 then r + 1 else r))) 72 8 (iI (if w = 1 then c + 1 else if w = 3 then c - 1 else c))) := by
  unfold f_X11_goesOn f_X11_goesOn_k2
  have n9 : ∀ v, gI (sI h 72 7 v) 72 9 = iI w := fun v => by rw [gI_ne (by omega)]; exact h9
  have n8 : ∀ v, gI (sI h 72 7 v) 72 8 = iI c := fun v => by rw [gI_ne (by omega)]; exact h8
  simp only [join_eq, nm_eq, n9, n8, h7, h9]
  rcases (show w = 0 ∨ w = 1 ∨ w = 2 ∨ w = 3 by omega) with rfl | rfl | rfl | rfl <;> simp (disch := omega) only [iI_add, iI_sub, iI_mul, iI_neg, ald_i, ast_i, aldL_i, astL_i, tld_i, rng_i, acp_i, nz_i, rZ0, rZ1, cal_some, cal2_some, join_eq, nm_eq, gI_same, gI_ne, gL_same, gL_ne, gI_sL, gL_sI, iI_lt, iI_le, iI_eq, iI_zero, mnI_i, mxI_i, if_pos, if_neg, ifT, ifF, not_true_eq_false, not_false_eq_true, Int.toNat_natCast] <;> simp [Int.sub_eq_add_neg]
theorem m_isOut {r c : Int} (h7 : gI h 72 7 = iI r) (h8 : gI h 72 8 = iI c) (hR : gI h 73 0 = iI R) (hC : gI h 73 1 = iI C) (hr : -1 ≤ r ∧ r ≤ 5) (hc : -1 ≤ c ∧ c ≤ 5) (hR5 : R ≤ 5) (hC5 : C ≤ 5) :
    f_X11_isOut h = some (bn (decide (r < 0 ∨ (R : Int) ≤ r ∨ c < 0 ∨ (C : Int) ≤ c))) := by
  unfold f_X11_isOut
  rw [ald_i (by omega) (by omega), show (0 : Int).toNat = 0 from rfl, hR, h7, iI_sub, m_in (by omega) (by omega) (by omega), cal_some, join_eq]
  by_cases e1 : 0 ≤ r ∧ r ≤ (R : Int) - 1
  · rw [decide_eq_true e1, bn_true, if_neg (by decide), ald_i (by omega) (by omega), show (1 : Int).toNat = 1 from rfl, hC, h8, iI_sub, m_in (by omega) (by omega) (by omega), cal_some]
    by_cases e2 : 0 ≤ c ∧ c ≤ (C : Int) - 1
    · rw [decide_eq_true e2, bn_true, if_pos (by decide), decide_eq_false (by omega), rZ0]; rfl
    · rw [decide_eq_false e2, bn_false, if_neg (by decide), decide_eq_true (by omega), rZ1]; rfl
  · rw [decide_eq_false e1, bn_false, if_pos (by decide), decide_eq_true (by omega), rZ1]; rfl
theorem m_window {r c : Int} {w : Nat} (h7 : gI h 72 7 = iI r) (h8 : gI h 72 8 = iI c) (h9 : gI h 72 9 = iI w) (h4 : w < 4) (hR : gI h 73 0 = iI R) (hC : gI h 73 1 = iI C) :
    f_X11_windowThere h = some (iI (if w = 0 then c else if w = 1 then C + r else if w = 2 then C + R + c else 2 * C + R + r)) := by
  unfold f_X11_windowThere
  rw [ald_i (by omega) (by omega), ald_i (by omega) (by omega), show (1 : Int).toNat = 1 from rfl, show (0 : Int).toNat = 0 from rfl, hR, hC, h7, h8, h9]
  rcases (show w = 0 ∨ w = 1 ∨ w = 2 ∨ w = 3 by omega) with rfl | rfl | rfl | rfl <;> simp (disch := omega) only [iI_add, iI_sub, iI_mul, iI_neg, ald_i, ast_i, aldL_i, astL_i, tld_i, rng_i, acp_i, nz_i, rZ0, rZ1, cal_some, cal2_some, join_eq, nm_eq, gI_same, gI_ne, gL_same, gL_ne, gI_sL, gL_sI, iI_lt, iI_le, iI_eq, iI_zero, mnI_i, mxI_i, if_pos, if_neg, ifT, ifF, not_true_eq_false, not_false_eq_true, Int.toNat_natCast] <;> rfl
theorem k_lit {x : Nat} {β : Type} {P : Int32 → Option β} (hx : x ≤ 9999) : (if iI 9999 ≤ iI x then P (iI 9999) else P (iI x + iI 1)) = P (iI (min 9999 (x + 1) : Nat)) := by
  have e : (iI 9999 ≤ iI x) = ((9999 : Int) ≤ x) := iI_le ⟨by omega, by omega⟩
  by_cases e9 : x = 9999
  · rw [if_pos (by rw [e]; omega), e9]; rfl
  · rw [if_neg (by rw [e]; omega), iI_add, show min 9999 (x + 1) = x + 1 by omega]; rfl
theorem k_lit2 {x : Nat} {β : Type} {P : Int32 → Option β} (hx : x ≤ 9999) : (join P fun K4 => if iI 9999 ≤ iI x then K4 (iI 9999) else cal (some (iI x)) fun v15 => K4 (v15 + iI 1)) = P (iI (min 9999 (x + 1) : Nat)) := k_lit hx
theorem stp_thr {k : Nat} (h : stp k = true) : thr k = false := by
  unfold stp at h
  unfold thr
  simp at h
  rcases h with rfl | rfl <;> rfl
theorem m_comes {q w n th : Nat} (hh : RM h 73 R C K M S T L) (hq : q < 25) (hK : K q ≤ 6) (hM : M q ≤ 9) (hT : T q < 2 + M q % 3) (hL : L q ≤ 9999) (h9 : gI h 72 9 = iI w) (h10 : gI h 72 10 = iI n) (h11 : gI h 72 11 = iI th) (hw : w < 4) :
    ∃ h2, f_X11_comesInto h (iI q) = some (bn (stp (K q)), h2) ∧ RM h2 73 R C K M (if thr (K q) then upB S q (turnS (K q) (M q) (S q) (T q)) else S) (if thr (K q) then upN T q (turnT (K q) (M q) (T q)) else T) (upN L q (min 9999 (L q + 1))) ∧ gI h2 72 9 = iI (if thr (K q) then bend w (S q) else w : Nat) ∧ gI h2 72 10 = iI (n + 1 : Nat) ∧ gI h2 72 11 = iI (if thr (K q) then th + 1 else th : Nat) ∧ (∀ k, k ≠ 9 → k ≠ 10 → k ≠ 11 → gI h2 72 k = gI h 72 k) ∧ FrM h h2 := by
  unfold f_X11_comesInto f_X11_comesInto_k4
  rw [nm_eq, h10, iI_add]
  have hA : RM (sI h 72 10 (iI ((n : Int) + 1))) 73 R C K M S T L := rm_far hh (by omega)
  rw [m_its4 hq, cal_some, (hA.2.2 q hq).2.2.2.2, k_lit2 hL, m_puts4 hq, cal_some]
  have hB := rm_lit (q := q) (v := min 9999 (L q + 1)) hA
  generalize hm1 : sI (sI h 72 10 (iI ((n : Int) + 1))) 73 (10 + 5 * q + 4) (iI (min 9999 (L q + 1) : Nat)) = m1 at hB ⊢
  have g10 : gI m1 72 10 = iI (n + 1 : Nat) := by rw [← hm1, gI_ne (by omega), gI_same]; rfl
  have gF : ∀ k, k ≠ 10 → gI m1 72 k = gI h 72 k := fun k hk => by rw [← hm1, gI_ne (by omega), gI_ne (by omega)]
  have fF : FrM h m1 := by rw [← hm1]; exact (FrM.fld (by omega)).tr (FrM.row (by omega))
  rw [m_throws hB hq hK, cal_some, join_eq]
  cases hth : thr (K q)
  · rw [bn_false, if_pos (by decide)]
    dsimp only
    rw [m_stops hB hq hK, cal_some]
    refine ⟨m1, ?_, hB, by rw [gF _ (by omega)]; exact h9, g10, by rw [gF _ (by omega)]; exact h11, fun k _ hk _ => gF k hk, fF⟩
    cases stp (K q)
    · rw [bn_false, rZ0]
    · rw [bn_true, rZ1]
  · have hst : stp (K q) = false := by
      cases hs : stp (K q)
      · rfl
      · rw [stp_thr hs] at hth; exact absurd hth (by decide)
    rw [bn_true, if_neg (by decide), m_its2 hq, cal_some, (hB.2.2 q hq).2.2.1, gF 9 (by omega), h9, m_thrown hw, cal_some, nm_eq, nm_eq, gI_ne (by omega), gF 11 (by omega), h11, iI_add]
    have hE : RM (sI (sI m1 72 9 (iI (bend w (S q)))) 72 11 (iI ((th : Int) + 1))) 73 R C K M S T (upN L q (min 9999 (L q + 1))) := rm_far (rm_far hB (by omega)) (by omega)
    obtain ⟨m2, e1, e2, e3, e4⟩ := m_turns hE hq hK hM hT
    rw [e1, cal_some]
    dsimp only
    rw [m_stops e2 hq hK, cal_some, hst, bn_false, rZ0]
    refine ⟨m2, rfl, e2, ?_, ?_, ?_, fun k k9 k10 k11 => ?_, ?_⟩
    · rw [e4, gI_ne (by omega), gI_same]; rfl
    · rw [e4, gI_ne (by omega), gI_ne (by omega)]; exact g10
    · rw [e4, gI_same]; rfl
    · rw [e4, gI_ne (by omega), gI_ne (by omega)]; exact gF k k10
    · exact fF.tr (((FrM.fld (by omega)).tr (FrM.fld (by omega))).tr e3)
end MLEAF
