/-- the hall at the cell a: R rows, C columns, K kinds, M numbers, S slants, T times, L lit -/
def HC (h : Mem) (a R C : Nat) (K M : Nat → Nat) (S : Nat → Bool) (T L : Nat → Nat) : Prop :=
  gI h a 0 = iI R ∧ gI h a 1 = iI C ∧ (∀ q, q < 25 → gI h (a + 1) q = iI (K q)) ∧ (∀ q, q < 25 → gI h (a + 2) q = iI (M q)) ∧ (∀ q, q < 25 → gI h (a + 3) q = iI (L q)) ∧ gI h a 5 = slW S ∧ gL h a 6 = tmW T
/-- numbers of a hall are such as they can be -/
def VS (R C : Nat) (K M : Nat → Nat) : Prop := 1 ≤ R ∧ R ≤ 5 ∧ 1 ≤ C ∧ C ≤ 5 ∧ (∀ q, K q ≤ 6) ∧ (∀ q, M q ≤ 9)
def VD (R C : Nat) (M : Nat → Nat) (S : Nat → Bool) (T L : Nat → Nat) : Prop := (∀ q, T q < 2 + M q % 3) ∧ (∀ q, L q ≤ 9999) ∧ (∀ q, R * C ≤ q → S q = false ∧ T q = 0)
theorem sq_lt {R C r c : Nat} (hr : r < R) (hc : c < C) : r * C + c < R * C := by
  have h1 : (r + 1) * C ≤ R * C := Nat.mul_le_mul_right C (by omega)
  rw [Nat.add_mul] at h1
  omega
theorem sq_25 {R C : Nat} (hR : R ≤ 5) (hC : C ≤ 5) : R * C ≤ 25 := Nat.mul_le_mul hR hC
theorem VS.q {R C r c : Nat} {K M : Nat → Nat} (hV : VS R C K M) (hr : r < R) (hc : c < C) : r * C + c < 25 :=
  Nat.lt_of_lt_of_le (sq_lt hr hc) (sq_25 hV.2.1 hV.2.2.2.1)
theorem turnT_lt {k m t : Nat} (h : t < 2 + m % 3) : turnT k m t < 2 + m % 3 := by
  unfold turnT
  split
  · split
    · omega
    · omega
  · exact h
theorem VD.step {R C q l : Nat} {M : Nat → Nat} {S : Nat → Bool} {T L : Nat → Nat} {k : Nat} {b : Bool} (hD : VD R C M S T L) (hq : q < R * C) (hl : l ≤ 9999) : VD R C M (upB S q b) (upN T q (turnT k (M q) (T q))) (upN L q l) := by
  refine ⟨fun p => ?_, fun p => ?_, fun p hp => ?_⟩
  · unfold upN; split
    · next h => rw [h]; exact turnT_lt (hD.1 q)
    · exact hD.1 p
  · unfold upN; split
    · exact hl
    · exact hD.2.1 p
  · have hn : p ≠ q := by omega
    unfold upB upN
    rw [if_neg hn, if_neg hn]
    exact hD.2.2 p hp
theorem VD.lit {R C q l : Nat} {M : Nat → Nat} {S : Nat → Bool} {T L : Nat → Nat} (hD : VD R C M S T L) (hl : l ≤ 9999) : VD R C M S T (upN L q l) :=
  ⟨hD.1, fun p => by unfold upN; split; exact hl; exact hD.2.1 p, hD.2.2⟩
section BEAM
variable {h : Mem} {a b R C : Nat}
theorem w_bend {w : Nat} {s : Bool} (hw : gI h b 2 = iI w) (h4 : w < 4) : f_X0_bend h b (bn s) = some (sI h b 2 (iI (bend w s))) := by
  unfold f_X0_bend
  rw [hw]
  rcases (show w = 0 ∨ w = 1 ∨ w = 2 ∨ w = 3 by omega) with rfl | rfl | rfl | rfl <;> cases s <;> rfl
theorem bend_lt {w : Nat} {s : Bool} (h4 : w < 4) : bend w s < 4 := by
  unfold bend
  split
  · omega
  · split
    · omega
    · split
      · omega
      · split <;> omega
theorem w_goOn {w : Nat} {r c : Int} (h0 : gI h b 0 = iI r) (h1 : gI h b 1 = iI c) (hw : gI h b 2 = iI w) (h4 : w < 4) :
    f_X0_goOn h b = some (if w = 0 then sI h b 0 (iI (r - 1)) else if w = 1 then sI h b 1 (iI (c + 1)) else if w = 2 then sI h b 0 (iI (r + 1)) else sI h b 1 (iI (c - 1))) := by
  unfold f_X0_goOn
  rw [h0, h1, hw]
  rcases (show w = 0 ∨ w = 1 ∨ w = 2 ∨ w = 3 by omega) with rfl | rfl | rfl | rfl <;> simp (disch := omega) only [iI_add, iI_sub, iI_mul, iI_neg, ald_i, ast_i, aldL_i, astL_i, tld_i, rng_i, acp_i, nz_i, rZ0, rZ1, cal_some, cal2_some, join_eq, nm_eq, gI_same, gI_ne, gL_same, gL_ne, gI_sL, gL_sI, iI_lt, iI_le, iI_eq, iI_zero, mnI_i, mxI_i, if_pos, if_neg, ifT, ifF, not_true_eq_false, not_false_eq_true, Int.toNat_natCast]
theorem w_isOut {r c : Int} (h0 : gI h b 0 = iI r) (h1 : gI h b 1 = iI c) (hR : gI h a 0 = iI R) (hC : gI h a 1 = iI C) (hr : -1 ≤ r ∧ r ≤ 5) (hc : -1 ≤ c ∧ c ≤ 5) (hR5 : R ≤ 5) (hC5 : C ≤ 5) :
    f_X0_isOutside h b a = some (bn (decide (r < 0 ∨ (R : Int) ≤ r ∨ c < 0 ∨ (C : Int) ≤ c))) := by
  unfold f_X0_isOutside
  rw [h0, h1, hR, hC]
  by_cases e1 : r < 0
  · simp (disch := omega) only [iI_add, iI_sub, iI_mul, iI_neg, ald_i, ast_i, aldL_i, astL_i, tld_i, rng_i, acp_i, nz_i, rZ0, rZ1, cal_some, cal2_some, join_eq, nm_eq, gI_same, gI_ne, gL_same, gL_ne, gI_sL, gL_sI, iI_lt, iI_le, iI_eq, iI_zero, mnI_i, mxI_i, if_pos, if_neg, ifT, ifF, not_true_eq_false, not_false_eq_true, Int.toNat_natCast]; simp [e1, bn]
  · by_cases e2 : (R : Int) ≤ r
    · simp (disch := omega) only [iI_add, iI_sub, iI_mul, iI_neg, ald_i, ast_i, aldL_i, astL_i, tld_i, rng_i, acp_i, nz_i, rZ0, rZ1, cal_some, cal2_some, join_eq, nm_eq, gI_same, gI_ne, gL_same, gL_ne, gI_sL, gL_sI, iI_lt, iI_le, iI_eq, iI_zero, mnI_i, mxI_i, if_pos, if_neg, ifT, ifF, not_true_eq_false, not_false_eq_true, Int.toNat_natCast]; simp [e2, bn]
    · by_cases e3 : c < 0
      · simp (disch := omega) only [iI_add, iI_sub, iI_mul, iI_neg, ald_i, ast_i, aldL_i, astL_i, tld_i, rng_i, acp_i, nz_i, rZ0, rZ1, cal_some, cal2_some, join_eq, nm_eq, gI_same, gI_ne, gL_same, gL_ne, gI_sL, gL_sI, iI_lt, iI_le, iI_eq, iI_zero, mnI_i, mxI_i, if_pos, if_neg, ifT, ifF, not_true_eq_false, not_false_eq_true, Int.toNat_natCast]; simp [e3, bn]
      · by_cases e4 : (C : Int) ≤ c
        · simp (disch := omega) only [iI_add, iI_sub, iI_mul, iI_neg, ald_i, ast_i, aldL_i, astL_i, tld_i, rng_i, acp_i, nz_i, rZ0, rZ1, cal_some, cal2_some, join_eq, nm_eq, gI_same, gI_ne, gL_same, gL_ne, gI_sL, gL_sI, iI_lt, iI_le, iI_eq, iI_zero, mnI_i, mxI_i, if_pos, if_neg, ifT, ifF, not_true_eq_false, not_false_eq_true, Int.toNat_natCast]; simp [e4, bn]
        · simp (disch := omega) only [iI_add, iI_sub, iI_mul, iI_neg, ald_i, ast_i, aldL_i, astL_i, tld_i, rng_i, acp_i, nz_i, rZ0, rZ1, cal_some, cal2_some, join_eq, nm_eq, gI_same, gI_ne, gL_same, gL_ne, gI_sL, gL_sI, iI_lt, iI_le, iI_eq, iI_zero, mnI_i, mxI_i, if_pos, if_neg, ifT, ifF, not_true_eq_false, not_false_eq_true, Int.toNat_natCast]; simp [e1, e2, e3, e4, bn]
theorem w_enter {win : Nat} (hR : gI h a 0 = iI R) (hC : gI h a 1 = iI C) (hab : a ≠ b) (hw : win < 2 * (R + C)) (hR1 : 1 ≤ R) (hC1 : 1 ≤ C) (hR5 : R ≤ 5) (hC5 : C ≤ 5) :
    f_X0_enter h b a (iI win) = some (sI (sI (sI h b 0 (iI (entR R C win))) b 1 (iI (entC R C win))) b 2 (iI (entW R C win))) := by
  unfold f_X0_enter f_X0_start entR entC entW
  rw [hR, hC]
  by_cases e1 : win < C
  · simp (disch := omega) only [iI_add, iI_sub, iI_mul, iI_neg, ald_i, ast_i, aldL_i, astL_i, tld_i, rng_i, acp_i, nz_i, rZ0, rZ1, cal_some, cal2_some, join_eq, nm_eq, gI_same, gI_ne, gL_same, gL_ne, gI_sL, gL_sI, iI_lt, iI_le, iI_eq, iI_zero, mnI_i, mxI_i, if_pos, if_neg, ifT, ifF, not_true_eq_false, not_false_eq_true, Int.toNat_natCast]
    rfl
  · by_cases e2 : win < C + R
    · simp (disch := omega) only [iI_add, iI_sub, iI_mul, iI_neg, ald_i, ast_i, aldL_i, astL_i, tld_i, rng_i, acp_i, nz_i, rZ0, rZ1, cal_some, cal2_some, join_eq, nm_eq, gI_same, gI_ne, gL_same, gL_ne, gI_sL, gL_sI, iI_lt, iI_le, iI_eq, iI_zero, mnI_i, mxI_i, if_pos, if_neg, ifT, ifF, not_true_eq_false, not_false_eq_true, Int.toNat_natCast, show ((win - C : Nat) : Int) = (win : Int) - C by omega, show ((C - 1 : Nat) : Int) = (C : Int) - 1 by omega]
      rfl
    · by_cases e3 : win < 2 * C + R
      · simp (disch := omega) only [iI_add, iI_sub, iI_mul, iI_neg, ald_i, ast_i, aldL_i, astL_i, tld_i, rng_i, acp_i, nz_i, rZ0, rZ1, cal_some, cal2_some, join_eq, nm_eq, gI_same, gI_ne, gL_same, gL_ne, gI_sL, gL_sI, iI_lt, iI_le, iI_eq, iI_zero, mnI_i, mxI_i, if_pos, if_neg, ifT, ifF, not_true_eq_false, not_false_eq_true, Int.toNat_natCast, show ((R - 1 : Nat) : Int) = (R : Int) - 1 by omega, show ((win - C - R : Nat) : Int) = (win : Int) - C - R by omega]
        rfl
      · simp (disch := omega) only [iI_add, iI_sub, iI_mul, iI_neg, ald_i, ast_i, aldL_i, astL_i, tld_i, rng_i, acp_i, nz_i, rZ0, rZ1, cal_some, cal2_some, join_eq, nm_eq, gI_same, gI_ne, gL_same, gL_ne, gI_sL, gL_sI, iI_lt, iI_le, iI_eq, iI_zero, mnI_i, mxI_i, if_pos, if_neg, ifT, ifF, not_true_eq_false, not_false_eq_true, Int.toNat_natCast, show ((win - 2 * C - R : Nat) : Int) = (win : Int) - 2 * C - R by omega]
        rfl
theorem ent_ok {win : Nat} (hR : 1 ≤ R) (hC : 1 ≤ C) (hw : win < 2 * (R + C)) : entR R C win < R ∧ entC R C win < C ∧ entW R C win < 4 := by
  unfold entR entC entW
  by_cases e1 : win < C
  · simp only [if_pos e1]; omega
  · by_cases e2 : win < C + R
    · simp only [if_neg e1, if_pos e2]; omega
    · by_cases e3 : win < 2 * C + R
      · simp only [if_neg e1, if_neg e2, if_pos e3]; omega
      · simp only [if_neg e1, if_neg e2, if_neg e3]; omega
end BEAM
