/-! the gates of the operations: within, squares, windows, failures -/
section GATE
variable {h : Mem} {a R C : Nat} {K M T L : Nat → Nat} {S : Nat → Bool}
theorem w_within {x b c : Int} (ha : -2147483648 ≤ x ∧ x < 2147483648) (hb : -2147483648 ≤ b ∧ b < 2147483648) (hc : -2147483648 ≤ c ∧ c < 2147483648) : f_X10_within h (iI x) (iI b) (iI c) = some (bn (decide (b ≤ x ∧ x ≤ c))) := m_in (h := h) ha hb hc
theorem w_squares (hh : HC h a R C K M S T L) : f_X3_squares h a = some (iI (R * C : Nat)) := by
  unfold f_X3_squares
  rw [hh.1, hh.2.1, iI_mul]; rfl
theorem w_windows (hh : HC h a R C K M S T L) : f_X3_windows h a = some (iI (2 * (R + C) : Nat)) := by
  unfold f_X3_windows
  rw [hh.1, hh.2.1, iI_add, iI_mul]
  rfl
theorem m_many (hh : RM h 73 R C K M S T L) : f_X11_many h = some (iI (R * C : Nat)) := by
  unfold f_X11_many
  rw [ald_i (by omega) (by omega), ald_i (by omega) (by omega), show (1 : Int).toNat = 1 from rfl, show (0 : Int).toNat = 0 from rfl, hh.1, hh.2.1, iI_mul]; rfl
theorem m_windows (hh : RM h 73 R C K M S T L) : f_X11_windows h = some (iI (2 * (R + C) : Nat)) := by
  unfold f_X11_windows
  rw [ald_i (by omega) (by omega), ald_i (by omega) (by omega), show (1 : Int).toNat = 1 from rfl, show (0 : Int).toNat = 0 from rfl, hh.1, hh.2.1, iI_add, iI_mul]; rfl
theorem m_isSquare {z : Int} (hh : RM h 73 R C K M S T L) (hV : VS R C K M) (hz : -2147483648 ≤ z ∧ z < 2147483648) : f_X11_isSquare h (iI z) = some (bn (decide (0 ≤ z ∧ z < (R * C : Nat)))) := by
  have h25 := sq_25 hV.2.1 hV.2.2.2.1
  unfold f_X11_isSquare
  rw [m_many hh, cal_some, iI_sub, m_in hz (by omega) (by omega), cal_some, rZbn, show decide (0 ≤ z ∧ z ≤ ((R * C : Nat) : Int) - 1) = decide (0 ≤ z ∧ z < (R * C : Nat)) from decide_eq_decide.mpr ⟨fun p => ⟨p.1, by omega⟩, fun p => ⟨p.1, by omega⟩⟩]
theorem m_isWindow {z : Int} (hh : RM h 73 R C K M S T L) (hV : VS R C K M) (hz : -2147483648 ≤ z ∧ z < 2147483648) : f_X11_isWindow h (iI z) = some (bn (decide (0 ≤ z ∧ z < (2 * (R + C) : Nat)))) := by
  have h1 := hV.2.1
  have h2 := hV.2.2.2.1
  unfold f_X11_isWindow
  rw [m_windows hh, cal_some, iI_sub, m_in hz (by omega) (by omega), cal_some, rZbn, show decide (0 ≤ z ∧ z ≤ ((2 * (R + C) : Nat) : Int) - 1) = decide (0 ≤ z ∧ z < (2 * (R + C) : Nat)) from decide_eq_decide.mpr ⟨fun p => ⟨p.1, by omega⟩, fun p => ⟨p.1, by omega⟩⟩]
theorem w_hasSquare {z : Int} (hh : HC h a R C K M S T L) (hV : VS R C K M) (hz : -2147483648 ≤ z ∧ z < 2147483648) : f_X3_hasSquare h a (iI z) = some (bn (decide (0 ≤ z ∧ z < (R * C : Nat)))) := by
  have h25 := sq_25 hV.2.1 hV.2.2.2.1
  unfold f_X3_hasSquare
  rw [w_squares hh, cal_some, iI_sub, w_within hz (by omega) (by omega), cal_some, rZbn, show decide (0 ≤ z ∧ z ≤ ((R * C : Nat) : Int) - 1) = decide (0 ≤ z ∧ z < (R * C : Nat)) from decide_eq_decide.mpr ⟨fun p => ⟨p.1, by omega⟩, fun p => ⟨p.1, by omega⟩⟩]
theorem w_hasWindow {z : Int} (hh : HC h a R C K M S T L) (hV : VS R C K M) (hz : -2147483648 ≤ z ∧ z < 2147483648) : f_X3_hasWindow h a (iI z) = some (bn (decide (0 ≤ z ∧ z < (2 * (R + C) : Nat)))) := by
  have h1 := hV.2.1
  have h2 := hV.2.2.2.1
  unfold f_X3_hasWindow
  rw [w_windows hh, cal_some, iI_sub, w_within hz (by omega) (by omega), cal_some, rZbn, show decide (0 ≤ z ∧ z ≤ ((2 * (R + C) : Nat) : Int) - 1) = decide (0 ≤ z ∧ z < (2 * (R + C) : Nat)) from decide_eq_decide.mpr ⟨fun p => ⟨p.1, by omega⟩, fun p => ⟨p.1, by omega⟩⟩]
theorem w_fail {e : Nat} (he : 1 ≤ e ∧ e ≤ 5) : f_X10_fail h (iI e) = some (iI (-1000000000 - (e : Int)), sI h 1 e (gI h 1 e + iI 1)) := by
  unfold f_X10_fail
  rw [w_within (by omega) (by omega) (by omega), cal_some, decide_eq_true (by omega), bn_true, join_eq, if_neg (by decide), ald_i (by omega) (by omega), ast_i (by omega) (by omega), Int.toNat_natCast, iI_sub]
theorem m_errs {e : Nat} (he : 1 ≤ e ∧ e ≤ 5) : f_X11_errs h (iI (-1000000000 - (e : Int))) = some (iI (-1000000000 - (e : Int)), sI h 77 e (gI h 77 e + iI 1)) := by
  unfold f_X11_errs
  rw [iI_sub, ald_i (by omega) (by omega), ast_i (by omega) (by omega), show (-1000000000 - (-1000000000 - (e : Int))).toNat = e by omega]
end GATE
