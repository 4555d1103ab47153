section TOLD
variable {h : Mem} {g : GS} {z : Int}
theorem OPC.same {v : Int32} (hc : CSt h g) : OPC h (some (v, h)) v g := ⟨h, rfl, hc, fun _ _ _ => ⟨rfl, rfl⟩⟩
theorem OPM.same {v : Int32} (hm : MSt h g) : OPM h (some (v, h)) v g := ⟨h, rfl, hm, fun _ _ _ => ⟨rfl, rfl⟩⟩
theorem cal2_id {x : Option (Int32 × Mem)} : (cal2 x fun v h => some (v, h)) = x := by cases x <;> rfl
theorem c_told (hc : CSt h g) (hz : -2147483648 ≤ z ∧ z < 2147483648) : OPC h (f_X10_told h (iI z)) (if 1 ≤ z ∧ z ≤ 5 then g.fl z.toNat else iI (-1000000001)) (if 1 ≤ z ∧ z ≤ 5 then g else g.fail 1) := by
  unfold f_X10_told
  rw [w_within hz (by omega) (by omega), cal_some]
  by_cases e : 1 ≤ z ∧ z ≤ 5
  · rw [if_pos e, if_pos e, decide_eq_true e, bn_true, if_neg (by decide), ald_i (by omega) (by omega), hc.2.2.2.1 _ (by omega) (by omega)]
    exact OPC.same hc
  · rw [if_neg e, if_neg e, decide_eq_false e, bn_false, if_pos (by decide), cal2_id]
    exact c_fail hc (e := 1) (by omega)
theorem m_told (hm : MSt h g) (hg : GV g) (hz : -2147483648 ≤ z ∧ z < 2147483648) : OPM h (f_X11_told h (iI z)) (if 1 ≤ z ∧ z ≤ 5 then g.fl z.toNat else iI (-1000000001)) (if 1 ≤ z ∧ z ≤ 5 then g else g.fail 1) := by
  unfold f_X11_told
  rw [m_in hz (by omega) (by omega), cal_some]
  by_cases e : 1 ≤ z ∧ z ≤ 5
  · rw [if_pos e, if_pos e, decide_eq_true e, bn_true, if_neg (by decide), ald_i (by omega) (by omega), hm.2.2.2.2.1 _ (by omega) (by omega)]
    exact OPM.same hm
  · rw [if_neg e, if_neg e, decide_eq_false e, bn_false, if_pos (by decide), cal2_id]
    exact c_errs hm hg (e := 1) (by omega)
theorem c_trace (hc : CSt h g) (hg : GV g) (hz : -2147483648 ≤ z ∧ z < 2147483648) : OPC h (f_X10_trace h (iI z)) (if 0 ≤ z ∧ z < g.trace.length then g.trace.getD z.toNat 0 else iI (-1000000002)) (if 0 ≤ z ∧ z < g.trace.length then g else g.fail 2) := by
  have h40 := hg.2.2.2.1
  unfold f_X10_trace
  rw [hc.2.2.2.2.2.1, iI_sub, w_within hz (by omega) (by omega), cal_some, show decide (0 ≤ z ∧ z ≤ (g.trace.length : Int) - 1) = decide (0 ≤ z ∧ z < g.trace.length) from decide_eq_decide.mpr ⟨fun p => ⟨p.1, by omega⟩, fun p => ⟨p.1, by omega⟩⟩]
  by_cases e : 0 ≤ z ∧ z < g.trace.length
  · have hl := hc.2.2.2.2.2.2.1 z.toNat (by omega)
    rw [Nat.zero_add] at hl
    rw [if_pos e, if_pos e, decide_eq_true e, bn_true, if_neg (by decide), ald_i (by omega) (by omega), hl, ← List.getElem_eq_getD (h := by omega) 0]
    exact OPC.same hc
  · rw [if_neg e, if_neg e, decide_eq_false e, bn_false, if_pos (by decide), cal2_id]
    exact c_fail hc (e := 2) (by omega)
theorem m_trace (hm : MSt h g) (hg : GV g) (hz : -2147483648 ≤ z ∧ z < 2147483648) : OPM h (f_X11_trace h (iI z)) (if 0 ≤ z ∧ z < g.trace.length then g.trace.getD z.toNat 0 else iI (-1000000002)) (if 0 ≤ z ∧ z < g.trace.length then g else g.fail 2) := by
  have h40 := hg.2.2.2.1
  unfold f_X11_trace
  rw [hm.2.2.2.2.2.2.1, iI_sub, m_in hz (by omega) (by omega), cal_some, show decide (0 ≤ z ∧ z ≤ (g.trace.length : Int) - 1) = decide (0 ≤ z ∧ z < g.trace.length) from decide_eq_decide.mpr ⟨fun p => ⟨p.1, by omega⟩, fun p => ⟨p.1, by omega⟩⟩]
  by_cases e : 0 ≤ z ∧ z < g.trace.length
  · have hl := hm.2.2.2.2.2.2.2.1 z.toNat (by omega)
    rw [Nat.zero_add] at hl
    rw [if_pos e, if_pos e, decide_eq_true e, bn_true, if_neg (by decide), ald_i (by omega) (by omega), hl, ← List.getElem_eq_getD (h := by omega) 0]
    exact OPM.same hm
  · rw [if_neg e, if_neg e, decide_eq_false e, bn_false, if_pos (by decide), cal2_id]
    exact c_errs hm hg (e := 2) (by omega)
end TOLD
