section SQUAREOP2
theorem m_square {h : Mem} {g : GS} {x y z : Int} (hm : MSt h g) (hg : GV g) (hx : -2147483648 ≤ x ∧ x < 2147483648) (hy : -2147483648 ≤ y ∧ y < 2147483648) (hz : -2147483648 ≤ z ∧ z < 2147483648) :
    OPM h (f_X11_square h (iI x) (iI y) (iI z)) (if sqrOk g x y z then iI (g.now.K x.toNat) else iI (-1000000001)) (if sqrOk g x y z then sqr0 g x.toNat y.toNat (decide (z = 1)) else g.fail 1) := by
  have hh := hm.1.1
  have hV := hg.1.1
  have h25 := sq_25 hV.2.1 hV.2.2.2.1
  unfold f_X11_square
  rw [m_isSquare hh hV hx, cal_some, join_eq, cal2_id]
  by_cases e1 : 0 ≤ x ∧ x < (g.now.R * g.now.C : Nat)
  · rw [decide_eq_true e1, bn_true, if_neg (by decide), m_in hy (by omega) (by omega), cal_some]
    by_cases e2 : 0 ≤ y ∧ y ≤ 69
    · rw [decide_eq_true e2, bn_true, if_neg (by decide), m_in hz (by omega) (by omega), cal_some]
      by_cases e3 : 0 ≤ z ∧ z ≤ 1
      · have hok : sqrOk g x y z := ⟨e1, e2, e3⟩
        obtain ⟨q, rfl⟩ : ∃ q : Nat, x = (q : Int) := ⟨x.toNat, by omega⟩
        have hq : q < 25 := by omega
        rw [decide_eq_true e3, bn_true, if_pos (by decide), if_pos hok, if_pos hok, m_its0 hq, cal_some, (hh.2.2 q hq).1, nz_i (by omega), iI_div (by omega) (by omega), m_puts0 hq, cal_some, nz_i (by omega), iI_rem (by omega) (by omega), m_puts1 hq, cal_some, m_puts2 hq, cal_some, m_puts3 hq, cal_some]
        have p := rm_time (q := q) (v := 0) (rm_slant (q := q) (b := decide (z = 1)) (rm_num (q := q) (v := y.toNat % 10) (rm_kind (q := q) (v := y.toNat / 10) hh)))
        rw [show ((y.toNat / 10 : Nat) : Int) = y / 10 by omega, show ((y.toNat % 10 : Nat) : Int) = y % 10 by omega, show bn (decide (z = 1)) = iI z by rcases (show z = 0 ∨ z = 1 by omega) with rfl | rfl <;> rfl] at p
        refine ⟨_, rfl, hm.row hg p fun a k q1 q2 q3 => ?_, fun a k hk => ⟨?_, rfl⟩⟩
        · rw [gI_ne (by omega), gI_ne (by omega), gI_ne (by omega), gI_ne (by omega)]
        · rw [gI_ne (by omega), gI_ne (by omega), gI_ne (by omega), gI_ne (by omega)]
      · rw [decide_eq_false e3, bn_false, if_neg (by decide), if_neg (fun w => e3 w.2.2), if_neg (fun w => e3 w.2.2)]
        exact c_errs hm hg (e := 1) (by omega)
    · rw [decide_eq_false e2, bn_false, if_pos (by decide), if_neg (fun w => e2 w.2.1), if_neg (fun w => e2 w.2.1)]
      exact c_errs hm hg (e := 1) (by omega)
  · rw [decide_eq_false e1, bn_false, if_pos (by decide), if_neg (fun w => e1 w.1), if_neg (fun w => e1 w.1)]
    exact c_errs hm hg (e := 1) (by omega)
end SQUAREOP2
