section SQUAREOP
theorem w_become {h : Mem} {a q k m R C : Nat} {K M T L : Nat → Nat} {S : Nat → Bool} {b : Bool} (hh : HC h a R C K M S T L) (hT : ∀ q, T q < 4) (hq : q < 25) :
    ∃ h2, f_X3_become h a (iI q) (iI k) (iI m) (bn b) = some h2 ∧ HC h2 a R C (upN K q k) (upN M q m) (upB S q b) (upN T q 0) L ∧ (∀ x j, x < a ∨ a + 3 < x → gI h2 x j = gI h x j) ∧ (∀ x j, x ≠ a → gL h2 x j = gL h x j) := by
  obtain ⟨h1, h2', h3, h4, h5, h6, h7⟩ := hh
  unfold f_X3_become
  rw [ast_i (by omega) (by omega), ast_i (by omega) (by omega), Int.toNat_natCast, nm_eq, gI_ne (by omega), gI_ne (by omega), h6, sl_set hq]
  rw [show f_X3_putTime _ a (iI q) (iI 0) = _ from h_putTime (T := T) (t := 0) (by rw [gL_sI, gL_sI, gL_sI]; exact h7) hT hq (by omega), cal_some]
  refine ⟨_, rfl, ⟨?_, ?_, fun p hp => upN_ok (fun e => ?_) (fun e => ?_), fun p hp => upN_ok (fun e => ?_) (fun e => ?_), fun p hp => ?_, ?_, ?_⟩, fun x j hx => ?_, fun x j hx => ?_⟩
  · rw [gI_sL, gI_ne (by omega), gI_ne (by omega), gI_ne (by omega)]; exact h1
  · rw [gI_sL, gI_ne (by omega), gI_ne (by omega), gI_ne (by omega)]; exact h2'
  · rw [gI_sL, gI_ne (by omega), gI_ne (by omega), e, gI_same]
  · rw [gI_sL, gI_ne (by omega), gI_ne (by omega), gI_ne (by omega)]; exact h3 p hp
  · rw [gI_sL, gI_ne (by omega), e, gI_same]
  · rw [gI_sL, gI_ne (by omega), gI_ne (by omega), gI_ne (by omega)]; exact h4 p hp
  · rw [gI_sL, gI_ne (by omega), gI_ne (by omega), gI_ne (by omega)]; exact h5 p hp
  · rw [gI_sL, gI_same]
  · rw [gL_same]
  · rw [gI_sL, gI_ne (by omega), gI_ne (by omega), gI_ne (by omega)]
  · rw [gL_ne (by omega), gL_sI, gL_sI, gL_sI]
/-- a square is set: q, kind and number (k), slant -/
def sqr0 (g : GS) (q k : Nat) (b : Bool) : GS := g.put (g.now.row g.now.R g.now.C (upN g.now.K q (k / 10)) (upN g.now.M q (k % 10)) (upB g.now.S q b) (upN g.now.T q 0) g.now.L)
abbrev sqrOk (g : GS) (x y z : Int) : Prop := (0 ≤ x ∧ x < (g.now.R * g.now.C : Nat)) ∧ (0 ≤ y ∧ y ≤ 69) ∧ (0 ≤ z ∧ z ≤ 1)
theorem c_square {h : Mem} {g : GS} {x y z : Int} (hc : CSt h g) (hg : GV g) (hx : -2147483648 ≤ x ∧ x < 2147483648) (hy : -2147483648 ≤ y ∧ y < 2147483648) (hz : -2147483648 ≤ z ∧ z < 2147483648) :
    OPC h (f_X10_square h (iI x) (iI y) (iI z)) (if sqrOk g x y z then iI (g.now.K x.toNat) else iI (-1000000001)) (if sqrOk g x y z then sqr0 g x.toNat y.toNat (decide (z = 1)) else g.fail 1) := by
  have hh := hc.1.1
  have hV := hg.1.1
  have h25 := sq_25 hV.2.1 hV.2.2.2.1
  have hT : ∀ q, g.now.T q < 4 := fun q => by have := hg.1.2.1.1 q; omega
  unfold f_X10_square
  rw [w_hasSquare hh hV hx, cal_some, join_eq, cal2_id]
  by_cases e1 : 0 ≤ x ∧ x < (g.now.R * g.now.C : Nat)
  · rw [decide_eq_true e1, bn_true, if_neg (by decide), w_within hy (by omega) (by omega), cal_some]
    by_cases e2 : 0 ≤ y ∧ y ≤ 69
    · rw [decide_eq_true e2, bn_true, if_neg (by decide), w_within hz (by omega) (by omega), cal_some]
      by_cases e3 : 0 ≤ z ∧ z ≤ 1
      · have hok : sqrOk g x y z := ⟨e1, e2, e3⟩
        have hq : x.toNat < 25 := by omega
        rw [decide_eq_true e3, bn_true, if_pos (by decide), if_pos hok, if_pos hok, ald_i (by omega) (by omega), nz_i (by omega), nz_i (by omega), iI_div (by omega) (by omega), iI_rem (by omega) (by omega)]
        obtain ⟨h2, p1, p2, p3, p4⟩ := w_become (k := y.toNat / 10) (m := y.toNat % 10) (b := decide (z = 1)) hh hT hq
        rw [show ((y.toNat / 10 : Nat) : Int) = y / 10 by omega, show ((y.toNat % 10 : Nat) : Int) = y % 10 by omega, show (x.toNat : Int) = x by omega, show bn (decide (z = 1)) = iI z by rcases (show z = 0 ∨ z = 1 by omega) with rfl | rfl <;> rfl] at p1
        rw [p1, cal_some, show gI h 4 x.toNat = iI (g.now.K x.toNat) from hh.2.2.1 _ hq]
        exact ⟨h2, rfl, hc.row p2 (fun a k hk => p3 a k (by omega)) p4, fun a k hk => ⟨p3 a k (by omega), p4 a k (by omega)⟩⟩
      · rw [decide_eq_false e3, bn_false, if_neg (by decide), if_neg (fun w => e3 w.2.2), if_neg (fun w => e3 w.2.2)]
        exact c_fail hc (e := 1) (by omega)
    · rw [decide_eq_false e2, bn_false, if_pos (by decide), if_neg (fun w => e2 w.2.1), if_neg (fun w => e2 w.2.1)]
      exact c_fail hc (e := 1) (by omega)
  · rw [decide_eq_false e1, bn_false, if_pos (by decide), if_neg (fun w => e1 w.1), if_neg (fun w => e1 w.1)]
    exact c_fail hc (e := 1) (by omega)
end SQUAREOP
