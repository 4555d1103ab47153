section HALLOP2
def hall0 (g : GS) (R C : Nat) : GS := g.put (g.now.row R C (fun _ => 0) (fun _ => 0) (fun _ => false) (fun _ => 0) (fun _ => 0))
theorem c_hall {h : Mem} {g : GS} {x y : Int} (hc : CSt h g) (hx : -2147483648 ≤ x ∧ x < 2147483648) (hy : -2147483648 ≤ y ∧ y < 2147483648) :
    OPC h (f_X10_hall h (iI x) (iI y)) (if (1 ≤ x ∧ x ≤ 5) ∧ (1 ≤ y ∧ y ≤ 5) then iI (2 * (x.toNat + y.toNat) : Nat) else iI (-1000000001)) (if (1 ≤ x ∧ x ≤ 5) ∧ (1 ≤ y ∧ y ≤ 5) then hall0 g x.toNat y.toNat else g.fail 1) := by
  unfold f_X10_hall
  rw [w_within hx (by omega) (by omega), cal_some, join_eq, cal2_id]
  by_cases e1 : 1 ≤ x ∧ x ≤ 5
  · rw [decide_eq_true e1, bn_true, if_neg (by decide), w_within hy (by omega) (by omega), cal_some]
    by_cases e2 : 1 ≤ y ∧ y ≤ 5
    · rw [decide_eq_true e2, bn_true, if_pos (by decide), if_pos ⟨e1, e2⟩, if_pos ⟨e1, e2⟩]
      obtain ⟨h2, p1, p2, p3, p4⟩ := w_clear (h := h) (a := 3) (r := x.toNat) (c := y.toNat)
      rw [show (x.toNat : Int) = x by omega, show (y.toNat : Int) = y by omega] at p1
      rw [p1, cal_some, w_windows p2, cal_some]
      exact ⟨h2, rfl, hc.row p2 (fun x k hk => p3 x k (by omega)) p4, fun x k hk => ⟨p3 x k (by omega), p4 x k (by omega)⟩⟩
    · rw [decide_eq_false e2, bn_false, if_neg (by decide), if_neg (fun z => e2 z.2), if_neg (fun z => e2 z.2)]
      exact c_fail hc (e := 1) (by omega)
  · rw [decide_eq_false e1, bn_false, if_pos (by decide), if_neg (fun z => e1 z.1), if_neg (fun z => e1 z.1)]
    exact c_fail hc (e := 1) (by omega)
end HALLOP2
