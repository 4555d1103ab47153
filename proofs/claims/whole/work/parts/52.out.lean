section OUTOP
variable {h : Mem} {g : GS}
abbrev gry (g : GS) (w : Nat) : RES := ry g.now.R g.now.C g.now.K g.now.M w g.now.S g.now.T
theorem c_trial {a : Nat} (hc : CSt h g) (ha : a = 30 ∨ a = 40 ∨ a = 51 ∨ a = 57) :
    ∃ h2, f_X3_copyFrom h a 3 = some h2 ∧ HC h2 a g.now.R g.now.C g.now.K g.now.M g.now.S g.now.T g.now.L ∧ CSt h2 g ∧ FM h h2 ∧ (∀ x k, x < a ∨ a + 3 < x → gI h2 x k = gI h x k) ∧ (∀ x k, x ≠ a → gL h2 x k = gL h x k) := by
  obtain ⟨h2, e1, e2, e3, e4, e5, e6, e7, e8⟩ := w_hcopy (h := h) (a := a) (b := 3) (by omega)
  exact ⟨h2, e1, hc_copy hc.1.1 e4 e6 e8, hc.keep (fun x k q => e2 x k (by omega)) (e3 _ _ (by omega)) (e3 _ _ (by omega)), fun x k q => ⟨e2 x k (by omega), e3 x k (by omega)⟩, e2, e3⟩
def spOut (g : GS) (x y : Int) : Int32 × GS := if 0 ≤ x ∧ x < (2 * (g.now.R + g.now.C) : Nat) then (if 0 ≤ y ∧ y ≤ 3 then ((if y = 0 then iI (gry g x.toNat).1 else if y = 1 then iI (gry g x.toNat).2.2.2.2.2.2.1 else if y = 2 then iI (gry g x.toNat).2.2.2.2.1 else iI (cntB (fun q => (gry g x.toNat).2.1 q ^^ g.now.S q) 25)), g) else (iI (-1000000001), g.fail 1)) else (iI (-1000000001), g.fail 1)
theorem c_out {x y : Int} (hc : CSt h g) (hg : GV g) (hx : -2147483648 ≤ x ∧ x < 2147483648) (hy : -2147483648 ≤ y ∧ y < 2147483648) : OPC h (f_X10_out h (iI x) (iI y)) (spOut g x y).1 (spOut g x y).2 := by
  have hh := hc.1.1
  have hV := hg.1.1
  unfold f_X10_out spOut
  rw [w_hasWindow hh hV hx, cal_some, join_eq, cal2_id]
  by_cases e1 : 0 ≤ x ∧ x < (2 * (g.now.R + g.now.C) : Nat)
  · obtain ⟨w, rfl⟩ : ∃ w : Nat, x = w := ⟨x.toNat, by omega⟩
    rw [decide_eq_true e1, bn_true, if_neg (by decide), if_pos e1, w_within hy (by omega) (by omega), cal_some, Int.toNat_natCast]
    by_cases e2 : 0 ≤ y ∧ y ≤ 3
    · rw [decide_eq_true e2, bn_true, if_pos (by decide), if_pos e2]
      obtain ⟨m1, p1, p2, p3, p4, p5, p6⟩ := c_trial (a := 30) hc (by omega)
      obtain ⟨m2, r1, r2⟩ := w_ry (b := 29) hV (by omega) p2 hg.1.2.1 (win := w) (by omega)
      obtain ⟨c2, f2⟩ := p3.ry r2 (by omega)
      have fm := p4.tr f2
      rw [p1, cal_some, r1, cal2_some]
      obtain ⟨⟨L, hH, -⟩, r4, -, r3, -, -⟩ := r2
      by_cases y0 : y = 0
      · subst y0
        rw [if_pos rfl, if_pos rfl]
        exact ⟨_, rfl, c2, fm⟩
      rw [if_neg (iI_ne hy (by omega) y0), if_neg y0]
      by_cases y1 : y = 1
      · subst y1
        rw [if_pos rfl, if_pos rfl]
        exact ⟨_, congrArg (fun t => some (t, m2)) r3, c2, fm⟩
      rw [if_neg (iI_ne hy (by omega) y1), if_neg y1]
      by_cases y2 : y = 2
      · subst y2
        rw [if_pos rfl, if_pos rfl]
        exact ⟨_, congrArg (fun t => some (t, m2)) r4, c2, fm⟩
      rw [if_neg (iI_ne hy (by omega) y2), if_neg y2, hH.2.2.2.2.2.1, show gI m2 3 5 = slW g.now.S from c2.1.1.2.2.2.2.2.1, sl_xor, pop_sl, cal_some]
      exact ⟨_, rfl, c2, fm⟩
    · rw [decide_eq_false e2, bn_false, if_neg (by decide), if_neg e2]
      exact c_fail hc (e := 1) (by omega)
  · rw [decide_eq_false e1, bn_false, if_pos (by decide), if_neg e1]
    exact c_fail hc (e := 1) (by omega)
/-- the model's tries: the row put aside, a ray, the row back -/
theorem m_out {x y : Int} (hm : MSt h g) (hg : GV g) (hx : -2147483648 ≤ x ∧ x < 2147483648) (hy : -2147483648 ≤ y ∧ y < 2147483648) : OPM h (f_X11_out h (iI x) (iI y)) (spOut g x y).1 (spOut g x y).2 := by
  have hh := hm.1.1
  have hV := hg.1.1
  unfold f_X11_out spOut
  rw [m_isWindow hh hV hx, cal_some, join_eq, cal2_id]
  by_cases e1 : 0 ≤ x ∧ x < (2 * (g.now.R + g.now.C) : Nat)
  · obtain ⟨w, rfl⟩ : ∃ w : Nat, x = w := ⟨x.toNat, by omega⟩
    rw [decide_eq_true e1, bn_true, if_neg (by decide), if_pos e1, m_in hy (by omega) (by omega), cal_some, Int.toNat_natCast]
    by_cases e2 : 0 ≤ y ∧ y ≤ 3
    · rw [decide_eq_true e2, bn_true, if_pos (by decide), if_pos e2]
      obtain ⟨m1, p1, p2, p3, p4, p5⟩ := m_try hm hg
      rw [p1, cal_some, m_slantBits p2.1 hV hg.1.2.1, cal_some]
      obtain ⟨m2, r1, ⟨⟨L, hH, hD⟩, r4, r6, r3, r5⟩⟩ := m_ry (wd := -1) hV p2.1 hg.1.2.1 ((p4 _ _ (by omega)).trans hm.w12) (by omega) (win := w) (by omega)
      obtain ⟨m3, s1, s2, s3, s4, s5⟩ := m_untry (p3.fr hg r5) hg ((r5.2.1 12 (by omega) (by omega) (by omega) (by omega) (by omega) (by omega) (by omega)).trans ((p4 _ _ (by omega)).trans hm.w12)) ((r5.2.1 13 (by omega) (by omega) (by omega) (by omega) (by omega) (by omega) (by omega)).trans ((p4 _ _ (by omega)).trans hm.w13))
      have fc : FC h m3 := fun x k q => ⟨(s4 x k (by omega)).trans (((r5.fc x k q).1).trans (p4 x k (by omega))), (s5 x k).trans (((r5.fc x k q).2).trans (p5 x k))⟩
      rw [r1, cal2_some, m_slantBits hH hV hD, cal_some, sl_xor, bits_sl, cal_some, s1, cal_some]
      have o11 : gI m3 72 11 = iI (gry g w).2.2.2.2.1 := (s4 _ _ (by omega)).trans r4
      have o10 : gI m3 72 10 = iI (gry g w).2.2.2.2.2.2.1 := (s4 _ _ (by omega)).trans r3
      by_cases y0 : y = 0
      · subst y0
        rw [if_neg (by decide), if_pos rfl]
        exact ⟨_, rfl, s2, fc⟩
      have n0 : ¬ iI y = 0 := by rw [iI_zero]; exact iI_ne hy (by omega) y0
      rw [if_pos n0, if_neg y0]
      by_cases y1 : y = 1
      · subst y1
        rw [if_neg (by decide), if_pos rfl]
        exact ⟨_, congrArg (fun t => some (t, m3)) o10, s2, fc⟩
      rw [if_pos (iI_ne hy (by omega) y1), if_neg y1]
      by_cases y2 : y = 2
      · subst y2
        rw [if_neg (by decide), if_pos rfl]
        exact ⟨_, congrArg (fun t => some (t, m3)) o11, s2, fc⟩
      rw [if_pos (iI_ne hy (by omega) y2), if_neg y2, show (fun q => g.now.S q ^^ (ry g.now.R g.now.C g.now.K g.now.M w g.now.S g.now.T).2.1 q) = fun q => (gry g w).2.1 q ^^ g.now.S q from funext fun q => Bool.xor_comm _ _]
      exact ⟨_, rfl, s2, fc⟩
    · rw [decide_eq_false e2, bn_false, if_neg (by decide), if_neg e2]
      exact c_errs hm hg (e := 1) (by omega)
  · rw [decide_eq_false e1, bn_false, if_pos (by decide), if_neg e1]
    exact c_errs hm hg (e := 1) (by omega)
theorem GV.out {x y : Int} (hg : GV g) : GV (spOut g x y).2 := by
  unfold spOut
  repeat' split
  all_goals first | exact hg | exact hg.fail 1
/-! way -/
def wyS (g : GS) (w : Nat) (y : Int) : Int32 := iI (ray g.now.R g.now.C g.now.K g.now.M y w g.now.S g.now.T g.now.L (-1)).2.2.2.2.2.2.2
def spWay (g : GS) (x y : Int) : Int32 × GS := if 0 ≤ x ∧ x < (2 * (g.now.R + g.now.C) : Nat) then (if 0 ≤ y then (if 0 ≤ wyS g x.toNat y then (wyS g x.toNat y, g) else (iI (-1000000002), g.fail 2)) else (iI (-1000000001), g.fail 1)) else (iI (-1000000001), g.fail 1)
theorem c_way {x y : Int} (hc : CSt h g) (hg : GV g) (hx : -2147483648 ≤ x ∧ x < 2147483648) (hy : -2147483648 ≤ y ∧ y < 2147483648) : OPC h (f_X10_way h (iI x) (iI y)) (spWay g x y).1 (spWay g x y).2 := by
  have hh := hc.1.1
  have hV := hg.1.1
  have ey : (0 ≤ iI y) = (0 ≤ y) := by rw [iI_zero]; exact iI_le ⟨by omega, hy⟩
  unfold f_X10_way spWay
  rw [w_hasWindow hh hV hx, cal_some, join_eq, cal2_id]
  by_cases e1 : 0 ≤ x ∧ x < (2 * (g.now.R + g.now.C) : Nat)
  · obtain ⟨w, rfl⟩ : ∃ w : Nat, x = w := ⟨x.toNat, by omega⟩
    rw [decide_eq_true e1, bn_true, if_neg (by decide), if_pos e1, Int.toNat_natCast]
    by_cases e2 : 0 ≤ y
    · rw [if_pos (by rw [ey]; exact e2), if_pos e2]
      obtain ⟨m1, p1, p2, p3, p4, p5, p6⟩ := c_trial (a := 30) hc (by omega)
      rw [p1, cal_some]
      unfold f_X0_squareOnWay
      rw [nm_eq, nm_eq]
      have p2' : HC (sI (sI m1 29 6 (iI y)) 29 7 (iI (-1))) 30 g.now.R g.now.C g.now.K g.now.M g.now.S g.now.T g.now.L := hc_far (hc_far p2 (by omega)) (by omega)
      obtain ⟨m2, r1, r2⟩ := w_run (b := 29) (wt := y) (sw := -1) hV (by omega) p2' hg.1.2.1 (by rw [gI_ne (by omega), gI_same]) hy gI_same (win := w) (by omega)
      rw [r1, cal2_some, nm_eq, cal2_some]
      obtain ⟨-, -, -, -, -, -, r7, r8, -⟩ := r2
      have o7 : gI (sI m2 29 6 (iI (-1))) 29 7 = wyS g w y := by rw [gI_ne (by omega)]; exact r7
      have kp : ∀ a k, a ≠ 29 → a ≠ 30 → a ≠ 33 → gI (sI m2 29 6 (iI (-1))) a k = gI m1 a k := fun a k q1 q2 q3 => by
        rw [gI_ne (by omega), (r8 a k (by omega) (by omega) (by omega)).1, gI_ne (by omega), gI_ne (by omega)]
      have kpL : ∀ a k, a ≠ 29 → a ≠ 30 → a ≠ 33 → gL (sI m2 29 6 (iI (-1))) a k = gL m1 a k := fun a k q1 q2 q3 => (r8 a k (by omega) (by omega) (by omega)).2
      have c2 : CSt (sI m2 29 6 (iI (-1))) g := p3.keep (fun a k q => by
        by_cases ea : a = 29
        · subst ea
          rcases (show k = 6 by omega) with rfl
          rw [gI_same]; exact p3.2.2.2.2.2.2.2.1.symm
        · exact kp a k ea (by omega) (by omega)) (kpL _ _ (by omega) (by omega) (by omega)) (kpL _ _ (by omega) (by omega) (by omega))
      have fm : FM h (sI m2 29 6 (iI (-1))) := p4.tr fun a k q => ⟨kp a k (by omega) (by omega) (by omega), kpL a k (by omega) (by omega) (by omega)⟩
      rw [o7]
      by_cases e3 : 0 ≤ wyS g w y
      · rw [if_pos e3, if_pos e3]
        exact ⟨_, rfl, c2, fm⟩
      · rw [if_neg e3, if_neg e3, cal2_id]
        obtain ⟨m5, t1, t2, t3⟩ := c_fail c2 (e := 2) (by omega)
        exact ⟨m5, t1, t2, fm.tr t3⟩
    · rw [if_neg (by rw [ey]; exact e2), if_neg e2]
      exact c_fail hc (e := 1) (by omega)
  · rw [decide_eq_false e1, bn_false, if_pos (by decide), if_neg e1]
    exact c_fail hc (e := 1) (by omega)
theorem m_way {x y : Int} (hm : MSt h g) (hg : GV g) (hx : -2147483648 ≤ x ∧ x < 2147483648) (hy : -2147483648 ≤ y ∧ y < 2147483648) : OPM h (f_X11_way h (iI x) (iI y)) (spWay g x y).1 (spWay g x y).2 := by
  have hh := hm.1.1
  have hV := hg.1.1
  have ey : (0 ≤ iI y) = (0 ≤ y) := by rw [iI_zero]; exact iI_le ⟨by omega, hy⟩
  unfold f_X11_way spWay
  rw [m_isWindow hh hV hx, cal_some, join_eq, cal2_id]
  by_cases e1 : 0 ≤ x ∧ x < (2 * (g.now.R + g.now.C) : Nat)
  · obtain ⟨w, rfl⟩ : ∃ w : Nat, x = w := ⟨x.toNat, by omega⟩
    rw [decide_eq_true e1, bn_true, if_neg (by decide), if_pos e1, Int.toNat_natCast]
    by_cases e2 : 0 ≤ y
    · rw [if_pos (by rw [ey]; exact e2), if_pos e2]
      obtain ⟨m1, p1, p2, p3, p4, p5⟩ := m_try hm hg
      rw [p1, cal_some, nm_eq]
      obtain ⟨m2, r1, r2, r3, r4, r5, r6, r7, r8⟩ := m_goes (wd := -1) (wt := y) hV (show RM (sI m1 72 13 (iI y)) 73 g.now.R g.now.C g.now.K g.now.M g.now.S g.now.T g.now.L from rm_far p2.1 (by omega)) hg.1.2.1 (by rw [gI_ne (by omega)]; exact (p4 _ _ (by omega)).trans hm.w12) gI_same (by omega) hy (win := w) (by omega)
      rw [r1, cal2_some, nm_eq]
      have f2 := (show ∀ a k, a ≠ 72 → a ≠ 73 → gI m2 a k = gI m1 a k from fun a k q1 q2 => ((r8.1 a k q1 q2).1).trans (gI_ne (by omega)))
      have f2L := (show ∀ a k, a ≠ 72 → a ≠ 73 → gL m2 a k = gL m1 a k from fun a k q1 q2 => (r8.1 a k q1 q2).2)
      have t2 : MTr (sI m2 72 13 (iI (-1))) g := (p3.keep hg (h2 := sI m1 72 13 (iI y)) fun a k q => gI_ne (by omega)).fr hg r8 |>.keep hg fun a k q => gI_ne (by omega)
      obtain ⟨m3, s1, s2, s3, s4, s5⟩ := m_untry t2 hg (by
          rw [gI_ne (by omega), r8.2.1 12 (by omega) (by omega) (by omega) (by omega) (by omega) (by omega) (by omega), gI_ne (by omega)]
          exact (p4 _ _ (by omega)).trans hm.w12) gI_same
      have fc : FC h m3 := fun a k q => ⟨(s4 a k (by omega)).trans ((gI_ne (by omega)).trans ((f2 a k (by omega) (by omega)).trans (p4 a k (by omega)))), (s5 a k).trans ((f2L a k (by omega) (by omega)).trans (p5 a k))⟩
      rw [s1, cal_some, join_eq]
      have o14 : gI m3 72 14 = wyS g w y := (s4 _ _ (by omega)).trans ((gI_ne (by omega)).trans r7)
      have hout := ry_out (S := g.now.S) (T := g.now.T) hV (show w < 2 * (g.now.R + g.now.C) by omega)
      rw [← (ray_ry (wt := y) (sw := -1) (L := g.now.L)).1] at hout
      have v1 := hV.2.1
      have v2 := hV.2.2.2.1
      have eo : (iI (ray g.now.R g.now.C g.now.K g.now.M y w g.now.S g.now.T g.now.L (-1)).1 < 0) = (((ray g.now.R g.now.C g.now.K g.now.M y w g.now.S g.now.T g.now.L (-1)).1 : Int) < 0) := by
        rw [iI_zero]; exact iI_lt ⟨by omega, by omega⟩
      rw [if_neg (by rw [eo]; omega), o14, cal2_id]
      by_cases e3 : 0 ≤ wyS g w y
      · rw [if_pos e3, if_pos e3]
        exact ⟨_, rfl, s2, fc⟩
      · rw [if_neg e3, if_neg e3]
        obtain ⟨m5, t1, t2, t3⟩ := c_errs s2 hg (e := 2) (by omega)
        exact ⟨m5, t1, t2, fc.tr t3⟩
    · rw [if_neg (by rw [ey]; exact e2), if_neg e2]
      exact c_errs hm hg (e := 1) (by omega)
  · rw [decide_eq_false e1, bn_false, if_pos (by decide), if_neg e1]
    exact c_errs hm hg (e := 1) (by omega)
theorem GV.way {x y : Int} (hg : GV g) : GV (spWay g x y).2 := by
  unfold spWay
  repeat' split
  all_goals first | exact hg | exact hg.fail 1 | exact hg.fail 2
end OUTOP
