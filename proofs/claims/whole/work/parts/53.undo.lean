section UNDOOP
theorem bayF_out {R C : Nat} {K M : Nat → Nat} : ∀ (f r c w : Nat) (S : Nat → Bool) (T L : Nat → Nat), r < R → c < C → (bayF R C K M f r c w S T L).1 = 100 ∨ (bayF R C K M f r c w S T L).1 < 2 * (R + C)
  | 0, _, _, _, _, _, _, _, _ => Or.inl rfl
  | f + 1, r, c, w, S, T, L, hr, hc => by
    unfold bayF
    by_cases hs : stp (K (r * C + c)) = true
    · rw [if_pos hs]; exact Or.inl rfl
    · rw [if_neg hs]
      unfold nextF
      generalize (if thr (K (r * C + c)) = true then bend w (backS (K (r * C + c)) (S (r * C + c)) (T (r * C + c))) else w) = w1
      by_cases e0 : w1 = 0
      · rw [if_pos e0]
        by_cases e : r = 0
        · rw [if_pos e]; exact Or.inr (by show c < _; omega)
        · rw [if_neg e]; exact bayF_out f _ _ _ _ _ _ (by omega) hc
      · rw [if_neg e0]
        by_cases e1 : w1 = 1
        · rw [if_pos e1]
          by_cases e : c + 1 = C
          · rw [if_pos e]; exact Or.inr (by show C + r < _; omega)
          · rw [if_neg e]; exact bayF_out f _ _ _ _ _ _ hr (by omega)
        · rw [if_neg e1]
          by_cases e2 : w1 = 2
          · rw [if_pos e2]
            by_cases e : r + 1 = R
            · rw [if_pos e]; exact Or.inr (by show C + R + c < _; omega)
            · rw [if_neg e]; exact bayF_out f _ _ _ _ _ _ (by omega) hc
          · rw [if_neg e2]
            by_cases e : c = 0
            · rw [if_pos e]; exact Or.inr (by show 2 * C + R + r < _; omega)
            · rw [if_neg e]; exact bayF_out f _ _ _ _ _ _ hr (by omega)
variable {h : Mem} {g : GS}
abbrev gby (g : GS) (w : Nat) : BES := bay g.now.R g.now.C g.now.K g.now.M w g.now.S g.now.T g.now.L
theorem gby_out {w : Nat} (hg : GV g) (hw : w < 2 * (g.now.R + g.now.C)) : (gby g w).1 ≤ 100 := by
  obtain ⟨v1, v2, v3, v4, -⟩ := hg.1.1
  obtain ⟨o1, o2, -⟩ := ent_ok v1 v3 hw
  rcases bayF_out (K := g.now.K) (M := g.now.M) 5000 _ _ (entW g.now.R g.now.C w) g.now.S g.now.T g.now.L o1 o2 with e | e
  · exact Nat.le_of_eq e
  · have : (gby g w).1 < 2 * (g.now.R + g.now.C) := e
    omega
def spUndo (g : GS) (x : Int) : Int32 × GS := if 0 ≤ x ∧ x < (2 * (g.now.R + g.now.C) : Nat) then (if (gby g x.toNat).1 = 100 then (iI (-1000000003), g.fail 3) else (iI (gby g x.toNat).1, g.put (g.now.row g.now.R g.now.C g.now.K g.now.M (gby g x.toNat).2.1 (gby g x.toNat).2.2.1 (gby g x.toNat).2.2.2))) else (iI (-1000000001), g.fail 1)
theorem c_undo {x : Int} (hc : CSt h g) (hg : GV g) (hx : -2147483648 ≤ x ∧ x < 2147483648) : OPC h (f_X10_undo h (iI x)) (spUndo g x).1 (spUndo g x).2 := by
  have hh := hc.1.1
  have hV := hg.1.1
  unfold f_X10_undo spUndo
  rw [w_hasWindow hh hV hx, cal_some]
  by_cases e1 : 0 ≤ x ∧ x < (2 * (g.now.R + g.now.C) : Nat)
  · obtain ⟨w, rfl⟩ : ∃ w : Nat, x = w := ⟨x.toNat, by omega⟩
    rw [decide_eq_true e1, bn_true, if_pos (by decide), if_pos e1, Int.toNat_natCast]
    obtain ⟨m1, p1, p2, p3, p4, p5, p6⟩ := c_trial (a := 30) hc (by omega)
    obtain ⟨m2, r1, r2, r3, r4, r5⟩ := w_back (b := 29) hV (by omega) p2 hg.1.2.1 (win := w) (by omega)
    have c2 : CSt m2 g := p3.keep (fun a k q => by
      by_cases ea : a = 29
      · subst ea; exact r5 k (by omega)
      · exact (r4 a k (by omega) (by omega) ea).1) (r4 _ _ (by omega) (by omega) (by omega)).2 (r4 _ _ (by omega) (by omega) (by omega)).2
    have f2 : FM h m2 := p4.tr fun a k q => r4 a k (by omega) (by omega) (by omega)
    have h100 := gby_out hg (show w < 2 * (g.now.R + g.now.C) by omega)
    have eo : (iI (gby g w).1 = iI 100) = (((gby g w).1 : Int) = 100) := iI_eq ⟨by omega, by omega⟩
    rw [p1, cal_some, r1, cal2_some]
    by_cases e2 : (gby g w).1 = 100
    · rw [if_neg (by rw [eo]; omega), if_pos e2, cal2_id]
      obtain ⟨m5, t1, t2, t3⟩ := c_fail c2 (e := 3) (by omega)
      exact ⟨m5, t1, t2, f2.tr t3⟩
    · rw [if_pos (by rw [eo]; omega), if_neg e2]
      obtain ⟨m3, q1, q2, q3, q4, q5, q6, q7, q8⟩ := w_hcopy (h := m2) (a := 3) (b := 30) (by omega)
      rw [q1, cal_some]
      exact ⟨m3, rfl, c2.now (c2.1.hall (hc_copy r2 q4 q6 q8) fun a k q => q2 a k (by omega)) (fun a k q => q2 a k (by omega)) (q3 _ _ (by omega)), f2.tr fun a k q => ⟨q2 a k (by omega), q3 a k (by omega)⟩⟩
  · rw [decide_eq_false e1, bn_false, if_neg (by decide), if_neg e1, cal2_id]
    exact c_fail hc (e := 1) (by omega)
theorem m_undo {x : Int} (hm : MSt h g) (hg : GV g) (hx : -2147483648 ≤ x ∧ x < 2147483648) : OPM h (f_X11_undo h (iI x)) (spUndo g x).1 (spUndo g x).2 := by
  have hh := hm.1.1
  have hV := hg.1.1
  unfold f_X11_undo spUndo
  rw [m_isWindow hh hV hx, cal_some]
  by_cases e1 : 0 ≤ x ∧ x < (2 * (g.now.R + g.now.C) : Nat)
  · obtain ⟨w, rfl⟩ : ∃ w : Nat, x = w := ⟨x.toNat, by omega⟩
    rw [decide_eq_true e1, bn_true, if_pos (by decide), if_pos e1, Int.toNat_natCast]
    obtain ⟨m1, p1, p2, p3, p4, p5⟩ := m_try hm hg
    rw [p1, cal_some]
    obtain ⟨o, o1, o2⟩ := m_back hV p2.1 hg.1.2.1 (win := w) (by omega)
    rw [o1]
    have w12 : ∀ m, FrM m1 m → gI m 72 12 = iI (-1) := fun m f => (f.2.1 12 (by omega) (by omega) (by omega) (by omega) (by omega) (by omega) (by omega)).trans ((p4 _ _ (by omega)).trans hm.w12)
    have w13 : ∀ m, FrM m1 m → gI m 72 13 = iI (-1) := fun m f => (f.2.1 13 (by omega) (by omega) (by omega) (by omega) (by omega) (by omega) (by omega)).trans ((p4 _ _ (by omega)).trans hm.w13)
    have fc : FC h m1 := fun a k q => ⟨p4 a k (by omega), p5 a k⟩
    rcases o2 with ⟨e2, m2, r1, r2, -, r4⟩ | ⟨e2, m2, r1, r4⟩
    · have e3 : ¬ (gby g w).1 = 100 := fun z => by have : (gby g w).1 < 100 := e2; omega
      rw [if_neg e3, r1]
      exact ⟨m2, rfl, (p3.2.fr hg r4).put.st (p2.hall hg.1 r2 fun k q => r4.2.2 k (by omega)) (w12 _ r4) (w13 _ r4), fc.tr r4.fc⟩
    · have e3 : (gby g w).1 = 100 := e2
      rw [if_pos e3, r1]
      unfold f_X11_undo_k7
      rw [if_neg (by decide)]
      obtain ⟨m3, s1, s2, s3, s4, s5⟩ := m_untry (p3.fr hg r4) hg (w12 _ r4) (w13 _ r4)
      rw [s1, cal_some, cal2_id]
      obtain ⟨m5, t1, t2, t3⟩ := c_errs s2 hg (e := 3) (by omega)
      exact ⟨m5, t1, t2, ((fc.tr r4.fc).tr fun a k q => ⟨s4 a k (by omega), s5 a k⟩).tr t3⟩
  · rw [decide_eq_false e1, bn_false, if_neg (by decide), if_neg e1, cal2_id]
    exact c_errs hm hg (e := 1) (by omega)
end UNDOOP
