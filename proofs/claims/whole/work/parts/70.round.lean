section ROUNDOP
variable {h : Mem} {g : GS}
/-- one window again and again -/
def rndF (s : WH) (w : Nat) : Nat → Nat → (Nat → Bool) → (Nat → Nat) → Nat
  | 0, _, _, _ => 0
  | f + 1, i, S, T => if smS (s.R * s.C) (ry s.R s.C s.K s.M w S T).2.1 (ry s.R s.C s.K s.M w S T).2.2.1 s.S s.T = true then i else rndF s w f (i + 1) (ry s.R s.C s.K s.M w S T).2.1 (ry s.R s.C s.K s.M w S T).2.2.1
def spRound (g : GS) (x : Int) : Int32 × GS := if 0 ≤ x ∧ x < (2 * (g.now.R + g.now.C) : Nat) then (if 1 ≤ rndF g.now x.toNat 400 1 g.now.S g.now.T then (iI (rndF g.now x.toNat 400 1 g.now.S g.now.T), g) else (iI (-1000000002), g.fail 2)) else (iI (-1000000001), g.fail 1)
theorem c_round {x : Int} (hc : CSt h g) (hg : GV g) (hx : -2147483648 ≤ x ∧ x < 2147483648) : OPC h (f_X10_round h (iI x)) (spRound g x).1 (spRound g x).2 := by
  have hV := hg.1.1
  have hD := hg.1.2.1
  have h25 := sq_25 hV.2.1 hV.2.2.2.1
  unfold f_X10_round spRound
  rw [w_hasWindow hc.1.1 hV hx, cal_some]
  by_cases e1 : 0 ≤ x ∧ x < (2 * (g.now.R + g.now.C) : Nat)
  · obtain ⟨w, rfl⟩ : ∃ w : Nat, x = w := ⟨x.toNat, by omega⟩
    rw [decide_eq_true e1, bn_true, if_pos (by decide), if_pos e1, Int.toNat_natCast]
    obtain ⟨X, hX⟩ : ∃ X, X = rndF g.now w 400 1 g.now.S g.now.T := ⟨_, rfl⟩
    rw [← hX]
    have key : ∃ h2, f_X2_raysRound h 3 (iI w) = some (iI X, h2) ∧ CSt h2 g ∧ FM h h2 ∧ X ≤ 400 := by
      unfold f_X2_raysRound
      obtain ⟨m1, p1, p2, p3, p4, p5, p6⟩ := c_trial (a := 40) hc (by omega)
      rw [p1, cal_some]
      obtain ⟨N, hN⟩ : ∃ N : Nat, N = 1000000 := ⟨_, rfl⟩
      rw [← hN]
      refine lo2_t (fun f x2 m => ∃ (i : Nat) (S : Nat → Bool) (T L : Nat → Nat), x2 = iI i ∧ i + f = 401 ∧ rndF g.now w f i S T = X ∧ HC m 40 g.now.R g.now.C g.now.K g.now.M S T L ∧ VD g.now.R g.now.C g.now.M S T L ∧ CSt m g ∧ FM h m) (fun o => ∃ h2, o = some (iI X, h2) ∧ CSt h2 g ∧ FM h h2 ∧ X ≤ 400) ?_ N 400 _ _ (by omega) ⟨1, _, _, _, rfl, by omega, hX.symm, p2, hD, p3, p4⟩
      rintro f x2 m ⟨i, S, T, L, rfl, hf, hL, hH, hDD, hcs, hF⟩ Kc
      unfold f_X2_raysRound_k4
      have e : (iI 400 < iI i) = ((400 : Int) < i) := iI_lt ⟨by omega, by omega⟩
      by_cases hi : i = 401
      · left
        have hs : X = 0 := by rw [← hL, show f = 0 by omega]; rfl
        rw [if_pos (by rw [e]; omega), hs]
        exact ⟨_, rfl, m, rfl, hcs, hF, by omega⟩
      · obtain ⟨f', rfl⟩ : ∃ f', f = f' + 1 := ⟨f - 1, by omega⟩
        unfold rndF at hL
        obtain ⟨m3, r1, r2⟩ := w_ry (b := 44) hV (by omega) hH hDD (win := w) (by omega)
        obtain ⟨c3, f3⟩ := hcs.ry r2 (by omega)
        obtain ⟨⟨L', hH', hD'⟩, -, -, -, -, fr⟩ := r2
        rw [if_neg (by rw [e]; omega), r1, cal2_some, w_standsAs hH' (show HC m3 3 g.now.R g.now.C g.now.K g.now.M g.now.S g.now.T g.now.L from c3.1.1) hD' hD h25, cal_some]
        cases hs : smS (g.now.R * g.now.C) (ry g.now.R g.now.C g.now.K g.now.M w S T).2.1 (ry g.now.R g.now.C g.now.K g.now.M w S T).2.2.1 g.now.S g.now.T
        · right
          rw [if_neg (by rw [hs]; decide)] at hL
          rw [bn_false, if_pos (by decide), nm_eq, iI_add]
          exact ⟨f', _, _, Nat.lt_succ_self f', ⟨i + 1, _, _, L', rfl, by omega, hL, hH', hD', c3, hF.tr f3⟩, rfl⟩
        · left
          rw [if_pos hs] at hL
          rw [bn_true, if_neg (by decide), ← hL]
          exact ⟨_, rfl, m3, rfl, c3, hF.tr f3, by omega⟩
    obtain ⟨h2, k1, k2, k3, k4⟩ := key
    have e : (iI 1 ≤ iI X) = ((1 : Int) ≤ X) := iI_le ⟨by omega, by omega⟩
    rw [k1, cal2_some]
    by_cases hX1 : 1 ≤ X
    · rw [if_pos (by rw [e]; omega), if_pos hX1]
      exact ⟨h2, rfl, k2, k3⟩
    · rw [if_neg (by rw [e]; omega), if_neg hX1, cal2_id]
      obtain ⟨m5, t1, t2, t3⟩ := c_fail k2 (e := 2) (by omega)
      exact ⟨m5, t1, t2, k3.tr t3⟩
  · rw [decide_eq_false e1, bn_false, if_neg (by decide), if_neg e1, cal2_id]
    exact c_fail hc (e := 1) (by omega)
theorem m_round {x : Int} (hm : MSt h g) (hg : GV g) (hx : -2147483648 ≤ x ∧ x < 2147483648) : OPM h (f_X11_round h (iI x)) (spRound g x).1 (spRound g x).2 := by
  have hV := hg.1.1
  have hD := hg.1.2.1
  have h25 := sq_25 hV.2.1 hV.2.2.2.1
  unfold f_X11_round spRound
  rw [m_isWindow hm.1.1 hV hx, cal_some]
  by_cases e1 : 0 ≤ x ∧ x < (2 * (g.now.R + g.now.C) : Nat)
  · obtain ⟨w, rfl⟩ : ∃ w : Nat, x = w := ⟨x.toNat, by omega⟩
    rw [decide_eq_true e1, bn_true, if_pos (by decide), if_pos e1, Int.toNat_natCast]
    obtain ⟨X, hX⟩ : ∃ X, X = rndF g.now w 400 1 g.now.S g.now.T := ⟨_, rfl⟩
    rw [← hX]
    obtain ⟨m1, p1, p2, p3, p4, p5⟩ := m_try hm hg
    rw [p1, cal_some]
    obtain ⟨N, hN⟩ : ∃ N : Nat, N = 1000000 := ⟨_, rfl⟩
    rw [← hN]
    refine lo3_t (fun f x3 x4 m => ∃ (i : Nat) (S : Nat → Bool) (T L : Nat → Nat), x3 = iI i ∧ i ≤ 400 ∧ RM m 73 g.now.R g.now.C g.now.K g.now.M S T L ∧ VD g.now.R g.now.C g.now.M S T L ∧ MTr m g ∧ gI m 72 12 = iI (-1) ∧ gI m 72 13 = iI (-1) ∧ FC h m ∧ ((x4 = iI 0 ∧ i + f = 401 ∧ 1 ≤ f ∧ rndF g.now w (f - 1) (i + 1) S T = X) ∨ (x4 = iI 1 ∧ f = 0 ∧ X = i ∧ 1 ≤ i))) (fun o => OPM h o (if 1 ≤ X then (iI X, g) else (iI (-1000000002), g.fail 2)).1 (if 1 ≤ X then (iI X, g) else (iI (-1000000002), g.fail 2)).2) ?_ N 401 _ _ _ (by omega) ⟨0, _, _, _, rfl, by omega, p2.1, hD, p3, (p4 _ _ (by omega)).trans hm.w12, (p4 _ _ (by omega)).trans hm.w13, fun x k q => ⟨p4 x k (by omega), p5 x k⟩, Or.inl ⟨rfl, by omega, by omega, hX.symm⟩⟩
    rintro f x3 x4 m ⟨i, S, T, L, rfl, hi400, hH, hDD, hT, h12, h13, hF, hmode⟩ Kc
    unfold f_X11_round_k6
    have e : (iI 400 ≤ iI i) = ((400 : Int) ≤ i) := iI_le ⟨by omega, by omega⟩
    rw [join_eq]
    have fin : ∀ x4 : Int32, (x4 = iI 0 ∧ X = 0) ∨ (x4 = iI 1 ∧ X = i ∧ 1 ≤ i) → OPM h (f_X11_round_k7 m x4 (iI i)) (if 1 ≤ X then (iI X, g) else (iI (-1000000002), g.fail 2)).1 (if 1 ≤ X then (iI X, g) else (iI (-1000000002), g.fail 2)).2 := fun x4 hx4 => by
      obtain ⟨m3, s1, s2, s3, s4, s5⟩ := m_untry hT hg h12 h13
      have fc : FC h m3 := hF.tr fun x k q => ⟨s4 x k (by omega), s5 x k⟩
      unfold f_X11_round_k7
      rw [s1, cal_some]
      rcases hx4 with ⟨rfl, q⟩ | ⟨rfl, q, q1⟩
      · rw [if_pos (by decide), if_neg (by omega), cal2_id]
        obtain ⟨m5, t1, t2, t3⟩ := c_errs s2 hg (e := 2) (by omega)
        exact ⟨m5, t1, t2, fc.tr t3⟩
      · rw [if_neg (by decide), if_pos (by omega), q]
        exact ⟨_, rfl, s2, fc⟩
    rcases hmode with ⟨rfl, hf, hf1, hL⟩ | ⟨rfl, hf, hXi, hi1⟩
    · by_cases hi : i = 400
      · left
        rw [if_pos (by rw [e]; omega)]
        exact ⟨_, rfl, fin _ (Or.inl ⟨rfl, by rw [← hL, show f - 1 = 0 by omega]; rfl⟩)⟩
      · right
        obtain ⟨f', rfl⟩ : ∃ f', f = f' + 1 + 1 := ⟨f - 2, by omega⟩
        have hL' : rndF g.now w (f' + 1) (i + 1) S T = X := hL
        unfold rndF at hL'
        obtain ⟨m2, r1, ⟨⟨L', hH', hD'⟩, r4, r6, r3, r5⟩⟩ := m_ry (wd := -1) hV hH hDD h12 (by omega) (win := w) (by omega)
        have k12 : gI m2 72 12 = iI (-1) := (r5.2.1 12 (by omega) (by omega) (by omega) (by omega) (by omega) (by omega) (by omega)).trans h12
        have k13 : gI m2 72 13 = iI (-1) := (r5.2.1 13 (by omega) (by omega) (by omega) (by omega) (by omega) (by omega) (by omega)).trans h13
        have kT := hT.fr hg r5
        have hb := ry_b (S := S) (T := T) hV (show w < 2 * (g.now.R + g.now.C) by omega)
        have en : (iI (ry g.now.R g.now.C g.now.K g.now.M w S T).1 < 0) = (((ry g.now.R g.now.C g.now.K g.now.M w S T).1 : Int) < 0) := by rw [iI_zero]; exact iI_lt ⟨by omega, by omega⟩
        rw [if_neg (by rw [e]; omega), if_neg (by decide), r1, cal2_some, iI_add, nm_eq, join_eq, join_eq, if_neg (by rw [en]; omega), m_standsAs hH' kT.1.1 hD' hD h25, cal_some]
        cases hs : smS (g.now.R * g.now.C) (ry g.now.R g.now.C g.now.K g.now.M w S T).2.1 (ry g.now.R g.now.C g.now.K g.now.M w S T).2.2.1 g.now.S g.now.T
        · rw [if_neg (by rw [hs]; decide)] at hL'
          rw [bn_false, if_pos (by decide)]
          exact ⟨f' + 1, _, _, _, by omega, ⟨i + 1, _, _, L', rfl, by omega, hH', hD', kT, k12, k13, hF.tr r5.fc, Or.inl ⟨rfl, by omega, by omega, hL'⟩⟩, rfl⟩
        · rw [if_pos hs] at hL'
          rw [bn_true, if_neg (by decide)]
          exact ⟨0, _, _, _, by omega, ⟨i + 1, _, _, L', rfl, by omega, hH', hD', kT, k12, k13, hF.tr r5.fc, Or.inr ⟨rfl, rfl, hL'.symm, by omega⟩⟩, rfl⟩
    · left
      refine ⟨_, ?_, fin (iI 1) (Or.inr ⟨rfl, hXi, hi1⟩)⟩
      by_cases hi : 400 ≤ i
      · rw [if_pos (by rw [e]; omega)]
      · rw [if_neg (by rw [e]; omega), if_pos (by decide)]
  · rw [decide_eq_false e1, bn_false, if_neg (by decide), if_neg e1, cal2_id]
    exact c_errs hm hg (e := 1) (by omega)
theorem GV.round {x : Int} (hg : GV g) : GV (spRound g x).2 := by
  unfold spRound
  repeat' split
  all_goals first | exact hg | exact hg.fail 1 | exact hg.fail 2
/-! longest -/
def lonF (s : WH) : Nat → Nat → Nat → Nat → Nat × Nat
  | 0, _, bw, bs => (bw, bs)
  | f + 1, i, bw, bs => if (ry s.R s.C s.K s.M i s.S s.T).2.2.2.2.2.2.1 ≤ bs then lonF s f (i + 1) bw bs else lonF s f (i + 1) i (ry s.R s.C s.K s.M i s.S s.T).2.2.2.2.2.2.1
def spLong (g : GS) (x : Int) : Int32 × GS := if 0 ≤ x ∧ x ≤ 1 then ((if x = 0 then iI (lonF g.now (2 * (g.now.R + g.now.C)) 0 0 0).1 else iI (lonF g.now (2 * (g.now.R + g.now.C)) 0 0 0).2), g) else (iI (-1000000001), g.fail 1)
theorem c_long {x : Int} (hc : CSt h g) (hg : GV g) (hx : -2147483648 ≤ x ∧ x < 2147483648) : OPC h (f_X10_longest h (iI x)) (spLong g x).1 (spLong g x).2 := by
  have hV := hg.1.1
  have hD := hg.1.2.1
  have v1 := hV.2.1
  have v2 := hV.2.2.2.1
  unfold f_X10_longest spLong
  rw [w_within hx (by omega) (by omega), cal_some]
  by_cases e1 : 0 ≤ x ∧ x ≤ 1
  · rw [decide_eq_true e1, bn_true, if_pos (by decide), if_pos e1]
    obtain ⟨X, hX⟩ : ∃ X, X = lonF g.now (2 * (g.now.R + g.now.C)) 0 0 0 := ⟨_, rfl⟩
    rw [← hX]
    have key : ∃ h2, f_X2_findLongest h 3 = some h2 ∧ gI h2 39 8 = iI X.1 ∧ gI h2 39 9 = iI X.2 ∧ CSt h2 g ∧ FM h h2 := by
      unfold f_X2_findLongest
      have c0 : CSt (sI (sI h 39 8 (iI 0)) 39 9 (iI 0)) g := hc.keep (fun a k q => (gI_ne (by omega)).trans (gI_ne (by omega))) rfl rfl
      rw [nm_eq, nm_eq]
      obtain ⟨m1, p1, p2, p3, p4, p5, p6⟩ := c_trial (a := 40) c0 (by omega)
      rw [p1, cal_some]
      have f1 : FM h m1 := fun x k q => ⟨(p4 x k q).1.trans ((gI_ne (by omega)).trans (gI_ne (by omega))), (p4 x k q).2⟩
      obtain ⟨N, hN⟩ : ∃ N : Nat, N = 1000000 := ⟨_, rfl⟩
      rw [← hN]
      refine lo2_t (fun f x4 m => ∃ (i bw bs : Nat) (S : Nat → Bool) (T L : Nat → Nat), x4 = iI i ∧ i + f = 2 * (g.now.R + g.now.C) ∧ bs ≤ 5000 ∧ lonF g.now f i bw bs = X ∧ gI m 39 8 = iI bw ∧ gI m 39 9 = iI bs ∧ HC m 40 g.now.R g.now.C g.now.K g.now.M S T L ∧ VD g.now.R g.now.C g.now.M S T L ∧ CSt m g ∧ FM h m) (fun o => ∃ h2, o = some h2 ∧ gI h2 39 8 = iI X.1 ∧ gI h2 39 9 = iI X.2 ∧ CSt h2 g ∧ FM h h2) ?_ N (2 * (g.now.R + g.now.C)) _ _ (by omega) ⟨0, 0, 0, _, _, _, rfl, by omega, by omega, hX.symm, (p5 _ _ (by omega)).trans ((gI_ne (by omega)).trans gI_same), (p5 _ _ (by omega)).trans gI_same, p2, hD, p3, f1⟩
      rintro f x4 m ⟨i, bw, bs, S, T, L, rfl, hf, hbs, hL, h8, h9, hH, hDD, hcs, hF⟩ Kc
      unfold f_X2_findLongest_k6
      have e : (iI (2 * (g.now.R + g.now.C) : Nat) ≤ iI i) = (((2 * (g.now.R + g.now.C) : Nat) : Int) ≤ i) := iI_le ⟨by omega, by omega⟩
      rw [w_windows (show HC m 3 g.now.R g.now.C g.now.K g.now.M g.now.S g.now.T g.now.L from hcs.1.1), cal_some]
      by_cases hi : i = 2 * (g.now.R + g.now.C)
      · left
        have hs : X = (bw, bs) := by rw [← hL, show f = 0 by omega]; rfl
        rw [if_pos (by rw [e]; omega), hs]
        exact ⟨_, rfl, m, rfl, h8, h9, hcs, hF⟩
      · right
        obtain ⟨f', rfl⟩ : ∃ f', f = f' + 1 := ⟨f - 1, by omega⟩
        unfold lonF at hL
        obtain ⟨s1, s2⟩ := w_standAs hH (show HC m 3 g.now.R g.now.C g.now.K g.now.M g.now.S g.now.T g.now.L from hcs.1.1)
        obtain ⟨c2, f2⟩ := hcs.standT (a := 40) (x := slW g.now.S) (y := tmW g.now.T) (by omega)
        obtain ⟨m3, r1, r2⟩ := w_ry (b := 44) hV (by omega) s2 (hD.of hDD) (win := i) (by omega)
        obtain ⟨c3, f3⟩ := c2.ry r2 (by omega)
        obtain ⟨⟨L', hH', hD'⟩, -, -, r3, -, fr⟩ := r2
        have o8 : gI m3 39 8 = iI bw := (fr 39 8 (by omega) (by omega) (by omega)).1.trans ((gI_ne (h := m) (a := 40) (k := 5) (v := slW g.now.S) (by omega)).trans h8)
        have o9 : gI m3 39 9 = iI bs := (fr 39 9 (by omega) (by omega) (by omega)).1.trans ((gI_ne (h := m) (a := 40) (k := 5) (v := slW g.now.S) (by omega)).trans h9)
        have hb := (ry_out (S := g.now.S) (T := g.now.T) hV (show i < 2 * (g.now.R + g.now.C) by omega)).2.1
        have ec : (iI (ry g.now.R g.now.C g.now.K g.now.M i g.now.S g.now.T).2.2.2.2.2.2.1 ≤ iI bs) = (((ry g.now.R g.now.C g.now.K g.now.M i g.now.S g.now.T).2.2.2.2.2.2.1 : Int) ≤ bs) := iI_le ⟨by omega, by omega⟩
        rw [if_neg (by rw [e]; omega), s1, cal_some, r1, cal2_some, join_eq, r3, o9]
        by_cases hle : (ry g.now.R g.now.C g.now.K g.now.M i g.now.S g.now.T).2.2.2.2.2.2.1 ≤ bs
        · rw [if_pos hle] at hL
          rw [if_pos (by rw [ec]; omega)]
          dsimp only
          rw [nm_eq, iI_add]
          exact ⟨f', _, _, Nat.lt_succ_self f', ⟨i + 1, bw, bs, _, _, L', rfl, by omega, hbs, hL, o8, o9, hH', hD', c3, (hF.tr f2).tr f3⟩, rfl⟩
        · rw [if_neg hle] at hL
          rw [if_neg (by rw [ec]; omega), nm_eq, nm_eq]
          dsimp only
          rw [nm_eq, iI_add]
          exact ⟨f', _, _, Nat.lt_succ_self f', ⟨i + 1, i, _, _, _, L', rfl, by omega, hb, hL, gI_same, (gI_ne (by omega)).trans gI_same, hc_far (hc_far hH' (by omega)) (by omega), hD', c3.keep (fun a k q => (gI_ne (by omega)).trans (gI_ne (by omega))) rfl rfl, ((hF.tr f2).tr f3).tr fun a k q => ⟨(gI_ne (by omega)).trans (gI_ne (by omega)), rfl⟩⟩, rfl⟩
    obtain ⟨h2, k1, k2, k3, k4, k5⟩ := key
    rw [k1, cal_some]
    by_cases x0 : x = 0
    · rw [if_neg (by rw [x0]; decide), if_pos x0, k2]
      exact ⟨h2, rfl, k4, k5⟩
    · rw [if_pos (by rw [iI_zero]; exact iI_ne hx (by omega) x0), if_neg x0, k3]
      exact ⟨h2, rfl, k4, k5⟩
  · rw [decide_eq_false e1, bn_false, if_neg (by decide), if_neg e1, cal2_id]
    exact c_fail hc (e := 1) (by omega)
theorem m_long {x : Int} (hm : MSt h g) (hg : GV g) (hx : -2147483648 ≤ x ∧ x < 2147483648) : OPM h (f_X11_longest h (iI x)) (spLong g x).1 (spLong g x).2 := by
  have hV := hg.1.1
  have hD := hg.1.2.1
  have v1 := hV.2.1
  have v2 := hV.2.2.2.1
  unfold f_X11_longest spLong
  rw [m_in hx (by omega) (by omega), cal_some]
  by_cases e1 : 0 ≤ x ∧ x ≤ 1
  · rw [decide_eq_true e1, bn_true, if_pos (by decide), if_pos e1]
    obtain ⟨X, hX⟩ : ∃ X, X = lonF g.now (2 * (g.now.R + g.now.C)) 0 0 0 := ⟨_, rfl⟩
    rw [← hX]
    obtain ⟨m1, p1, p2, p3, p4, p5⟩ := m_try hm hg
    rw [p1, cal_some]
    have pM : MSt m1 g := p3.2.st p2 ((p4 _ _ (by omega)).trans hm.w12) ((p4 _ _ (by omega)).trans hm.w13)
    obtain ⟨N, hN⟩ : ∃ N : Nat, N = 1000000 := ⟨_, rfl⟩
    rw [← hN]
    refine lo4_t (fun f x3 x4 x5 m => ∃ (i bw bs : Nat), x3 = iI bw ∧ x4 = iI bs ∧ x5 = iI i ∧ i + f = 2 * (g.now.R + g.now.C) ∧ bs ≤ 5000 ∧ lonF g.now f i bw bs = X ∧ MSt m g ∧ MTr m g ∧ FC h m) (fun o => OPM h o (if x = 0 then iI X.1 else iI X.2) g) ?_ N (2 * (g.now.R + g.now.C)) _ _ _ _ (by omega) ⟨0, 0, 0, rfl, rfl, rfl, by omega, by omega, hX.symm, pM, p3, fun x k q => ⟨p4 x k (by omega), p5 x k⟩⟩
    rintro f x3 x4 x5 m ⟨i, bw, bs, rfl, rfl, rfl, hf, hbs, hL, hM, hT, hF⟩ Kc
    unfold f_X11_longest_k7
    have e : (iI (2 * (g.now.R + g.now.C) : Nat) ≤ iI i) = (((2 * (g.now.R + g.now.C) : Nat) : Int) ≤ i) := iI_le ⟨by omega, by omega⟩
    rw [m_windows hM.1.1, cal_some]
    by_cases hi : i = 2 * (g.now.R + g.now.C)
    · left
      have hs : X = (bw, bs) := by rw [← hL, show f = 0 by omega]; rfl
      rw [if_pos (by rw [e]; omega), hs]
      refine ⟨_, rfl, ?_⟩
      by_cases x0 : x = 0
      · rw [if_neg (by rw [x0]; decide), if_pos x0]
        exact ⟨m, rfl, hM, hF⟩
      · rw [if_pos (by rw [iI_zero]; exact iI_ne hx (by omega) x0), if_neg x0]
        exact ⟨m, rfl, hM, hF⟩
    · right
      obtain ⟨f', rfl⟩ : ∃ f', f = f' + 1 := ⟨f - 1, by omega⟩
      unfold lonF at hL
      obtain ⟨m2, r1, ⟨⟨L', hH', hD'⟩, r4, r6, r3, r5⟩⟩ := m_ry (wd := -1) hV hM.1.1 hD hM.w12 (by omega) (win := i) (by omega)
      have k12 : gI m2 72 12 = iI (-1) := (r5.2.1 12 (by omega) (by omega) (by omega) (by omega) (by omega) (by omega) (by omega)).trans hM.w12
      have k13 : gI m2 72 13 = iI (-1) := (r5.2.1 13 (by omega) (by omega) (by omega) (by omega) (by omega) (by omega) (by omega)).trans hM.w13
      obtain ⟨m3, s1, s2, s3, s4, s5⟩ := m_untry (hT.fr hg r5) hg k12 k13
      have fc3 : FC h m3 := (hF.tr r5.fc).tr fun x k q => ⟨s4 x k (by omega), s5 x k⟩
      have hb0 := ry_b (S := g.now.S) (T := g.now.T) hV (show i < 2 * (g.now.R + g.now.C) by omega)
      have hb := (ry_out (S := g.now.S) (T := g.now.T) hV (show i < 2 * (g.now.R + g.now.C) by omega)).2.1
      have en : (iI (ry g.now.R g.now.C g.now.K g.now.M i g.now.S g.now.T).1 < 0) = (((ry g.now.R g.now.C g.now.K g.now.M i g.now.S g.now.T).1 : Int) < 0) := by rw [iI_zero]; exact iI_lt ⟨by omega, by omega⟩
      have ec : (iI (ry g.now.R g.now.C g.now.K g.now.M i g.now.S g.now.T).2.2.2.2.2.2.1 ≤ iI bs) = (((ry g.now.R g.now.C g.now.K g.now.M i g.now.S g.now.T).2.2.2.2.2.2.1 : Int) ≤ bs) := iI_le ⟨by omega, by omega⟩
      rw [if_neg (by rw [e]; omega), r1, cal2_some, join_eq, join_eq, if_neg (by rw [en]; omega), r3]
      by_cases hle : (ry g.now.R g.now.C g.now.K g.now.M i g.now.S g.now.T).2.2.2.2.2.2.1 ≤ bs
      · rw [if_pos hle] at hL
        rw [if_pos (by rw [ec]; omega)]
        dsimp only
        rw [join_eq, if_pos (by decide)]
        unfold f_X11_longest_k14
        rw [join_eq, if_pos (by decide), s1]
        dsimp only
        rw [cal_some, iI_add, nm_eq]
        exact ⟨f', _, _, _, _, Nat.lt_succ_self f', ⟨i + 1, bw, bs, rfl, rfl, rfl, by omega, hbs, hL, s2, s3, fc3⟩, rfl⟩
      · rw [if_neg hle] at hL
        rw [if_neg (by rw [ec]; omega)]
        dsimp only
        rw [join_eq, if_neg (by decide)]
        unfold f_X11_longest_k14
        rw [join_eq, if_neg (by decide), r3, s1]
        dsimp only
        rw [cal_some, iI_add, nm_eq]
        exact ⟨f', _, _, _, _, Nat.lt_succ_self f', ⟨i + 1, i, _, rfl, rfl, rfl, by omega, hb, hL, s2, s3, fc3⟩, rfl⟩
  · rw [decide_eq_false e1, bn_false, if_neg (by decide), if_neg e1, cal2_id]
    exact c_errs hm hg (e := 1) (by omega)
theorem GV.long {x : Int} (hg : GV g) : GV (spLong g x).2 := by
  unfold spLong
  by_cases e1 : 0 ≤ x ∧ x ≤ 1
  · rw [if_pos e1]; exact hg
  · rw [if_neg e1]; exact hg.fail 1
end ROUNDOP
