section LETOPS
theorem rayF_VD {R C : Nat} {K M : Nat → Nat} {wt : Int} : ∀ (f r c w : Nat) (S : Nat → Bool) (T L : Nat → Nat) (th : Nat) (se : Nat → Bool) (n : Nat) (sw : Int), r < R → c < C → VD R C M S T L → VD R C M (rayF R C K M wt f r c w S T L th se n sw).2.1 (rayF R C K M wt f r c w S T L th se n sw).2.2.1 (rayF R C K M wt f r c w S T L th se n sw).2.2.2.1
  | 0, _, _, _, _, _, _, _, _, _, _, _, _, hD => hD
  | f + 1, r, c, w, S, T, L, th, se, n, sw, hr, hc, hD => by
    have hq : r * C + c < R * C := sq_lt hr hc
    have hl9 : min 9999 (L (r * C + c) + 1) ≤ 9999 := Nat.min_le_left _ _
    unfold rayF
    dsimp only
    by_cases hs : stp (K (r * C + c)) = true
    · rw [if_pos hs]; exact hD.lit hl9
    · rw [if_neg hs]
      have hD1 := VD.step2 (k := K (r * C + c)) (s := turnS (K (r * C + c)) (M (r * C + c)) (S (r * C + c)) (T (r * C + c))) (x := thr (K (r * C + c))) hD hq hl9
      generalize (if thr (K (r * C + c)) = true then bend w (S (r * C + c)) else w) = w1
      generalize (if thr (K (r * C + c)) = true then upB S (r * C + c) (turnS (K (r * C + c)) (M (r * C + c)) (S (r * C + c)) (T (r * C + c))) else S) = S1 at *
      generalize (if thr (K (r * C + c)) = true then upN T (r * C + c) (turnT (K (r * C + c)) (M (r * C + c)) (T (r * C + c))) else T) = T1 at *
      by_cases e0 : w1 = 0
      · rw [if_pos e0]
        by_cases e : r = 0
        · rw [if_pos e]; exact hD1
        · rw [if_neg e]; exact rayF_VD f _ _ _ _ _ _ _ _ _ _ (by omega) hc hD1
      · rw [if_neg e0]
        by_cases e1 : w1 = 1
        · rw [if_pos e1]
          by_cases e : c + 1 = C
          · rw [if_pos e]; exact hD1
          · rw [if_neg e]; exact rayF_VD f _ _ _ _ _ _ _ _ _ _ hr (by omega) hD1
        · rw [if_neg e1]
          by_cases e2 : w1 = 2
          · rw [if_pos e2]
            by_cases e : r + 1 = R
            · rw [if_pos e]; exact hD1
            · rw [if_neg e]; exact rayF_VD f _ _ _ _ _ _ _ _ _ _ (by omega) hc hD1
          · rw [if_neg e2]
            by_cases e : c = 0
            · rw [if_pos e]; exact hD1
            · rw [if_neg e]; exact rayF_VD f _ _ _ _ _ _ _ _ _ _ hr (by omega) hD1
def clT (t : Int) : Int := max (-99999) (min 99999 t)
abbrev WH.ray1 (s : WH) (w : Nat) : RES := ray s.R s.C s.K s.M (-1) w s.S s.T s.L (-1)
/-- a mirror turned by hand; a ray let in; a number drawn; a day -/
def WH.hnd (s : WH) (q : Nat) : WH := (s.sca (clT (s.tak - (costV s q).toInt)) s.day s.z).row s.R s.C s.K s.M (upB s.S q (!s.S q)) s.T s.L
def WH.shn (s : WH) (w : Nat) : WH := s.row s.R s.C s.K s.M (s.ray1 w).2.1 (s.ray1 w).2.2.1 (s.ray1 w).2.2.2.1
def WH.lts (s : WH) (w : Nat) : WH := (s.shn w).sca (clT (s.tak + (lawV s 1 (iI w) (iI (s.ray1 w).1) (iI (s.ray1 w).2.2.2.2.1)).toInt)) s.day s.z
def WH.drw (s : WH) : WH := s.sca s.tak s.day (s.z * iI 1103515245 + iI 12345)
def rndV (x : Int32) : Nat := nOf (fun i => bt x (8 + i)) 24
theorem ush8 (x : Int32) : ushI x (iI 8) = iI (rndV x) := by
  apply b_ext
  intro i hi
  unfold rndV
  rw [show (iI 8) = iI ((8 : Nat) : Int) from rfl, b_ush (by omega), b_nat, nOf_bit]
  by_cases h : i < 24
  · simp [h, hi]
  · rw [b_big (by omega)]; simp [h]
theorem rndV_lt (x : Int32) : rndV x < 16777216 := nOf_lt 24
theorem clT_b (t : Int) : -99999 ≤ clT t ∧ clT t ≤ 99999 := by unfold clT; omega
theorem WV.hnd {s : WH} {q : Nat} (hV : WV s) (hq : q < s.R * s.C) : WV (s.hnd q) := by
  obtain ⟨v1, ⟨d1, d2, d3⟩, v3, v4, v5, v6, v7, v8⟩ := hV
  refine ⟨v1, ⟨d1, d2, fun p hp => ?_⟩, clT_b _, v4, v5, v6, v7, v8⟩
  refine ⟨?_, (d3 p hp).2⟩
  show upB s.S q (!s.S q) p = false
  unfold upB
  rw [if_neg (show ¬ p = q by intro e; rw [e] at hp; exact absurd hp (Nat.not_le.mpr hq))]
  exact (d3 p hp).1
theorem WV.shn {s : WH} {w : Nat} (hV : WV s) (hw : w < 2 * (s.R + s.C)) : WV (s.shn w) := by
  obtain ⟨v1, v2, v3, v4, v5, v6, v7, v8⟩ := hV
  obtain ⟨o1, o2, -⟩ := ent_ok v1.1 v1.2.2.1 hw
  exact ⟨v1, rayF_VD 5000 _ _ _ _ _ _ _ _ _ _ o1 o2 v2, v3, v4, v5, v6, v7, v8⟩
theorem WV.sca {s : WH} {t : Int} {d : Nat} {z : Int32} (hV : WV s) (ht : -99999 ≤ t ∧ t ≤ 99999) (hd : d ≤ 9999) : WV (s.sca t d z) := by
  obtain ⟨v1, v2, v3, v4, v5, v6, v7, v8⟩ := hV
  exact ⟨v1, v2, ht, hd, v5, v6, v7, v8⟩
theorem WV.lts {s : WH} {w : Nat} (hV : WV s) (hw : w < 2 * (s.R + s.C)) : WV (s.lts w) := (hV.shn hw).sca (clT_b _) hV.2.2.2.1
theorem WV.drw {s : WH} (hV : WV s) : WV s.drw := hV.sca hV.2.2.1 hV.2.2.2.1
theorem GV.put {g : GS} {s : WH} (hg : GV g) (hV : WV s) : GV (g.put s) := ⟨hV, hg.2⟩
variable {h : Mem} {g : GS}
theorem iI_toI {z : Int} (h : -2147483648 ≤ z ∧ z < 2147483648) : (iI z).toInt = z := iI_toInt h
theorem w_earn {s : WH} {z : Int} (hw : WC h 2 s) (hV : WV s) (hz : -99 ≤ z ∧ z ≤ 99) : f_X9_earn h 2 (iI z) = some (sI h 2 7 (iI (clT (s.tak + z)))) := by
  obtain ⟨-, -, -, -, -, w7, -⟩ := hw
  have ht := hV.2.2.1
  unfold f_X9_earn
  rw [w7, iI_add, w_held, hld_i (by omega) (by omega), cal_some, nm_eq]; rfl
theorem m_takes {s : WH} {z : Int} (hw : WM h 73 s) (hV : WV s) (hz : -99 ≤ z ∧ z ≤ 99) : f_X11_takes h (iI z) = some (sI h 73 2 (iI (clT (s.tak + z)))) := by
  obtain ⟨-, w2, -⟩ := hw
  have ht := hV.2.2.1
  unfold f_X11_takes
  rw [ald_i (by omega) (by omega), show gI h 73 (2 : Int).toNat = iI s.tak from w2, iI_add, m_held (by omega), hld_i (by omega) (by omega), cal_some, ast_i (by omega) (by omega)]; rfl
/-- the class's whole now paid -/
theorem CSt.pay {t : Int} (hc : CSt h g) : CSt (sI h 2 7 (iI t)) (g.put (g.now.sca t g.now.day g.now.z)) := by
  obtain ⟨-, -, -, -, -, h6, h7, h8, -⟩ := hc.1
  exact hc.now (hc.1.sca (fun x k _ _ q => gI_ne (by omega)) rfl gI_same ((gI_ne (by omega)).trans h7) ((gI_ne (by omega)).trans h8)) (fun x k q => gI_ne (by omega)) rfl
theorem MSt.pay {t : Int} (hm : MSt h g) (hg : GV g) : MSt (sI h 73 2 (iI t)) (g.put (g.now.sca t g.now.day g.now.z)) := by
  obtain ⟨-, h2, h3, h4, -⟩ := hm.1
  exact hm.now hg (hm.1.sca hg.1 (fun k _ q2 q3 q4 => gI_ne (by omega)) gI_same ((gI_ne (by omega)).trans h3) ((gI_ne (by omega)).trans h4)) (fun x k q => gI_ne (by omega))
theorem c_turns {q : Nat} (hc : CSt h g) (hg : GV g) (hq : q < g.now.R * g.now.C) (ht : trn (g.now.K q) = true) : ∃ h2, f_X9_handTurns h 2 (iI q) = some (iI 1, h2) ∧ CSt h2 (g.put (g.now.hnd q)) ∧ FM h h2 := by
  have hV := hg.1.1
  have h25 := sq_25 hV.2.1 hV.2.2.2.1
  have hq25 : q < 25 := by omega
  unfold f_X9_handTurns
  obtain ⟨m1, w1, w2, w3⟩ := w_cost hc.1 hg.1 hq25
  obtain ⟨z, ez, z1, z2⟩ := lawV_b (s := g.now) (u := 0) (a := iI (q / g.now.C : Nat)) (b := iI (q % g.now.C : Nat)) (c := iI (g.now.M q))
  have ez' : costV g.now q = iI z := ez
  have c1 := hc.stk w2 w3
  rw [w_handCan (a := 2 + 1) hc.1.1 (hV.2.2.2.2.1 q) hq25, ht, cal_some, bn_true, if_pos (by decide), w1, cal2_some, ez', iI_neg, w_earn c1.1 hg.1 (by omega), cal_some]
  have c2 := c1.pay (t := clT (g.now.tak + -z))
  rw [h_flip (a := 2 + 1) (S := g.now.S) c2.1.1.2.2.2.2.2.1 hq25, cal_some, rZ1]
  have e3 : g.now.hnd q = (g.now.sca (clT (g.now.tak + -z)) g.now.day g.now.z).row g.now.R g.now.C g.now.K g.now.M (upB g.now.S q (!g.now.S q)) g.now.T g.now.L := by
    unfold WH.hnd
    rw [ez', iI_toI (by omega), Int.sub_eq_add_neg]
  rw [e3]
  refine ⟨_, rfl, c2.now (c2.1.hall ?_ fun x k q => gI_ne (by omega)) (fun x k q => gI_ne (by omega)) rfl, fun x k q => ⟨?_, ?_⟩⟩
  · obtain ⟨a1, a2, a3, a4, a5, a6, a7⟩ := c2.1.1
    exact ⟨(gI_ne (by omega)).trans a1, (gI_ne (by omega)).trans a2, fun p hp => (gI_ne (by omega)).trans (a3 p hp), fun p hp => (gI_ne (by omega)).trans (a4 p hp), fun p hp => (gI_ne (by omega)).trans (a5 p hp), gI_same, a7⟩
  · rw [gI_ne (by omega), gI_ne (by omega), w2 _ _ (by omega) (by omega)]
  · exact w3 _ _
theorem c_turns0 {q : Nat} (hc : CSt h g) (hg : GV g) (hq : q < g.now.R * g.now.C) (ht : trn (g.now.K q) = false) : f_X9_handTurns h 2 (iI q) = some (iI 0, h) := by
  have hV := hg.1.1
  have h25 := sq_25 hV.2.1 hV.2.2.2.1
  unfold f_X9_handTurns
  rw [w_handCan (a := 2 + 1) hc.1.1 (hV.2.2.2.2.1 q) (by omega), ht, cal_some, bn_false, if_neg (by decide), rZ0]
theorem m_hands {q : Nat} (hm : MSt h g) (hg : GV g) (hq : q < g.now.R * g.now.C) : ∃ h2, f_X11_hands h (iI q) = some h2 ∧ MSt h2 (g.put (g.now.hnd q)) ∧ FC h h2 := by
  have hV := hg.1.1
  have h25 := sq_25 hV.2.1 hV.2.2.2.1
  have hq25 : q < 25 := by omega
  unfold f_X11_hands
  obtain ⟨m1, w1, w2, w3⟩ := m_cost hm.1 hg.1 hq25
  obtain ⟨z, ez, z1, z2⟩ := lawV_b (s := g.now) (u := 0) (a := iI (q / g.now.C : Nat)) (b := iI (q % g.now.C : Nat)) (c := iI (g.now.M q))
  have ez' : costV g.now q = iI z := ez
  have c1 := hm.wk hg w2
  have c2 := c1.pay (t := clT (g.now.tak + -z)) hg
  have hg2 : GV (g.put (g.now.sca (clT (g.now.tak + -z)) g.now.day g.now.z)) := hg.put (hg.1.sca (clT_b _) hg.1.2.2.2.1)
  rw [w1, cal2_some, ez', iI_neg, m_takes c1.1 hg.1 (by omega), cal_some, m_flips c2.1.1 hq25, cal_some]
  have e3 : g.now.hnd q = (g.now.sca (clT (g.now.tak + -z)) g.now.day g.now.z).row g.now.R g.now.C g.now.K g.now.M (upB g.now.S q (!g.now.S q)) g.now.T g.now.L := by
    unfold WH.hnd
    rw [ez', iI_toI (by omega), Int.sub_eq_add_neg]
  rw [e3]
  refine ⟨_, rfl, c2.now hg2 (c2.1.hall hg2.1 (rm_slant c2.1.1) fun k hk => gI_ne (by omega)) (fun x k q => gI_ne (by omega)), fun x k q => ⟨?_, ?_⟩⟩
  · rw [gI_ne (by omega), gI_ne (by omega), w2 _ _ (by omega)]
  · exact w3 _ _
theorem c_rayIn {w : Nat} (hc : CSt h g) (hg : GV g) (hw : w < 2 * (g.now.R + g.now.C)) : ∃ h2, f_X9_rayIn h 2 29 (iI w) = some (iI (g.now.ray1 w).1, h2) ∧ CSt h2 (g.put (g.now.lts w)) ∧ FM h h2 := by
  have hV := hg.1.1
  unfold f_X9_rayIn
  obtain ⟨sw, es, s1, s2⟩ := iI_of (gI h 29 7)
  obtain ⟨m1, e1, r1, r2, r3, r4, r5, r6, r7, r8, r9⟩ := w_run (a := 3) (b := 29) (wt := -1) hV (by omega) hc.1.1 hg.1.2.1 hc.2.2.2.2.2.2.2.1 (by omega) es (win := w) (by omega)
  obtain ⟨a1, a2, a3, a4, a5, a6⟩ := ray_ry (R := g.now.R) (C := g.now.C) (K := g.now.K) (M := g.now.M) (wt := -1) (sw := sw) (win := w) (S := g.now.S) (T := g.now.T) (L := g.now.L)
  obtain ⟨b1, b2, b3, b4, b5, b6⟩ := ray_ry (R := g.now.R) (C := g.now.C) (K := g.now.K) (M := g.now.M) (wt := -1) (sw := -1) (win := w) (S := g.now.S) (T := g.now.T) (L := g.now.L)
  rw [a1, ← b1] at e1
  rw [a2, ← b2, a3, ← b3, ray_lit (sw' := -1) (wt' := -1)] at r1
  rw [a4, ← b4] at r3
  have c1 : CSt m1 (g.put (g.now.shn w)) := hc.now (hc.1.hall r1 fun x k q => (r8 x k (by omega) (by omega) (by omega)).1) (fun x k q => by
    by_cases e : x = 29
    · subst e
      rcases (show k = 6 by omega) with rfl
      exact r6
    · exact (r8 x k (by omega) (by omega) e).1) (r8 _ _ (by omega) (by omega) (by omega)).2
  have hV1 : WV (g.now.shn w) := hg.1.shn hw
  have f1 : FM h m1 := fun x k q => r8 x k (by omega) (by omega) (by omega)
  obtain ⟨m2, w1, w2, w3⟩ := w_gives (s := g.now.shn w) (a := iI w) (b := iI (g.now.ray1 w).1) (c := iI (g.now.ray1 w).2.2.2.2.1) c1.1 hV1 (show 1 < 2 by omega)
  have c2 := c1.stk w2 w3
  obtain ⟨z, ez, z1, z2⟩ := lawV_b (s := g.now) (u := 1) (a := iI w) (b := iI (g.now.ray1 w).1) (c := iI (g.now.ray1 w).2.2.2.2.1)
  have ez2 : lawV (g.now.shn w) 1 (iI w) (iI (g.now.ray1 w).1) (iI (g.now.ray1 w).2.2.2.2.1) = iI z := ez
  rw [e1, cal2_some, r3, show (2 + 8 : Nat) = 7 + 3 * 1 from rfl, w1, cal2_some, ez2, w_earn (s := g.now.shn w) c2.1 hV1 (by omega), cal_some]
  have c3 := c2.pay (t := clT (g.now.tak + z))
  have e3 : g.now.lts w = (g.now.shn w).sca (clT (g.now.tak + z)) g.now.day g.now.z := by
    unfold WH.lts
    rw [ez, iI_toI (by omega)]
  rw [e3]
  exact ⟨_, rfl, c3, f1.tr fun x k q => ⟨(gI_ne (by omega)).trans (w2 _ _ (by omega) (by omega)), w3 _ _⟩⟩
theorem m_letIn {w : Nat} (hm : MSt h g) (hg : GV g) (hw : w < 2 * (g.now.R + g.now.C)) : ∃ h2, f_X11_letIn h (iI w) = some (iI (g.now.ray1 w).1, h2) ∧ MSt h2 (g.put (g.now.lts w)) ∧ FC h h2 := by
  have hV := hg.1.1
  unfold f_X11_letIn
  obtain ⟨m1, e1, r1, r2, r3, r4, r5, r6, r7⟩ := m_goes (wd := -1) (wt := -1) hV hm.1.1 hg.1.2.1 hm.w12 hm.w13 (by omega) (by omega) (win := w) (by omega)
  have hV1 : WV (g.now.shn w) := hg.1.shn hw
  have hg1 : GV (g.put (g.now.shn w)) := hg.put hV1
  have c1 : MSt m1 (g.put (g.now.shn w)) := (hm.mx.fr hg r7).put.st (hm.1.hall hg.1 r1 fun k hk => r7.2.2 k (by omega)) ((r7.2.1 12 (by omega) (by omega) (by omega) (by omega) (by omega) (by omega) (by omega)).trans hm.w12) ((r7.2.1 13 (by omega) (by omega) (by omega) (by omega) (by omega) (by omega) (by omega)).trans hm.w13)
  obtain ⟨m2, w1, w2, w3⟩ := m_lawOf (s := g.now.shn w) (a := iI w) (b := iI (g.now.ray1 w).1) (c := iI (g.now.ray1 w).2.2.2.2.1) c1.1 hV1 (show 1 < 2 by omega)
  have c2 := c1.wk hg1 w2
  obtain ⟨z, ez, z1, z2⟩ := lawV_b (s := g.now) (u := 1) (a := iI w) (b := iI (g.now.ray1 w).1) (c := iI (g.now.ray1 w).2.2.2.2.1)
  have ez2 : lawV (g.now.shn w) 1 (iI w) (iI (g.now.ray1 w).1) (iI (g.now.ray1 w).2.2.2.2.1) = iI z := ez
  rw [e1, cal2_some, r3, show (iI 1) = iI ((1 : Nat) : Int) from rfl, w1, cal2_some, ez2, m_takes (s := g.now.shn w) c2.1 hV1 (by omega), cal_some]
  have c3 := c2.pay (t := clT (g.now.tak + z)) hg1
  have e3 : g.now.lts w = (g.now.shn w).sca (clT (g.now.tak + z)) g.now.day g.now.z := by
    unfold WH.lts
    rw [ez, iI_toI (by omega)]
  rw [e3]
  exact ⟨_, rfl, c3, r7.fc.tr fun x k q => ⟨(gI_ne (by omega)).trans (w2 _ _ (by omega)), w3 _ _⟩⟩
theorem ray1_b {s : WH} {w : Nat} (hV : WV s) (hw : w < 2 * (s.R + s.C)) : (s.ray1 w).1 ≤ 100 := by
  have h := ry_out (S := s.S) (T := s.T) hV.1 hw
  rw [← (ray_ry (wt := -1) (sw := -1) (L := s.L)).1] at h
  have v1 := hV.1.2.1
  have v2 := hV.1.2.2.2.1
  have h2 : (s.ray1 w).1 = 100 ∨ (s.ray1 w).1 < 2 * (s.R + s.C) := h.1
  omega
/-! hand, let -/
def spHand (g : GS) (x : Int) : Int32 × GS := if 0 ≤ x ∧ x < (g.now.R * g.now.C : Nat) then (if trn (g.now.K x.toNat) then (bn (!g.now.S x.toNat), g.put (g.now.hnd x.toNat)) else (iI (-1000000003), g.fail 3)) else (iI (-1000000001), g.fail 1)
theorem c_hand {x : Int} (hc : CSt h g) (hg : GV g) (hx : -2147483648 ≤ x ∧ x < 2147483648) : OPC h (f_X10_hand h (iI x)) (spHand g x).1 (spHand g x).2 := by
  have hV := hg.1.1
  have h25 := sq_25 hV.2.1 hV.2.2.2.1
  unfold f_X10_hand spHand
  rw [w_hasSquare hc.1.1 hV hx, cal_some]
  by_cases e1 : 0 ≤ x ∧ x < (g.now.R * g.now.C : Nat)
  · obtain ⟨q, rfl⟩ : ∃ q : Nat, x = q := ⟨x.toNat, by omega⟩
    rw [decide_eq_true e1, bn_true, if_pos (by decide), if_pos e1, Int.toNat_natCast]
    cases ht : trn (g.now.K q)
    · rw [c_turns0 hc hg (by omega) ht, cal2_some, if_pos (by decide), if_neg (by decide), cal2_id]
      exact c_fail hc (e := 3) (by omega)
    · obtain ⟨h2, w1, w2, w3⟩ := c_turns hc hg (show q < _ by omega) ht
      have hS : gI h2 3 5 = slW (upB g.now.S q (!g.now.S q)) := w2.1.1.2.2.2.2.2.1
      rw [w1, cal2_some, if_neg (by decide), if_pos rfl, h_slantOf hS (by omega), cal_some, upB_same]
      exact ⟨h2, rfl, w2, w3⟩
  · rw [decide_eq_false e1, bn_false, if_neg (by decide), if_neg e1, cal2_id]
    exact c_fail hc (e := 1) (by omega)
theorem m_hand {x : Int} (hm : MSt h g) (hg : GV g) (hx : -2147483648 ≤ x ∧ x < 2147483648) : OPM h (f_X11_hand h (iI x)) (spHand g x).1 (spHand g x).2 := by
  have hV := hg.1.1
  have h25 := sq_25 hV.2.1 hV.2.2.2.1
  unfold f_X11_hand spHand
  rw [m_isSquare hm.1.1 hV hx, cal_some]
  by_cases e1 : 0 ≤ x ∧ x < (g.now.R * g.now.C : Nat)
  · obtain ⟨q, rfl⟩ : ∃ q : Nat, x = q := ⟨x.toNat, by omega⟩
    rw [decide_eq_true e1, bn_true, if_pos (by decide), if_pos e1, Int.toNat_natCast, m_canTurn hm.1.1 (hV.2.2.2.2.1 q) (by omega), cal_some]
    cases ht : trn (g.now.K q)
    · rw [bn_false, if_neg (by decide), if_neg (by decide), cal2_id]
      exact c_errs hm hg (e := 3) (by omega)
    · obtain ⟨h2, w1, w2, w3⟩ := m_hands hm hg (show q < _ by omega)
      have hS : gI h2 73 (10 + 5 * q + 2) = bn (upB g.now.S q (!g.now.S q) q) := (w2.1.1.2.2 q (by omega)).2.2.1
      rw [bn_true, if_pos (by decide), if_pos rfl, w1, cal_some, m_its2 (by omega), hS, cal_some, upB_same]
      exact ⟨h2, rfl, w2, w3⟩
  · rw [decide_eq_false e1, bn_false, if_neg (by decide), if_neg e1, cal2_id]
    exact c_errs hm hg (e := 1) (by omega)
theorem GV.hand {x : Int} (hg : GV g) : GV (spHand g x).2 := by
  unfold spHand
  by_cases e1 : 0 ≤ x ∧ x < (g.now.R * g.now.C : Nat)
  · rw [if_pos e1]
    split
    · exact hg.put (hg.1.hnd (by omega))
    · exact hg.fail 3
  · rw [if_neg e1]; exact hg.fail 1
def spLet (g : GS) (x : Int) : Int32 × GS := if 0 ≤ x ∧ x < (2 * (g.now.R + g.now.C) : Nat) then (iI (g.now.ray1 x.toNat).1, g.put (g.now.lts x.toNat)) else (iI (-1000000001), g.fail 1)
theorem c_let {x : Int} (hc : CSt h g) (hg : GV g) (hx : -2147483648 ≤ x ∧ x < 2147483648) : OPC h (f_X10_let h (iI x)) (spLet g x).1 (spLet g x).2 := by
  unfold f_X10_let spLet
  rw [w_hasWindow hc.1.1 hg.1.1 hx, cal_some]
  by_cases e1 : 0 ≤ x ∧ x < (2 * (g.now.R + g.now.C) : Nat)
  · obtain ⟨w, rfl⟩ : ∃ w : Nat, x = w := ⟨x.toNat, by omega⟩
    obtain ⟨h2, w1, w2, w3⟩ := c_rayIn hc hg (show w < _ by omega)
    rw [decide_eq_true e1, bn_true, if_neg (by decide), if_pos e1, Int.toNat_natCast, w1, cal2_some]
    exact ⟨h2, rfl, w2, w3⟩
  · rw [decide_eq_false e1, bn_false, if_pos (by decide), if_neg e1, cal2_id]
    exact c_fail hc (e := 1) (by omega)
theorem m_let {x : Int} (hm : MSt h g) (hg : GV g) (hx : -2147483648 ≤ x ∧ x < 2147483648) : OPM h (f_X11_let h (iI x)) (spLet g x).1 (spLet g x).2 := by
  unfold f_X11_let spLet
  rw [m_isWindow hm.1.1 hg.1.1 hx, cal_some]
  by_cases e1 : 0 ≤ x ∧ x < (2 * (g.now.R + g.now.C) : Nat)
  · obtain ⟨w, rfl⟩ : ∃ w : Nat, x = w := ⟨x.toNat, by omega⟩
    obtain ⟨h2, w1, w2, w3⟩ := m_letIn hm hg (show w < _ by omega)
    rw [decide_eq_true e1, bn_true, if_neg (by decide), if_pos e1, Int.toNat_natCast, w1, cal2_some]
    exact ⟨h2, rfl, w2, w3⟩
  · rw [decide_eq_false e1, bn_false, if_pos (by decide), if_neg e1, cal2_id]
    exact c_errs hm hg (e := 1) (by omega)
theorem GV.let0 {x : Int} (hg : GV g) : GV (spLet g x).2 := by
  unfold spLet
  by_cases e1 : 0 ≤ x ∧ x < (2 * (g.now.R + g.now.C) : Nat)
  · rw [if_pos e1]; exact hg.put (hg.1.lts (by omega))
  · rw [if_neg e1]; exact hg.fail 1
end LETOPS
