section DAYSOP
variable {h : Mem} {g : GS}
def WH.dq (s : WH) : Nat := rndV s.drw.z % (s.R * s.C)
def WH.dw (s : WH) : Nat := rndV s.drw.drw.z % (2 * (s.R + s.C))
def WH.d3 (s : WH) : WH := if trn (s.K s.dq) then s.drw.drw.hnd s.dq else s.drw.drw
def WH.dy1 (s : WH) : WH := (s.d3.lts s.dw).sca (s.d3.lts s.dw).tak ((s.d3.lts s.dw).day + 1) (s.d3.lts s.dw).z
theorem dq_lt {s : WH} (hV : WV s) : s.dq < s.R * s.C := Nat.mod_lt _ (Nat.mul_pos hV.1.1 hV.1.2.2.1)
theorem dw_lt {s : WH} (hV : WV s) : s.dw < 2 * (s.R + s.C) := Nat.mod_lt _ (by have := hV.1.1; omega)
theorem put_now {g : GS} {s : WH} : (g.put s).now = s := (rfl)
theorem put_put {g : GS} {s t : WH} : (g.put s).put t = g.put t := (rfl)
theorem sca_R {s : WH} {t : Int} {d : Nat} {z : Int32} : (s.sca t d z).R = s.R := (rfl)
theorem sca_C {s : WH} {t : Int} {d : Nat} {z : Int32} : (s.sca t d z).C = s.C := (rfl)
theorem sca_K {s : WH} {t : Int} {d : Nat} {z : Int32} : (s.sca t d z).K = s.K := (rfl)
theorem sca_day {s : WH} {t : Int} {d : Nat} {z : Int32} : (s.sca t d z).day = d := (rfl)
theorem row_R {s : WH} {R C : Nat} {K M T L : Nat → Nat} {S : Nat → Bool} : (s.row R C K M S T L).R = R := (rfl)
theorem row_C {s : WH} {R C : Nat} {K M T L : Nat → Nat} {S : Nat → Bool} : (s.row R C K M S T L).C = C := (rfl)
theorem row_day {s : WH} {R C : Nat} {K M T L : Nat → Nat} {S : Nat → Bool} : (s.row R C K M S T L).day = s.day := (rfl)
theorem drw_R {s : WH} : s.drw.R = s.R := by unfold WH.drw; exact sca_R
theorem drw_C {s : WH} : s.drw.C = s.C := by unfold WH.drw; exact sca_C
theorem drw_K {s : WH} : s.drw.K = s.K := by unfold WH.drw; exact sca_K
theorem drw_day {s : WH} : s.drw.day = s.day := by unfold WH.drw; exact sca_day
theorem hnd_R {s : WH} {q : Nat} : (s.hnd q).R = s.R := by unfold WH.hnd; exact row_R
theorem hnd_C {s : WH} {q : Nat} : (s.hnd q).C = s.C := by unfold WH.hnd; exact row_C
theorem hnd_day {s : WH} {q : Nat} : (s.hnd q).day = s.day := by unfold WH.hnd; rw [row_day, sca_day]
theorem lts_day {s : WH} {w : Nat} : (s.lts w).day = s.day := by unfold WH.lts; exact sca_day
theorem d3_day {s : WH} : s.d3.day = s.day := by
  unfold WH.d3
  split
  · rw [hnd_day, drw_day, drw_day]
  · rw [drw_day, drw_day]
theorem d3_RC {s : WH} : s.d3.R = s.R ∧ s.d3.C = s.C := by
  unfold WH.d3
  split
  · rw [hnd_R, hnd_C, drw_R, drw_R, drw_C, drw_C]; exact ⟨rfl, rfl⟩
  · rw [drw_R, drw_R, drw_C, drw_C]; exact ⟨rfl, rfl⟩
theorem dq_lt2 {s : WH} (hV : WV s) : s.dq < s.drw.drw.R * s.drw.drw.C := by rw [drw_R, drw_R, drw_C, drw_C]; exact dq_lt hV
theorem WV.d3 {s : WH} (hV : WV s) : WV s.d3 := by
  unfold WH.d3
  split
  · exact hV.drw.drw.hnd (dq_lt2 hV)
  · exact hV.drw.drw
theorem WV.dy1 {s : WH} (hV : WV s) (hd : s.day + 1 ≤ 9999) : WV s.dy1 := by
  have h3 := hV.d3
  have h4 : WV (s.d3.lts s.dw) := h3.lts (by rw [d3_RC.1, d3_RC.2]; exact dw_lt hV)
  exact h4.sca h4.2.2.1 (by rw [lts_day, d3_day]; exact hd)
theorem CSt.drw (hc : CSt h g) : f_X9_draw h 2 = some (iI (rndV g.now.drw.z), sI h 2 9 g.now.drw.z) ∧ CSt (sI h 2 9 g.now.drw.z) (g.put g.now.drw) := by
  obtain ⟨-, -, -, -, -, h6, h7, h8, -⟩ := hc.1
  refine ⟨?_, hc.now (hc.1.sca (fun x k _ _ q => gI_ne (by omega)) rfl ((gI_ne (by omega)).trans h6) ((gI_ne (by omega)).trans h7) gI_same) (fun x k q => gI_ne (by omega)) rfl⟩
  unfold f_X9_draw
  rw [h8, nm_eq, gI_same, ush8]; rfl
theorem MSt.drw {n : Nat} (hm : MSt h g) (hg : GV g) (hn : 0 < n ∧ n < 1000) : f_X11_drawn h (iI n) = some (iI (rndV g.now.drw.z % n : Nat), sI h 73 4 g.now.drw.z) ∧ MSt (sI h 73 4 g.now.drw.z) (g.put g.now.drw) := by
  obtain ⟨-, h2, h3, h4, -⟩ := hm.1
  refine ⟨?_, hm.now hg (hm.1.sca hg.1 (fun k _ q2 q3 q4 => gI_ne (by omega)) ((gI_ne (by omega)).trans h2) ((gI_ne (by omega)).trans h3) gI_same) (fun x k q => gI_ne (by omega))⟩
  unfold f_X11_drawn
  have hr := rndV_lt g.now.drw.z
  rw [ald_i (by omega) (by omega), show gI h 73 (4 : Int).toNat = g.now.z from h4, ast_i (by omega) (by omega), ald_i (by omega) (by omega), show (4 : Int).toNat = 4 from rfl, gI_same, nz_i (by omega), show g.now.z * iI 1103515245 + iI 12345 = g.now.drw.z from rfl, ush8, iI_rem (by omega) (by omega)]; rfl
theorem w_rest {a n : Nat} (ha : a < 16777216) (hn : 0 < n ∧ n < 1000) : f_X10_rest h (iI a) (iI n) = some (iI (a % n : Nat)) := by
  unfold f_X10_rest
  rw [if_pos (by rw [iI_zero]; exact iI_ne (by omega) (by omega) (by omega)), nz_i (by omega), iI_rem (by omega) (by omega)]; rfl
theorem c_day (hc : CSt h g) (hg : GV g) : ∃ h2, f_X9_liveDay h 2 29 = some h2 ∧ CSt h2 (g.put g.now.dy1) ∧ FM h h2 := by
  have hV := hg.1.1
  have v1 := hV.1
  have v2 := hV.2.1
  have v3 := hV.2.2.1
  have v4 := hV.2.2.2.1
  have h25 := sq_25 v2 v4
  have h1 : 0 < g.now.R * g.now.C := Nat.mul_pos v1 v3
  unfold f_X9_liveDay
  obtain ⟨d1, c1⟩ := hc.drw
  have g1 : GV (g.put g.now.drw) := hg.put hg.1.drw
  have c1' : CSt (sI h 2 9 g.now.drw.z) (g.put g.now.drw) := c1
  have sq1 : f_X3_squares (sI h 2 9 g.now.drw.z) (2 + 1) = some (iI (g.now.R * g.now.C : Nat)) := by
    have := w_squares c1'.1.1
    rw [put_now, drw_R, drw_C] at this
    exact this
  rw [d1, cal2_some, sq1, cal_some, w_rest (rndV_lt _) (show 0 < g.now.R * g.now.C ∧ g.now.R * g.now.C < 1000 from ⟨h1, by omega⟩), cal_some]
  obtain ⟨d2, c2⟩ := c1'.drw
  rw [put_now] at d2 c2
  rw [put_put] at c2
  have g2 : GV (g.put g.now.drw.drw) := hg.put hg.1.drw.drw
  have wn1 : f_X3_windows (sI (sI h 2 9 g.now.drw.z) 2 9 g.now.drw.drw.z) (2 + 1) = some (iI (2 * (g.now.R + g.now.C) : Nat)) := by
    have := w_windows c2.1.1
    rw [put_now, drw_R, drw_C, drw_R, drw_C] at this
    exact this
  rw [d2, cal2_some, wn1, cal_some, w_rest (rndV_lt _) (show 0 < 2 * (g.now.R + g.now.C) ∧ 2 * (g.now.R + g.now.C) < 1000 from ⟨by omega, by omega⟩), cal_some]
  have eq1 : (iI (rndV (g.now.drw).z % (g.now.R * g.now.C) : Nat)) = iI g.now.dq := by unfold WH.dq; rfl
  have eq2 : (iI (rndV (g.now.drw.drw).z % (2 * (g.now.R + g.now.C)) : Nat)) = iI g.now.dw := by unfold WH.dw; rfl
  rw [eq1, eq2]
  have f2 : FM h (sI (sI h 2 9 g.now.drw.z) 2 9 g.now.drw.drw.z) := fun x k q => ⟨(gI_ne (by omega)).trans (gI_ne (by omega)), rfl⟩
  have hR3 := d3_RC (s := g.now)
  have fin : ∀ (m : Mem) (v : Int32), CSt m (g.put g.now.d3) → FM h m → ∃ h2, (cal2 (some (v, m)) fun v9 h10 => cal2 (f_X9_rayIn h10 2 29 (iI g.now.dw)) fun v11 h12 => nm (sI h12 2 8 (gI h12 2 8 + iI 1)) fun h13 => some h13) = some h2 ∧ CSt h2 (g.put g.now.dy1) ∧ FM h h2 := fun m v cm fm => by
    have gm : GV (g.put g.now.d3) := hg.put hg.1.d3
    obtain ⟨m3, w1, w2, w3⟩ := c_rayIn (w := g.now.dw) cm gm (by rw [put_now, hR3.1, hR3.2]; exact dw_lt hg.1)
    rw [put_now, put_put] at w2
    obtain ⟨-, -, -, -, -, q6, q7, q8, -⟩ := id w2.1
    rw [put_now] at q6 q7 q8
    rw [cal2_some, w1, cal2_some, q7, iI_add, nm_eq]
    have ey : g.now.dy1 = (g.now.d3.lts g.now.dw).sca (g.now.d3.lts g.now.dw).tak ((g.now.d3.lts g.now.dw).day + 1) (g.now.d3.lts g.now.dw).z := by unfold WH.dy1; rfl
    rw [ey]
    exact ⟨_, rfl, w2.now (w2.1.sca (fun x k _ _ q => gI_ne (by omega)) rfl ((gI_ne (by omega)).trans q6) gI_same ((gI_ne (by omega)).trans q8)) (fun x k q => gI_ne (by omega)) rfl, (fm.tr w3).tr fun x k q => ⟨gI_ne (by omega), rfl⟩⟩
  have hq2 : g.now.dq < (g.put g.now.drw.drw).now.R * (g.put g.now.drw.drw).now.C := by rw [put_now]; exact dq_lt2 hg.1
  have eK : (g.put g.now.drw.drw).now.K = g.now.K := by rw [put_now, drw_K, drw_K]
  cases ht : trn (g.now.K g.now.dq)
  · rw [c_turns0 (q := g.now.dq) c2 g2 hq2 (by rw [eK]; exact ht)]
    exact fin _ _ (by unfold WH.d3; rw [if_neg (by rw [ht]; decide)]; exact c2) f2
  · obtain ⟨m3, w1, w2, w3⟩ := c_turns (q := g.now.dq) c2 g2 hq2 (by rw [eK]; exact ht)
    rw [put_now, put_put] at w2
    rw [w1]
    exact fin _ _ (by unfold WH.d3; rw [if_pos ht]; exact w2) (f2.tr w3)
def dyN : Nat → WH → WH
  | 0, s => s
  | n + 1, s => dyN n s.dy1
theorem dy1_day {s : WH} : s.dy1.day = s.day + 1 := by
  have h : s.dy1.day = (s.d3.lts s.dw).day + 1 := by unfold WH.dy1; exact sca_day
  rw [h, lts_day, d3_day]
theorem dyN_WV : ∀ (n : Nat) {s : WH}, WV s → s.day + n ≤ 9999 → WV (dyN n s)
  | 0, s, hV, _ => hV
  | n + 1, s, hV, hd => dyN_WV n (hV.dy1 (by omega)) (by rw [dy1_day]; omega)
def spDays (g : GS) (x : Int) : Int32 × GS := if 1 ≤ x ∧ x ≤ 200 then (if g.now.day + x.toNat ≤ 9999 then (iI (dyN x.toNat g.now).tak, g.put (dyN x.toNat g.now)) else (iI (-1000000003), g.fail 3)) else (iI (-1000000001), g.fail 1)
theorem c_days {x : Int} (hc : CSt h g) (hg : GV g) (hx : -2147483648 ≤ x ∧ x < 2147483648) : OPC h (f_X10_days h (iI x)) (spDays g x).1 (spDays g x).2 := by
  have hd := hg.1.2.2.2.1
  unfold f_X10_days spDays
  rw [w_within hx (by omega) (by omega), cal_some]
  by_cases e1 : 1 ≤ x ∧ x ≤ 200
  · obtain ⟨n, rfl⟩ : ∃ n : Nat, x = n := ⟨x.toNat, by omega⟩
    have w8 : gI h 2 8 = iI g.now.day := hc.1.2.2.2.2.2.2.1
    have e : (iI ((g.now.day : Int) + n) ≤ iI 9999) = ((g.now.day : Int) + n ≤ 9999) := iI_le ⟨by omega, by omega⟩
    rw [decide_eq_true e1, bn_true, if_pos (by decide), if_pos e1, Int.toNat_natCast, w8, iI_add]
    by_cases e2 : g.now.day + n ≤ 9999
    · rw [if_pos (by rw [e]; omega), if_pos e2]
      obtain ⟨X, hX⟩ : ∃ X, X = dyN n g.now := ⟨_, rfl⟩
      rw [← hX]
      obtain ⟨N, hN⟩ : ∃ N : Nat, N = 1000000 := ⟨_, rfl⟩
      rw [← hN]
      refine lo2_t (fun f x2 m => ∃ (i : Nat) (s : WH), x2 = iI i ∧ i + f = n ∧ dyN f s = X ∧ s.day + f ≤ 9999 ∧ GV (g.put s) ∧ CSt m (g.put s) ∧ FM h m) (fun o => OPC h o (iI X.tak) (g.put X)) ?_ N n _ _ (by omega) ⟨0, g.now, rfl, by omega, hX.symm, e2, hg, hc, fun _ _ _ => ⟨rfl, rfl⟩⟩
      rintro f x2 m ⟨i, s, rfl, hf, hL, hdd, hgs, hcs, hF⟩ Kc
      unfold f_X10_days_k4
      have e : (iI n ≤ iI i) = ((n : Int) ≤ i) := iI_le ⟨by omega, by omega⟩
      by_cases hi : i = n
      · left
        have hs : s = X := by rw [← hL, show f = 0 by omega]; rfl
        rw [if_pos (by rw [e]; omega), show gI m 2 7 = iI s.tak from hcs.1.2.2.2.2.2.1, ← hs]
        exact ⟨_, rfl, m, rfl, hcs, hF⟩
      · right
        obtain ⟨f', rfl⟩ : ∃ f', f = f' + 1 := ⟨f - 1, by omega⟩
        obtain ⟨m2, w1, w2, w3⟩ := c_day hcs hgs
        rw [if_neg (by rw [e]; omega), w1, cal_some, nm_eq, iI_add]
        exact ⟨f', _, _, Nat.lt_succ_self f', ⟨i + 1, s.dy1, rfl, by omega, hL, by rw [dy1_day]; omega, hgs.put (hgs.1.dy1 (by show s.day + 1 ≤ 9999; omega)), w2, hF.tr w3⟩, rfl⟩
    · rw [if_neg (by rw [e]; omega), if_neg e2, cal2_id]
      exact c_fail hc (e := 3) (by omega)
  · rw [decide_eq_false e1, bn_false, if_neg (by decide), if_neg e1, cal2_id]
    exact c_fail hc (e := 1) (by omega)
theorem m_dayK {n : Nat} {s : WH} {K : Int32 → Mem → Option (Int32 × Mem)} {i : Nat} (hin : i < n) (hn : n ≤ 200) (hm : MSt h (g.put s)) (hg : GV (g.put s)) : ∃ h2, f_X11_days_k5 (iI n) (iI i) h K = K (iI (i + 1 : Nat)) h2 ∧ MSt h2 (g.put s.dy1) ∧ FC h h2 := by
  have hVs : WV s := hg.1
  have hV : VS s.R s.C s.K s.M := hVs.1
  have v1 := hV.1
  have v2 := hV.2.1
  have v3 := hV.2.2.1
  have v4 := hV.2.2.2.1
  have h25 := sq_25 v2 v4
  have h1 : 0 < s.R * s.C := Nat.mul_pos v1 v3
  have hq25 : s.dq < 25 := Nat.lt_of_lt_of_le (dq_lt hVs) h25
  unfold f_X11_days_k5
  have e : (iI n ≤ iI i) = ((n : Int) ≤ i) := iI_le ⟨by omega, by omega⟩
  obtain ⟨d1, c1⟩ := hm.drw hg (n := s.R * s.C) ⟨h1, by omega⟩
  rw [put_now] at d1 c1
  rw [put_put] at c1
  have g1 : GV (g.put s.drw) := hg.put hVs.drw
  have many : f_X11_many h = some (iI (s.R * s.C : Nat)) := m_many hm.1.1
  have wn1 : f_X11_windows (sI h 73 4 s.drw.z) = some (iI (2 * (s.R + s.C) : Nat)) := by
    have := m_windows c1.1.1
    rw [put_now, drw_R, drw_C] at this
    exact this
  rw [if_neg (by rw [e]; omega), many, cal_some, d1, cal2_some, wn1, cal_some]
  obtain ⟨d2, c2⟩ := c1.drw g1 (n := 2 * (s.R + s.C)) ⟨by omega, by omega⟩
  rw [put_now] at d2 c2
  rw [put_put] at c2
  have g2 : GV (g.put s.drw.drw) := hg.put hVs.drw.drw
  rw [d2, cal2_some]
  have eq1 : (iI (rndV (s.drw).z % (s.R * s.C) : Nat)) = iI s.dq := by unfold WH.dq; rfl
  have eq2 : (iI (rndV (s.drw.drw).z % (2 * (s.R + s.C)) : Nat)) = iI s.dw := by unfold WH.dw; rfl
  have ct : f_X11_canTurn (sI (sI h 73 4 s.drw.z) 73 4 s.drw.drw.z) (iI s.dq) = some (bn (trn (s.K s.dq))) := by
    have h6 : (g.put s.drw.drw).now.K s.dq ≤ 6 := by rw [put_now, drw_K, drw_K]; exact hV.2.2.2.2.1 _
    have := m_canTurn (q := s.dq) c2.1.1 h6 hq25
    rw [put_now, drw_K, drw_K] at this
    exact this
  rw [eq1, eq2, ct, cal_some, join_eq]
  have f2 : FC h (sI (sI h 73 4 s.drw.z) 73 4 s.drw.drw.z) := fun x k q => ⟨(gI_ne (by omega)).trans (gI_ne (by omega)), rfl⟩
  have hR3 := d3_RC (s := s)
  have fin : ∀ (m : Mem), MSt m (g.put s.d3) → FC h m → ∃ h2, f_X11_days_k15 (iI s.dw) (iI i) K m = K (iI (i + 1 : Nat)) h2 ∧ MSt h2 (g.put s.dy1) ∧ FC h h2 := fun m cm fm => by
    have gm : GV (g.put s.d3) := hg.put hVs.d3
    have hwd : s.dw < 2 * (s.d3.R + s.d3.C) := by rw [hR3.1, hR3.2]; exact dw_lt hVs
    obtain ⟨m3, w1, w2, w3⟩ := m_letIn (w := s.dw) cm gm (by rw [put_now]; exact hwd)
    rw [put_now] at w1 w2
    rw [put_put] at w2
    have hb := ray1_b hVs.d3 hwd
    have hgl : GV (g.put (s.d3.lts s.dw)) := hg.put (hVs.d3.lts hwd)
    obtain ⟨-, q2, q3, q4, -⟩ := id w2.1
    rw [put_now] at q2 q3 q4
    have e0 : (0 ≤ iI ((s.d3.ray1 s.dw).1 : Int)) = ((0 : Int) ≤ (s.d3.ray1 s.dw).1) := by rw [iI_zero]; exact iI_le ⟨by omega, by omega⟩
    unfold f_X11_days_k15
    rw [w1, cal2_some, ald_i (by omega) (by omega), show gI m3 73 (3 : Int).toNat = _ from q3, join_eq, if_pos (by rw [e0]; omega)]
    dsimp only
    rw [iI_add, ast_i (by omega) (by omega), nm_eq, iI_add]
    have ey : s.dy1 = (s.d3.lts s.dw).sca (s.d3.lts s.dw).tak ((s.d3.lts s.dw).day + 1) (s.d3.lts s.dw).z := by unfold WH.dy1; rfl
    rw [ey]
    exact ⟨_, rfl, w2.now hgl (w2.1.sca hgl.1 (fun k _ q2 q3 q4 => gI_ne (by omega)) ((gI_ne (by omega)).trans q2) gI_same ((gI_ne (by omega)).trans q4)) (fun x k q => gI_ne (by omega)), (fm.tr w3).tr fun x k q => ⟨gI_ne (by omega), rfl⟩⟩
  cases ht : trn (s.K s.dq)
  · rw [bn_false, if_pos (by decide)]
    exact fin _ (by unfold WH.d3; rw [if_neg (by rw [ht]; decide)]; exact c2) f2
  · obtain ⟨m3, w1, w2, w3⟩ := m_hands (q := s.dq) c2 g2 (by rw [put_now]; exact dq_lt2 hVs)
    rw [put_now, put_put] at w2
    rw [bn_true, if_neg (by decide), w1, cal_some]
    exact fin _ (by unfold WH.d3; rw [if_pos ht]; exact w2) (f2.tr w3)
theorem m_days {x : Int} (hm : MSt h g) (hg : GV g) (hx : -2147483648 ≤ x ∧ x < 2147483648) : OPM h (f_X11_days h (iI x)) (spDays g x).1 (spDays g x).2 := by
  have hd := hg.1.2.2.2.1
  unfold f_X11_days spDays
  rw [m_in hx (by omega) (by omega), cal_some]
  by_cases e1 : 1 ≤ x ∧ x ≤ 200
  · obtain ⟨n, rfl⟩ : ∃ n : Nat, x = n := ⟨x.toNat, by omega⟩
    have w8 : gI h 73 3 = iI g.now.day := hm.1.2.2.1
    have e : (iI ((g.now.day : Int) + n) ≤ iI 9999) = ((g.now.day : Int) + n ≤ 9999) := iI_le ⟨by omega, by omega⟩
    rw [decide_eq_true e1, bn_true, if_pos (by decide), if_pos e1, Int.toNat_natCast, ald_i (by omega) (by omega), show (3 : Int).toNat = 3 from rfl, w8, iI_add]
    by_cases e2 : g.now.day + n ≤ 9999
    · rw [if_pos (by rw [e]; omega), if_pos e2]
      obtain ⟨X, hX⟩ : ∃ X, X = dyN n g.now := ⟨_, rfl⟩
      rw [← hX]
      obtain ⟨N, hN⟩ : ∃ N : Nat, N = 1000000 := ⟨_, rfl⟩
      rw [← hN]
      refine lo2_t (fun f x2 m => ∃ (i : Nat) (s : WH), x2 = iI i ∧ i + f = n ∧ dyN f s = X ∧ s.day + f ≤ 9999 ∧ GV (g.put s) ∧ MSt m (g.put s) ∧ FC h m) (fun o => OPM h o (iI X.tak) (g.put X)) ?_ N n _ _ (by omega) ⟨0, g.now, rfl, by omega, hX.symm, e2, hg, hm, fun _ _ _ => ⟨rfl, rfl⟩⟩
      rintro f x2 m ⟨i, s, rfl, hf, hL, hdd, hgs, hcs, hF⟩ Kc
      have e : (iI n ≤ iI i) = ((n : Int) ≤ i) := iI_le ⟨by omega, by omega⟩
      by_cases hi : i = n
      · left
        have hs : s = X := by rw [← hL, show f = 0 by omega]; rfl
        unfold f_X11_days_k5
        rw [if_pos (by rw [e]; omega), ald_i (by omega) (by omega), show gI m 73 (2 : Int).toNat = iI s.tak from hcs.1.2.1, ← hs]
        exact ⟨_, rfl, m, rfl, hcs, hF⟩
      · right
        obtain ⟨f', rfl⟩ : ∃ f', f = f' + 1 := ⟨f - 1, by omega⟩
        obtain ⟨m2, w1, w2, w3⟩ := m_dayK (K := Kc) (n := n) (i := i) (by omega) (by omega) hcs hgs
        exact ⟨f', _, _, Nat.lt_succ_self f', ⟨i + 1, s.dy1, rfl, by omega, hL, by rw [dy1_day]; omega, hgs.put (hgs.1.dy1 (by show s.day + 1 ≤ 9999; omega)), w2, hF.tr w3⟩, w1⟩
    · rw [if_neg (by rw [e]; omega), if_neg e2, cal2_id]
      exact c_errs hm hg (e := 3) (by omega)
  · rw [decide_eq_false e1, bn_false, if_neg (by decide), if_neg e1, cal2_id]
    exact c_errs hm hg (e := 1) (by omega)
theorem GV.days {x : Int} (hg : GV g) : GV (spDays g x).2 := by
  unfold spDays
  by_cases e1 : 1 ≤ x ∧ x ≤ 200
  · rw [if_pos e1]
    by_cases e2 : g.now.day + x.toNat ≤ 9999
    · rw [if_pos e2]; exact hg.put (dyN_WV _ hg.1 e2)
    · rw [if_neg e2]; exact hg.fail 3
  · rw [if_neg e1]; exact hg.fail 1
end DAYSOP
