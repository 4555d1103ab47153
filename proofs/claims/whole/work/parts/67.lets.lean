section LETSOP
variable {h : Mem} {g : GS}
/-- a number as a window -/
def winO (W : Nat) (x : Int32) : Option Nat := if 0 ≤ x.toInt ∧ x.toInt < W then some x.toInt.toNat else none
theorem winO_some {W w : Nat} {x : Int32} (h : winO W x = some w) : w < W ∧ x = iI w := by
  unfold winO at h
  by_cases e : 0 ≤ x.toInt ∧ x.toInt < W
  · rw [if_pos e] at h
    obtain rfl := Option.some.inj h
    refine ⟨by omega, ?_⟩
    rw [show ((x.toInt.toNat : Nat) : Int) = x.toInt by omega]
    exact (Int32.ofInt_toInt x).symm
  · rw [if_neg e] at h; cases h
theorem winO_none {W : Nat} {x : Int32} (h : winO W x = none) : ∃ z : Int, x = iI z ∧ (-2147483648 ≤ z ∧ z < 2147483648) ∧ ¬ (0 ≤ z ∧ z < W) := by
  unfold winO at h
  by_cases e : 0 ≤ x.toInt ∧ x.toInt < W
  · rw [if_pos e] at h; cases h
  · exact ⟨x.toInt, (Int32.ofInt_toInt x).symm, ⟨Int32.le_toInt x, Int32.toInt_lt x⟩, e⟩
theorem winO_i {W w : Nat} (hw : w < W) (hW : W < 1000) : winO W (iI w) = some w := by
  unfold winO
  rw [iI_toI (by omega), if_pos ⟨by omega, by omega⟩, Int.toNat_natCast]
/-- narrowed or not: the same window -/
theorem winO_nrw {W b : Nat} {x : Int32} (hb : b = 8 ∨ b = 16 ∨ b = 32) (hx : ∀ i, b ≤ i → i < 32 → bt x i = false) (hW : W ≤ 20) : winO W (nrw b x) = winO W x := by
  cases e : winO W x with
  | some w =>
    obtain ⟨hw, ex⟩ := winO_some e
    rw [(nrw_small hb hx (show w < 128 by omega)).mpr ex]
    exact winO_i hw (by omega)
  | none =>
    cases e2 : winO W (nrw b x) with
    | none => rfl
    | some w =>
      obtain ⟨hw, ex⟩ := winO_some e2
      have := (nrw_small hb hx (show w < 128 by omega)).mp ex
      rw [this, winO_i hw (by omega)] at e
      cases e
theorem w_hasWin {a R C : Nat} {K M T L : Nat → Nat} {S : Nat → Bool} {x : Int32} (hh : HC h a R C K M S T L) (hV : VS R C K M) : f_X3_hasWindow h a x = some (bn (winO (2 * (R + C)) x).isSome) := by
  have v1 := hV.2.1
  have v2 := hV.2.2.2.1
  cases e : winO (2 * (R + C)) x with
  | some w =>
    obtain ⟨hw, ex⟩ := winO_some e
    rw [ex, w_hasWindow hh hV (by omega), decide_eq_true (by omega)]; rfl
  | none =>
    obtain ⟨z, ex, hz, hn⟩ := winO_none e
    rw [ex, w_hasWindow hh hV hz, decide_eq_false hn]; rfl
theorem m_isWin {R C : Nat} {K M T L : Nat → Nat} {S : Nat → Bool} {x : Int32} (hh : RM h 73 R C K M S T L) (hV : VS R C K M) : f_X11_isWindow h x = some (bn (winO (2 * (R + C)) x).isSome) := by
  have v1 := hV.2.1
  have v2 := hV.2.2.2.1
  cases e : winO (2 * (R + C)) x with
  | some w =>
    obtain ⟨hw, ex⟩ := winO_some e
    rw [ex, m_isWindow hh hV (by omega), decide_eq_true (by omega)]; rfl
  | none =>
    obtain ⟨z, ex, hz, hn⟩ := winO_none e
    rw [ex, m_isWindow hh hV hz, decide_eq_false hn]; rfl
theorem lts_R {s : WH} {w : Nat} : (s.lts w).R = s.R := by unfold WH.lts; rw [sca_R]; unfold WH.shn; exact row_R
theorem lts_C {s : WH} {w : Nat} : (s.lts w).C = s.C := by unfold WH.lts; rw [sca_C]; unfold WH.shn; exact row_C
/-- windows of a sheet, one after another -/
def letsF (l : List Int32) : Nat → Nat → WH → Nat × WH
  | 0, k, s => (k, s)
  | f + 1, k, s => match winO (2 * (s.R + s.C)) (l.getD k 0) with
    | some w => letsF l f (k + 1) (s.lts w)
    | none => (k, s)
theorem letsF_WV {l : List Int32} : ∀ (f k : Nat) {s : WH}, WV s → WV (letsF l f k s).2
  | 0, k, s, hV => hV
  | f + 1, k, s, hV => by
    unfold letsF
    cases e : winO (2 * (s.R + s.C)) (l.getD k 0) with
    | some w => exact letsF_WV f (k + 1) (hV.lts (winO_some e).1)
    | none => exact hV
def spLets (g : GS) (x : Int) : Int32 × GS := if 0 ≤ x ∧ x ≤ 3 then (if g.bits x.toNat = 0 then (iI (-1000000002), g.fail 2) else (iI (letsF (g.sheet x.toNat) (g.sheet x.toNat).length 0 g.now).1, g.put (letsF (g.sheet x.toNat) (g.sheet x.toNat).length 0 g.now).2)) else (iI (-1000000001), g.fail 1)
theorem c_lets {x : Int} (hc : CSt h g) (hg : GV g) (hx : -2147483648 ≤ x ∧ x < 2147483648) : OPC h (f_X10_lets h (iI x)) (spLets g x).1 (spLets g x).2 := by
  unfold f_X10_lets spLets
  rw [w_hasSheet hx, cal_some]
  by_cases e1 : 0 ≤ x ∧ x ≤ 3
  · obtain ⟨u, rfl⟩ : ∃ u : Nat, x = u := ⟨x.toNat, by omega⟩
    have hu : u < 4 := by omega
    obtain ⟨s1, s2, s3, s4⟩ := hg.2.2.1 u hu
    rw [decide_eq_true e1, bn_true, if_pos (by decide), if_pos e1, rng_i (by omega) (by omega), Int.toNat_natCast, w_isMissing hc hg hu, cal_some]
    by_cases b0 : g.bits u = 0
    · rw [decide_eq_true b0, bn_true, if_neg (by decide), if_pos b0, cal2_id]
      exact c_fail hc (e := 2) (by omega)
    · rw [decide_eq_false b0, bn_false, if_pos (by decide), if_neg b0]
      obtain ⟨X, hX⟩ : ∃ X, X = letsF (g.sheet u) (g.sheet u).length 0 g.now := ⟨_, rfl⟩
      rw [← hX]
      obtain ⟨N, hN⟩ : ∃ N : Nat, N = 1000000 := ⟨_, rfl⟩
      rw [← hN]
      refine lo2_t (fun f x4 m => ∃ (i : Nat) (s : WH), x4 = iI i ∧ i + f = (g.sheet u).length ∧ letsF (g.sheet u) f i s = X ∧ WV s ∧ CSt m (g.put s) ∧ FM h m) (fun o => OPC h o (iI X.1) (g.put X.2)) ?_ N (g.sheet u).length _ _ (by omega) ⟨0, g.now, rfl, by omega, hX.symm, hg.1, hc, fun _ _ _ => ⟨rfl, rfl⟩⟩
      rintro f x4 m ⟨i, s, rfl, hf, hL, hVs, hcs, hF⟩ Kc
      obtain ⟨c1, c2, c3⟩ := hcs.2.2.2.2.1 u hu
      have c2' : gI m (64 + 2 * u) 1 = iI (g.sheet u).length := c2
      have c3' : LSt m (64 + 2 * u + 1) 0 (g.sheet u) := c3
      unfold f_X10_lets_k6
      have e : (iI (g.sheet u).length ≤ iI i) = (((g.sheet u).length : Int) ≤ i) := iI_le ⟨by omega, by omega⟩
      rw [c2']
      by_cases hi : i = (g.sheet u).length
      · left
        have hs : X = (i, s) := by rw [← hL, show f = 0 by omega]; rfl
        rw [if_pos (by rw [e]; omega), hs]
        exact ⟨_, rfl, m, rfl, hcs, hF⟩
      · obtain ⟨f', rfl⟩ : ∃ f', f = f' + 1 := ⟨f - 1, by omega⟩
        unfold letsF at hL
        have hil : i < (g.sheet u).length := by omega
        have hv : gI m (64 + 2 * u + 1) i = (g.sheet u).getD i 0 := by
          have := c3' i hil
          rw [Nat.zero_add] at this
          rw [this, ← List.getElem_eq_getD (h := hil) 0]
        have hw := w_hasWin (x := (g.sheet u).getD i 0) hcs.1.1 hVs.1
        rw [put_now] at hw
        rw [if_neg (by rw [e]; omega), ald_i (by omega) (by omega), Int.toNat_natCast, hv, hw, cal_some]
        cases ew : winO (2 * (s.R + s.C)) ((g.sheet u).getD i 0) with
        | none =>
          left
          rw [ew] at hL
          have hL' : (i, s) = X := hL
          rw [show bn (none : Option Nat).isSome = iI 0 from rfl, if_pos (by decide), ← hL']
          exact ⟨_, rfl, m, rfl, hcs, hF⟩
        | some w =>
          right
          rw [ew] at hL
          obtain ⟨hw1, hw2⟩ := winO_some ew
          obtain ⟨m2, r1, r2, r3⟩ := c_rayIn (w := w) hcs (hg.put hVs) (by rw [put_now]; exact hw1)
          rw [put_now, put_put] at r2
          rw [show bn (some w).isSome = iI 1 from rfl, if_neg (by decide), ald_i (by omega) (by omega), Int.toNat_natCast, hv, hw2, r1, cal2_some, nm_eq, iI_add]
          exact ⟨f', _, _, Nat.lt_succ_self f', ⟨i + 1, s.lts w, rfl, by omega, hL, hVs.lts hw1, r2, hF.tr r3⟩, rfl⟩
  · rw [decide_eq_false e1, bn_false, if_neg (by decide), if_neg e1, cal2_id]
    exact c_fail hc (e := 1) (by omega)
theorem m_lets {x : Int} (hm : MSt h g) (hg : GV g) (hx : -2147483648 ≤ x ∧ x < 2147483648) : OPM h (f_X11_lets h (iI x)) (spLets g x).1 (spLets g x).2 := by
  unfold f_X11_lets spLets
  rw [m_isSheet hx, cal_some]
  by_cases e1 : 0 ≤ x ∧ x ≤ 3
  · obtain ⟨u, rfl⟩ : ∃ u : Nat, x = u := ⟨x.toNat, by omega⟩
    have hu : u < 4 := by omega
    obtain ⟨s1, s2, s3, s4⟩ := hg.2.2.1 u hu
    obtain ⟨c1, c2, c3⟩ := hm.2.2.2.2.2.1 u hu
    have eb : (iI (g.bits u) = 0) = ((g.bits u : Int) = 0) := by rw [iI_zero]; exact iI_eq ⟨by omega, by omega⟩
    rw [decide_eq_true e1, bn_true, if_pos (by decide), if_pos e1, ald_i (by omega) (by omega), Int.toNat_natCast, c1]
    by_cases b0 : g.bits u = 0
    · rw [if_neg (by rw [eb]; omega), if_pos b0, cal2_id]
      exact c_errs hm hg (e := 2) (by omega)
    · rw [if_pos (by rw [eb]; omega), if_neg b0]
      obtain ⟨X, hX⟩ : ∃ X, X = letsF (g.sheet u) (g.sheet u).length 0 g.now := ⟨_, rfl⟩
      rw [← hX]
      obtain ⟨N, hN⟩ : ∃ N : Nat, N = 1000000 := ⟨_, rfl⟩
      rw [← hN]
      refine lo2_t (fun f x4 m => ∃ (i : Nat) (s : WH), x4 = iI i ∧ i + f = (g.sheet u).length ∧ letsF (g.sheet u) f i s = X ∧ WV s ∧ MSt m (g.put s) ∧ FC h m) (fun o => OPM h o (iI X.1) (g.put X.2)) ?_ N (g.sheet u).length _ _ (by omega) ⟨0, g.now, rfl, by omega, hX.symm, hg.1, hm, fun _ _ _ => ⟨rfl, rfl⟩⟩
      rintro f x4 m ⟨i, s, rfl, hf, hL, hVs, hcs, hF⟩ Kc
      obtain ⟨c1, c2, c3⟩ := hcs.2.2.2.2.2.1 u hu
      have c2' : gI m 84 u = iI (g.sheet u).length := c2
      have c3' : ∀ k (hk : k < (g.sheet u).length), gI m 85 (40 * u + k) = nrw (g.bits u) (g.sheet u)[k] := c3
      unfold f_X11_lets_k5
      have e : (iI (g.sheet u).length ≤ iI i) = (((g.sheet u).length : Int) ≤ i) := iI_le ⟨by omega, by omega⟩
      rw [ald_i (by omega) (by omega), Int.toNat_natCast, c2']
      by_cases hi : i = (g.sheet u).length
      · left
        have hs : X = (i, s) := by rw [← hL, show f = 0 by omega]; rfl
        rw [if_pos (by rw [e]; omega), hs]
        exact ⟨_, rfl, m, rfl, hcs, hF⟩
      · obtain ⟨f', rfl⟩ : ∃ f', f = f' + 1 := ⟨f - 1, by omega⟩
        unfold letsF at hL
        have hil : i < (g.sheet u).length := by omega
        have v1 := hVs.1.2.1
        have v2 := hVs.1.2.2.2.1
        have hw := m_isWin (x := nrw (g.bits u) (g.sheet u)[i]) hcs.1.1 hVs.1
        rw [put_now, winO_nrw (by omega) (s4 _ (List.getElem_mem _)) (by omega), List.getElem_eq_getD (h := hil) 0] at hw
        rw [if_neg (by rw [e]; omega), iI_mul, iI_add, ald_i (by omega) (by omega), show ((40 : Int) * (u : Int) + (i : Int)).toNat = 40 * u + i by omega, c3' i hil, List.getElem_eq_getD (h := hil) 0, hw, cal_some]
        cases ew : winO (2 * (s.R + s.C)) ((g.sheet u).getD i 0) with
        | none =>
          left
          rw [ew] at hL
          have hL' : (i, s) = X := hL
          rw [show bn (none : Option Nat).isSome = iI 0 from rfl, if_pos (by decide), ← hL']
          exact ⟨_, rfl, m, rfl, hcs, hF⟩
        | some w =>
          right
          rw [ew] at hL
          obtain ⟨hw1, hw2⟩ := winO_some ew
          have hnw : nrw (g.bits u) ((g.sheet u).getD i 0) = iI w := by
            rw [← List.getElem_eq_getD (h := hil) 0] at hw2 ⊢
            exact (nrw_small (by omega) (s4 _ (List.getElem_mem _)) (by omega)).mpr hw2
          obtain ⟨m2, r1, r2, r3⟩ := m_letIn (w := w) hcs (hg.put hVs) (by rw [put_now]; exact hw1)
          have hb := ray1_b hVs hw1
          rw [put_now] at r1 r2
          rw [put_put] at r2
          have e0 : (0 ≤ iI ((s.ray1 w).1 : Int)) = ((0 : Int) ≤ (s.ray1 w).1) := by rw [iI_zero]; exact iI_le ⟨by omega, by omega⟩
          rw [show bn (some w).isSome = iI 1 from rfl, if_neg (by decide), ald_i (by omega) (by omega), show ((40 : Int) * (u : Int) + (i : Int)).toNat = 40 * u + i by omega, c3' i hil, List.getElem_eq_getD (h := hil) 0, hnw, r1, cal2_some, join_eq, if_pos (by rw [e0]; omega)]
          dsimp only
          rw [iI_add, nm_eq]
          exact ⟨f', _, _, Nat.lt_succ_self f', ⟨i + 1, s.lts w, rfl, by omega, hL, hVs.lts hw1, r2, hF.tr r3⟩, rfl⟩
  · rw [decide_eq_false e1, bn_false, if_neg (by decide), if_neg e1, cal2_id]
    exact c_errs hm hg (e := 1) (by omega)
theorem GV.lets {x : Int} (hg : GV g) : GV (spLets g x).2 := by
  unfold spLets
  by_cases e1 : 0 ≤ x ∧ x ≤ 3
  · rw [if_pos e1]
    split
    · exact hg.fail 2
    · exact hg.put (letsF_WV _ _ hg.1)
  · rw [if_neg e1]; exact hg.fail 1
end LETSOP
