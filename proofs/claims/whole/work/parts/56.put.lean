section PUTOP
variable {h : Mem} {g : GS}
def spPut (g : GS) (x y : Int) (v : Int32) : Int32 × GS := if 0 ≤ x ∧ x ≤ 3 then (if g.bits x.toNat = 0 then (iI (-1000000002), g.fail 2) else if 0 ≤ y ∧ y < (g.sheet x.toNat).length then (iI 1, g.shs x.toNat (g.bits x.toNat) ((g.sheet x.toNat).set y.toNat (msk (g.bits x.toNat) v))) else (iI (-1000000001), g.fail 1)) else (iI (-1000000001), g.fail 1)
theorem c_putS {x y : Int} {v : Int32} (hc : CSt h g) (hg : GV g) (hx : -2147483648 ≤ x ∧ x < 2147483648) (hy : -2147483648 ≤ y ∧ y < 2147483648) : OPC h (f_X10_put h (iI x) (iI y) v) (spPut g x y v).1 (spPut g x y v).2 := by
  unfold f_X10_put spPut
  rw [w_hasSheet hx, cal_some]
  by_cases e1 : 0 ≤ x ∧ x ≤ 3
  · obtain ⟨u, rfl⟩ : ∃ u : Nat, x = u := ⟨x.toNat, by omega⟩
    have hu : u < 4 := by omega
    obtain ⟨s1, s2, s3, s4⟩ := hg.2.2.1 u hu
    obtain ⟨c1, c2, c3⟩ := hc.2.2.2.2.1 u hu
    rw [decide_eq_true e1, bn_true, if_pos (by decide), if_pos e1, rng_i (by omega) (by omega), Int.toNat_natCast, w_isMissing hc hg hu, cal_some]
    by_cases b0 : g.bits u = 0
    · rw [decide_eq_true b0, bn_true, if_neg (by decide), if_pos b0, cal2_id]
      exact c_fail hc (e := 2) (by omega)
    · rw [decide_eq_false b0, bn_false, if_pos (by decide), if_neg b0, c2, iI_sub, w_within hy (by omega) (by omega), cal_some, show decide (0 ≤ y ∧ y ≤ ((g.sheet u).length : Int) - 1) = decide (0 ≤ y ∧ y < (g.sheet u).length) from decide_eq_decide.mpr ⟨fun p => ⟨p.1, by omega⟩, fun p => ⟨p.1, by omega⟩⟩]
      by_cases e2 : 0 ≤ y ∧ y < (g.sheet u).length
      · obtain ⟨k, rfl⟩ : ∃ k : Nat, y = k := ⟨y.toNat, by omega⟩
        rw [decide_eq_true e2, bn_true, if_pos (by decide), if_pos e2, Int.toNat_natCast]
        have hw : f_X7_write h (64 + 2 * u) (iI k) v = some (sI h (64 + 2 * u + 1) k (msk (g.bits u) v)) := by
          unfold f_X7_write msk
          rw [c1]
          have e : (iI (g.bits u) = iI 32) = ((g.bits u : Int) = 32) := iI_eq ⟨by omega, by omega⟩
          by_cases b32 : g.bits u = 32
          · rw [if_neg (by rw [e]; omega), if_pos b32, ast_i (by omega) (by omega), Int.toNat_natCast]
          · rw [if_pos (by rw [e]; omega), if_neg b32, ast_i (by omega) (by omega), Int.toNat_natCast]
        rw [hw, cal_some]
        refine ⟨_, rfl, hc.shs ?_ ?_ (fun j hj => ?_) (fun a j q1 q2 => gI_ne (by omega)) (fun a j => rfl), fun a j q => ⟨gI_ne (by omega), rfl⟩⟩
        · rw [gI_ne (by omega)]; exact c1
        · rw [gI_ne (by omega), List.length_set]; exact c2
        · rw [List.length_set] at hj
          rw [List.getElem_set]
          by_cases e : k = j
          · rw [if_pos e, ← e, Nat.zero_add, gI_same]
          · rw [if_neg e, gI_ne (by omega)]; exact c3 j hj
      · rw [decide_eq_false e2, bn_false, if_neg (by decide), if_neg e2, cal2_id]
        exact c_fail hc (e := 1) (by omega)
  · rw [decide_eq_false e1, bn_false, if_neg (by decide), if_neg e1, cal2_id]
    exact c_fail hc (e := 1) (by omega)
theorem m_putS {x y : Int} {v : Int32} (hm : MSt h g) (hg : GV g) (hx : -2147483648 ≤ x ∧ x < 2147483648) (hy : -2147483648 ≤ y ∧ y < 2147483648) : OPM h (f_X11_put h (iI x) (iI y) v) (spPut g x y v).1 (spPut g x y v).2 := by
  unfold f_X11_put spPut
  rw [m_isSheet hx, cal_some]
  by_cases e1 : 0 ≤ x ∧ x ≤ 3
  · obtain ⟨u, rfl⟩ : ∃ u : Nat, x = u := ⟨x.toNat, by omega⟩
    have hu : u < 4 := by omega
    obtain ⟨s1, s2, s3, s4⟩ := hg.2.2.1 u hu
    obtain ⟨c1, c2, c3⟩ := hm.2.2.2.2.2.1 u hu
    rw [decide_eq_true e1, bn_true, if_pos (by decide), if_pos e1, ald_i (by omega) (by omega), Int.toNat_natCast, c1]
    have e : (iI (g.bits u) = 0) = ((g.bits u : Int) = 0) := by rw [iI_zero]; exact iI_eq ⟨by omega, by omega⟩
    by_cases b0 : g.bits u = 0
    · rw [if_neg (by rw [e]; omega), if_pos b0, cal2_id]
      exact c_errs hm hg (e := 2) (by omega)
    · rw [if_pos (by rw [e]; omega), if_neg b0, ald_i (by omega) (by omega), Int.toNat_natCast, c2, iI_sub, m_in hy (by omega) (by omega), cal_some, show decide (0 ≤ y ∧ y ≤ ((g.sheet u).length : Int) - 1) = decide (0 ≤ y ∧ y < (g.sheet u).length) from decide_eq_decide.mpr ⟨fun p => ⟨p.1, by omega⟩, fun p => ⟨p.1, by omega⟩⟩]
      by_cases e2 : 0 ≤ y ∧ y < (g.sheet u).length
      · obtain ⟨k, rfl⟩ : ∃ k : Nat, y = k := ⟨y.toNat, by omega⟩
        have hw : f_X11_narrow h (iI (g.bits u)) v = some (nrw (g.bits u) v) := by
          unfold f_X11_narrow nrw
          have e8 : (iI (g.bits u) = iI 8) = ((g.bits u : Int) = 8) := iI_eq ⟨by omega, by omega⟩
          have e16 : (iI (g.bits u) = iI 16) = ((g.bits u : Int) = 16) := iI_eq ⟨by omega, by omega⟩
          by_cases b8 : g.bits u = 8
          · rw [if_neg (by rw [e8]; omega), if_pos b8]
          · rw [if_pos (by rw [e8]; omega), if_neg b8]
            by_cases b16 : g.bits u = 16
            · rw [if_neg (by rw [e16]; omega), if_pos b16]
            · rw [if_pos (by rw [e16]; omega), if_neg b16]
        rw [decide_eq_true e2, bn_true, if_pos (by decide), if_pos e2, ald_i (by omega) (by omega), Int.toNat_natCast, Int.toNat_natCast, c1, hw, cal_some, iI_mul, iI_add, ast_i (by omega) (by omega), show ((40 : Int) * (u : Int) + (k : Int)).toNat = 40 * u + k by omega]
        refine ⟨_, rfl, hm.shs hg hu ?_ ?_ (fun j hj => ?_) (fun a j q1 q2 q3 q4 => gI_ne (by omega)), fun a j q => ⟨gI_ne (by omega), rfl⟩⟩
        · rw [gI_ne (by omega)]; exact c1
        · rw [gI_ne (by omega), List.length_set]; exact c2
        · rw [List.length_set] at hj
          rw [List.getElem_set]
          by_cases e : k = j
          · rw [if_pos e, ← e, gI_same, nrw_msk (by omega)]
          · rw [if_neg e, gI_ne (by omega)]; exact c3 j hj
      · rw [decide_eq_false e2, bn_false, if_neg (by decide), if_neg e2, cal2_id]
        exact c_errs hm hg (e := 1) (by omega)
  · rw [decide_eq_false e1, bn_false, if_neg (by decide), if_neg e1, cal2_id]
    exact c_errs hm hg (e := 1) (by omega)
theorem GV.put0 {x y : Int} {v : Int32} (hg : GV g) : GV (spPut g x y v).2 := by
  unfold spPut
  by_cases e1 : 0 ≤ x ∧ x ≤ 3
  · rw [if_pos e1]
    obtain ⟨s1, s2, s3, s4⟩ := hg.2.2.1 x.toNat (by omega)
    by_cases b0 : g.bits x.toNat = 0
    · rw [if_pos b0]; exact hg.fail 2
    · rw [if_neg b0]
      by_cases e2 : 0 ≤ y ∧ y < (g.sheet x.toNat).length
      · rw [if_pos e2]
        refine hg.shs ⟨by rw [List.length_set]; exact s1, s2, fun q => absurd q b0, fun w hw => ?_⟩
        rcases List.mem_or_eq_of_mem_set hw with q | q
        · exact s4 w q
        · rw [q]; exact msk_ok (by omega)
      · rw [if_neg e2]; exact hg.fail 1
  · rw [if_neg e1]; exact hg.fail 1
/-! judge -/
def jdF (l : List Int32) (S : Nat → Bool) : Nat → Nat → Nat
  | 0, k => k
  | f + 1, k => if l.getD k 0 = bn (S k) then jdF l S f (k + 1) else k
theorem jdF_le {l : List Int32} {S : Nat → Bool} : ∀ f k, jdF l S f k ≤ k + f
  | 0, k => Nat.le_refl _
  | f + 1, k => by
    unfold jdF
    split
    · have := jdF_le (l := l) (S := S) f (k + 1); omega
    · omega
def spJudge (g : GS) (x : Int) : Int32 × GS := if 0 ≤ x ∧ x ≤ 3 then (if g.bits x.toNat = 0 then (iI (-1000000002), g.fail 2) else ((if jdF (g.sheet x.toNat) g.now.S (min (g.sheet x.toNat).length (g.now.R * g.now.C)) 0 = (g.sheet x.toNat).length ∧ (g.sheet x.toNat).length = g.now.R * g.now.C then iI (-1) else iI (jdF (g.sheet x.toNat) g.now.S (min (g.sheet x.toNat).length (g.now.R * g.now.C)) 0)), g)) else (iI (-1000000001), g.fail 1)
theorem c_judge {x : Int} (hc : CSt h g) (hg : GV g) (hx : -2147483648 ≤ x ∧ x < 2147483648) : OPC h (f_X10_judge h (iI x)) (spJudge g x).1 (spJudge g x).2 := by
  unfold f_X10_judge spJudge
  rw [w_hasSheet hx, cal_some]
  by_cases e1 : 0 ≤ x ∧ x ≤ 3
  · obtain ⟨u, rfl⟩ : ∃ u : Nat, x = u := ⟨x.toNat, by omega⟩
    have hu : u < 4 := by omega
    have h25 := sq_25 hg.1.1.2.1 hg.1.1.2.2.2.1
    obtain ⟨s1, s2, s3, s4⟩ := hg.2.2.1 u hu
    obtain ⟨c1, c2, c3⟩ := hc.2.2.2.2.1 u hu
    rw [decide_eq_true e1, bn_true, if_pos (by decide), if_pos e1, rng_i (by omega) (by omega), Int.toNat_natCast, w_isMissing hc hg hu, cal_some]
    by_cases b0 : g.bits u = 0
    · rw [decide_eq_true b0, bn_true, if_neg (by decide), if_pos b0, cal2_id]
      exact c_fail hc (e := 2) (by omega)
    · rw [decide_eq_false b0, bn_false, if_pos (by decide), if_neg b0, w_squares hc.1.1, cal_some, nm_eq, c2, mnI_i ⟨by omega, by omega⟩]
      generalize hn : (g.sheet u).length = n at *
      generalize hr : g.now.R * g.now.C = r at *
      rw [show min (n : Int) (r : Int) = ((min n r : Nat) : Int) by omega]
      obtain ⟨J, hJ⟩ : ∃ J, J = jdF (g.sheet u) g.now.S (min n r) 0 := ⟨_, rfl⟩
      rw [← hJ]
      obtain ⟨N, hN⟩ : ∃ N : Nat, N = 1000000 := ⟨_, rfl⟩
      rw [← hN]
      refine lo1_t (fun f x1 => ∃ i : Nat, x1 = iI i ∧ i + f = min n r ∧ jdF (g.sheet u) g.now.S f i = J) (fun o => OPC h o (if J = n ∧ n = r then iI (-1) else iI J, g).1 (if J = n ∧ n = r then iI (-1) else iI J, g).2) ?_ N (min n r) _ (by omega) ⟨0, rfl, by omega, hJ.symm⟩
      rintro f x1 ⟨i, rfl, hf, hI⟩ Kc
      unfold f_X10_judge_k7
      have e : (iI (min n r : Nat) ≤ iI i) = (((min n r : Nat) : Int) ≤ i) := iI_le ⟨by omega, by omega⟩
      by_cases hi : i = min n r
      · left
        have hJi : J = i := by rw [← hI, show f = 0 by omega]; rfl
        have en : (iI n = iI r) = ((n : Int) = r) := iI_eq ⟨by omega, by omega⟩
        rw [if_pos (by rw [e]; omega), c2]
        by_cases enr : n = r
        · rw [if_neg (by rw [en]; omega), if_pos (by omega)]
          exact ⟨_, rfl, OPC.same hc⟩
        · rw [if_pos (by rw [en]; omega), if_neg (by omega), ← hi, ← hJi]
          exact ⟨_, rfl, OPC.same hc⟩
      · have hin : i < n := by omega
        have hg1 := c3 i (by omega)
        rw [Nat.zero_add] at hg1
        rw [if_neg (by rw [e]; omega), ald_i (by omega) (by omega), Int.toNat_natCast, hg1, h_slantOf (S := g.now.S) hc.1.1.2.2.2.2.2.1 (by omega), cal_some]
        obtain ⟨f', rfl⟩ : ∃ f', f = f' + 1 := ⟨f - 1, by omega⟩
        unfold jdF at hI
        rw [← List.getElem_eq_getD (h := by omega) 0] at hI
        by_cases em : (g.sheet u)[i] = bn (g.now.S i)
        · right
          rw [if_pos em] at hI
          rw [if_pos em, nm_eq, iI_add]
          exact ⟨f', _, by omega, ⟨i + 1, rfl, by omega, hI⟩, rfl⟩
        · left
          rw [if_neg em] at hI
          rw [if_neg em, if_neg (by omega), ← hI]
          exact ⟨_, rfl, OPC.same hc⟩
  · rw [decide_eq_false e1, bn_false, if_neg (by decide), if_neg e1, cal2_id]
    exact c_fail hc (e := 1) (by omega)
theorem m_judge {x : Int} (hm : MSt h g) (hg : GV g) (hx : -2147483648 ≤ x ∧ x < 2147483648) : OPM h (f_X11_judge h (iI x)) (spJudge g x).1 (spJudge g x).2 := by
  unfold f_X11_judge spJudge
  rw [m_isSheet hx, cal_some]
  by_cases e1 : 0 ≤ x ∧ x ≤ 3
  · obtain ⟨u, rfl⟩ : ∃ u : Nat, x = u := ⟨x.toNat, by omega⟩
    have hu : u < 4 := by omega
    have h25 := sq_25 hg.1.1.2.1 hg.1.1.2.2.2.1
    obtain ⟨s1, s2, s3, s4⟩ := hg.2.2.1 u hu
    obtain ⟨c1, c2, c3⟩ := hm.2.2.2.2.2.1 u hu
    have eb : (iI (g.bits u) = 0) = ((g.bits u : Int) = 0) := by rw [iI_zero]; exact iI_eq ⟨by omega, by omega⟩
    rw [decide_eq_true e1, bn_true, if_pos (by decide), if_pos e1, ald_i (by omega) (by omega), Int.toNat_natCast, c1]
    by_cases b0 : g.bits u = 0
    · rw [if_neg (by rw [eb]; omega), if_pos b0, cal2_id]
      exact c_errs hm hg (e := 2) (by omega)
    · rw [if_pos (by rw [eb]; omega), if_neg b0]
      have hmany := m_many hm.1.1
      obtain ⟨n, hn⟩ : ∃ n, n = (g.sheet u).length := ⟨_, rfl⟩
      obtain ⟨r, hr⟩ : ∃ r, r = g.now.R * g.now.C := ⟨_, rfl⟩
      rw [← hr] at hmany h25 ⊢
      rw [← hn] at c2 s1 ⊢
      obtain ⟨J, hJ⟩ : ∃ J, J = jdF (g.sheet u) g.now.S (min n r) 0 := ⟨_, rfl⟩
      rw [← hJ]
      obtain ⟨N, hN⟩ : ∃ N : Nat, N = 1000000 := ⟨_, rfl⟩
      rw [← hN]
      refine lo1_t (fun f x1 => ∃ i : Nat, x1 = iI i ∧ i + f = min n r ∧ jdF (g.sheet u) g.now.S f i = J) (fun o => OPM h o (if J = n ∧ n = r then iI (-1) else iI J, g).1 (if J = n ∧ n = r then iI (-1) else iI J, g).2) ?_ N (min n r) _ (by omega) ⟨0, rfl, by omega, hJ.symm⟩
      rintro f x1 ⟨i, rfl, hf, hI⟩ Kc
      have en : (iI n ≤ iI i) = ((n : Int) ≤ i) := iI_le ⟨by omega, by omega⟩
      have er : (iI r ≤ iI i) = ((r : Int) ≤ i) := iI_le ⟨by omega, by omega⟩
      have qn : (iI i = iI n) = ((i : Int) = n) := iI_eq ⟨by omega, by omega⟩
      have qr : (iI i = iI r) = ((i : Int) = r) := iI_eq ⟨by omega, by omega⟩
      have k6 : f_X11_judge_k6 h (iI u) (iI i) = some (if i = n ∧ n = r then iI (-1) else iI i, h) := by
        unfold f_X11_judge_k6
        rw [ald_i (by omega) (by omega), Int.toNat_natCast, c2, join_eq, hmany]
        by_cases d1 : i = n
        · rw [if_neg (by rw [qn]; omega), cal_some]
          by_cases d2 : n = r
          · rw [if_neg (by rw [qr]; omega), if_pos ⟨d1, d2⟩]
          · rw [if_pos (by rw [qr]; omega), if_neg (by omega)]
        · rw [if_pos (by rw [qn]; omega), if_neg (by omega)]
      unfold f_X11_judge_k4
      rw [ald_i (by omega) (by omega), Int.toNat_natCast, c2, join_eq, k6]
      by_cases hi : i = min n r
      · left
        have hJi : J = i := by rw [← hI, show f = 0 by omega]; rfl
        by_cases d1 : n ≤ i
        · rw [if_pos (by rw [en]; omega), hJi]
          exact ⟨_, rfl, OPM.same hm⟩
        · rw [if_neg (by rw [en]; omega), hmany, cal_some, if_pos (by rw [er]; omega), hJi]
          exact ⟨_, rfl, OPM.same hm⟩
      · have hin : i < n := by omega
        have hg1 := c3 i (by omega)
        rw [if_neg (by rw [en]; omega), hmany, cal_some, if_neg (by rw [er]; omega), iI_mul, iI_add, ald_i (by omega) (by omega), show ((40 : Int) * (u : Int) + (i : Int)).toNat = 40 * u + i by omega, hg1, m_its2 (by omega), (hm.1.1.2.2 i (by omega)).2.2.1, cal_some]
        obtain ⟨f', rfl⟩ : ∃ f', f = f' + 1 := ⟨f - 1, by omega⟩
        unfold jdF at hI
        rw [← List.getElem_eq_getD (h := by omega) 0] at hI
        have enr : (nrw (g.bits u) (g.sheet u)[i] = bn (g.now.S i)) = ((g.sheet u)[i] = bn (g.now.S i)) := by
          rw [bn_nat]
          exact propext (nrw_small (by omega) (s4 _ (List.getElem_mem _)) (by cases g.now.S i <;> decide))
        by_cases em : (g.sheet u)[i] = bn (g.now.S i)
        · right
          rw [if_pos em] at hI
          rw [if_neg (by rw [enr]; exact fun q => q em), nm_eq, iI_add]
          exact ⟨f', _, by omega, ⟨i + 1, rfl, by omega, hI⟩, rfl⟩
        · left
          rw [if_neg em] at hI
          rw [if_pos (by rw [enr]; exact em), ← hI]
          exact ⟨_, rfl, OPM.same hm⟩
  · rw [decide_eq_false e1, bn_false, if_neg (by decide), if_neg e1, cal2_id]
    exact c_errs hm hg (e := 1) (by omega)
theorem GV.judge {x : Int} (hg : GV g) : GV (spJudge g x).2 := by
  unfold spJudge
  repeat' split
  all_goals first | exact hg | exact hg.fail 1 | exact hg.fail 2
end PUTOP
