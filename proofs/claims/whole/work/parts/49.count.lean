section COUNTOP
theorem iI_ne {a b : Int} (ha : -2147483648 ≤ a ∧ a < 2147483648) (hb : -2147483648 ≤ b ∧ b < 2147483648) (h : a ≠ b) : ¬ iI a = iI b := fun z => h (by rw [iI_eq ⟨ha, hb⟩] at z; exact z)
def cntM (K : Nat → Nat) : Nat → Nat
  | 0 => 0
  | n + 1 => cntM K n + (if thr (K n) then 1 else 0)
def cntL (L : Nat → Nat) : Nat → Nat
  | 0 => 0
  | n + 1 => cntL L n + L n
variable {h : Mem} {g : GS} {a R C : Nat} {K M T L : Nat → Nat} {S : Nat → Bool}
theorem w_mirrors (hh : HC h a R C K M S T L) (hV : VS R C K M) : f_X3_mirrors h a = some (iI (cntM K (R * C))) := by
  have h25 := sq_25 hV.2.1 hV.2.2.2.1
  unfold f_X3_mirrors
  obtain ⟨N, hN⟩ : ∃ N : Nat, N = 1000000 := ⟨_, rfl⟩
  rw [← hN]
  refine lo2_t (fun f x1 x2 => ∃ i : Nat, x2 = iI i ∧ i + f = R * C ∧ x1 = iI (cntM K i)) (fun o => o = some (iI (cntM K (R * C)))) ?_ N (R * C) _ _ (by omega) ⟨0, rfl, by omega, rfl⟩
  rintro f x1 x2 ⟨i, rfl, hf, rfl⟩ Kc
  unfold f_X3_mirrors_k3
  have e : (iI (R * C : Nat) ≤ iI i) = (((R * C : Nat) : Int) ≤ i) := iI_le ⟨by omega, by omega⟩
  rw [w_squares hh, cal_some]
  by_cases hi : i = R * C
  · left
    subst hi
    rw [if_pos (by rw [e]; omega)]
    exact ⟨_, rfl, rfl⟩
  · right
    have hi25 : i < 25 := by omega
    rw [if_neg (by rw [e]; omega), ald_i (by omega) (by omega), Int.toNat_natCast, hh.2.2.1 i hi25, h_throws (hV.2.2.2.2.1 i), cal_some, join_eq]
    refine ⟨f - 1, iI (cntM K (i + 1)), iI (i + 1 : Nat), by omega, ⟨i + 1, rfl, by omega, rfl⟩, ?_⟩
    cases ht : thr (K i)
    · rw [bn_false, if_pos (by decide)]; dsimp only; rw [nm_eq, nm_eq, iI_add, iI_add]
      congr 2
      rw [show cntM K (i + 1) = cntM K i + (if thr (K i) = true then 1 else 0) from rfl, ht]; rfl
    · rw [bn_true, if_neg (by decide)]; dsimp only; rw [nm_eq, nm_eq, iI_add, iI_add]
      congr 2
      rw [show cntM K (i + 1) = cntM K i + (if thr (K i) = true then 1 else 0) from rfl, ht]; rfl
theorem m_mirrors (hh : RM h 73 R C K M S T L) (hV : VS R C K M) : f_X11_mirrors h = some (iI (cntM K (R * C))) := by
  have h25 := sq_25 hV.2.1 hV.2.2.2.1
  unfold f_X11_mirrors
  obtain ⟨N, hN⟩ : ∃ N : Nat, N = 1000000 := ⟨_, rfl⟩
  rw [← hN]
  refine lo2_t (fun f x1 x2 => ∃ i : Nat, x2 = iI i ∧ i + f = R * C ∧ x1 = iI (cntM K i)) (fun o => o = some (iI (cntM K (R * C)))) ?_ N (R * C) _ _ (by omega) ⟨0, rfl, by omega, rfl⟩
  rintro f x1 x2 ⟨i, rfl, hf, rfl⟩ Kc
  unfold f_X11_mirrors_k3
  have e : (iI (R * C : Nat) ≤ iI i) = (((R * C : Nat) : Int) ≤ i) := iI_le ⟨by omega, by omega⟩
  rw [m_many hh, cal_some]
  by_cases hi : i = R * C
  · left
    subst hi
    rw [if_pos (by rw [e]; omega)]
    exact ⟨_, rfl, rfl⟩
  · right
    have hi25 : i < 25 := by omega
    rw [if_neg (by rw [e]; omega), m_throws hh hi25 (hV.2.2.2.2.1 i), cal_some, join_eq]
    refine ⟨f - 1, iI (cntM K (i + 1)), iI (i + 1 : Nat), by omega, ⟨i + 1, rfl, by omega, rfl⟩, ?_⟩
    cases ht : thr (K i)
    · rw [bn_false, if_pos (by decide)]; dsimp only; rw [nm_eq, nm_eq, iI_add, iI_add]
      congr 2
      rw [show cntM K (i + 1) = cntM K i + (if thr (K i) = true then 1 else 0) from rfl, ht]; rfl
    · rw [bn_true, if_neg (by decide)]; dsimp only; rw [nm_eq, nm_eq, iI_add, iI_add]
      congr 2
      rw [show cntM K (i + 1) = cntM K i + (if thr (K i) = true then 1 else 0) from rfl, ht]; rfl
theorem w_litT (hh : HC h a R C K M S T L) (hV : VS R C K M) : f_X3_litTogether h a = some (iI (cntL L (R * C))) := by
  have h25 := sq_25 hV.2.1 hV.2.2.2.1
  unfold f_X3_litTogether
  obtain ⟨N, hN⟩ : ∃ N : Nat, N = 1000000 := ⟨_, rfl⟩
  rw [← hN]
  refine lo2_t (fun f x1 x2 => ∃ i : Nat, x2 = iI i ∧ i + f = R * C ∧ x1 = iI (cntL L i)) (fun o => o = some (iI (cntL L (R * C)))) ?_ N (R * C) _ _ (by omega) ⟨0, rfl, by omega, rfl⟩
  rintro f x1 x2 ⟨i, rfl, hf, rfl⟩ Kc
  unfold f_X3_litTogether_k3
  have e : (iI (R * C : Nat) ≤ iI i) = (((R * C : Nat) : Int) ≤ i) := iI_le ⟨by omega, by omega⟩
  rw [w_squares hh, cal_some]
  by_cases hi : i = R * C
  · left
    subst hi
    rw [if_pos (by rw [e]; omega)]
    exact ⟨_, rfl, rfl⟩
  · right
    have hi25 : i < 25 := by omega
    rw [if_neg (by rw [e]; omega), ald_i (by omega) (by omega), Int.toNat_natCast, hh.2.2.2.2.1 i hi25, nm_eq, nm_eq, iI_add, iI_add]
    exact ⟨f - 1, iI (cntL L (i + 1)), iI (i + 1 : Nat), by omega, ⟨i + 1, rfl, by omega, rfl⟩, rfl⟩
theorem m_litAll (hh : RM h 73 R C K M S T L) (hV : VS R C K M) : f_X11_litAll h = some (iI (cntL L (R * C))) := by
  have h25 := sq_25 hV.2.1 hV.2.2.2.1
  unfold f_X11_litAll
  obtain ⟨N, hN⟩ : ∃ N : Nat, N = 1000000 := ⟨_, rfl⟩
  rw [← hN]
  refine lo2_t (fun f x1 x2 => ∃ i : Nat, x2 = iI i ∧ i + f = R * C ∧ x1 = iI (cntL L i)) (fun o => o = some (iI (cntL L (R * C)))) ?_ N (R * C) _ _ (by omega) ⟨0, rfl, by omega, rfl⟩
  rintro f x1 x2 ⟨i, rfl, hf, rfl⟩ Kc
  unfold f_X11_litAll_k3
  have e : (iI (R * C : Nat) ≤ iI i) = (((R * C : Nat) : Int) ≤ i) := iI_le ⟨by omega, by omega⟩
  rw [m_many hh, cal_some]
  by_cases hi : i = R * C
  · left
    subst hi
    rw [if_pos (by rw [e]; omega)]
    exact ⟨_, rfl, rfl⟩
  · right
    have hi25 : i < 25 := by omega
    rw [if_neg (by rw [e]; omega), m_its4 hi25, (hh.2.2 i hi25).2.2.2.2, cal_some, nm_eq, nm_eq, iI_add, iI_add]
    exact ⟨f - 1, iI (cntL L (i + 1)), iI (i + 1 : Nat), by omega, ⟨i + 1, rfl, by omega, rfl⟩, rfl⟩
theorem slN_tail {n : Nat} (hn : n ≤ 25) (hS : ∀ q, n ≤ q → S q = false) : slN S n = slW S := by
  apply b_ext
  intro i hi
  rw [b_slN _ _ (by omega) i hi, b_slN _ _ (by omega) i hi]
  by_cases h1 : i < n
  · simp [h1, Nat.lt_of_lt_of_le h1 hn]
  · rw [hS i (by omega)]; simp
theorem tmN_tail {n : Nat} (hn : n ≤ 25) (hT4 : ∀ q, T q < 4) (hT : ∀ q, n ≤ q → T q = 0) : tmN T n = tmW T := by
  apply l_ext
  intro i hi
  rw [l_tmN hT4 _ (by omega) i hi, l_tmN hT4 _ (by omega) i hi]
  by_cases h1 : i / 2 < n
  · simp [h1, Nat.lt_of_lt_of_le h1 hn]
  · rw [hT (i / 2) (by omega)]; simp
theorem m_slantBits (hh : RM h 73 R C K M S T L) (hV : VS R C K M) (hD : VD R C M S T L) : f_X11_slantBits h = some (slW S) := by
  have h25 := sq_25 hV.2.1 hV.2.2.2.1
  rw [← slN_tail h25 fun q hq => (hD.2.2 q hq).1]
  unfold f_X11_slantBits
  obtain ⟨N, hN⟩ : ∃ N : Nat, N = 1000000 := ⟨_, rfl⟩
  rw [← hN]
  refine lo2_t (fun f x1 x2 => ∃ i : Nat, x2 = iI i ∧ i + f = R * C ∧ x1 = slN S i) (fun o => o = some (slN S (R * C))) ?_ N (R * C) _ _ (by omega) ⟨0, rfl, by omega, rfl⟩
  rintro f x1 x2 ⟨i, rfl, hf, rfl⟩ Kc
  unfold f_X11_slantBits_k3
  have e : (iI (R * C : Nat) ≤ iI i) = (((R * C : Nat) : Int) ≤ i) := iI_le ⟨by omega, by omega⟩
  rw [m_many hh, cal_some]
  by_cases hi : i = R * C
  · left
    subst hi
    rw [if_pos (by rw [e]; omega)]
    exact ⟨_, rfl, rfl⟩
  · right
    have hi25 : i < 25 := by omega
    rw [if_neg (by rw [e]; omega), m_its2 hi25, (hh.2.2 i hi25).2.2.1, cal_some, nm_eq, nm_eq, iI_add]
    exact ⟨f - 1, slN S (i + 1), iI (i + 1 : Nat), by omega, ⟨i + 1, rfl, by omega, rfl⟩, rfl⟩
theorem m_timeBits (hh : RM h 73 R C K M S T L) (hV : VS R C K M) (hD : VD R C M S T L) : f_X11_timeBits h = some (tmW T) := by
  have h25 := sq_25 hV.2.1 hV.2.2.2.1
  rw [← tmN_tail h25 (fun q => by have := hD.1 q; omega) fun q hq => (hD.2.2 q hq).2]
  unfold f_X11_timeBits
  obtain ⟨N, hN⟩ : ∃ N : Nat, N = 1000000 := ⟨_, rfl⟩
  rw [← hN]
  refine lo2_t (fun f x1 x2 => ∃ i : Nat, x2 = iI i ∧ i + f = R * C ∧ x1 = tmN T i) (fun o => o = some (tmN T (R * C))) ?_ N (R * C) _ _ (by omega) ⟨0, rfl, by omega, rfl⟩
  rintro f x1 x2 ⟨i, rfl, hf, rfl⟩ Kc
  unfold f_X11_timeBits_k3
  have e : (iI (R * C : Nat) ≤ iI i) = (((R * C : Nat) : Int) ≤ i) := iI_le ⟨by omega, by omega⟩
  rw [m_many hh, cal_some]
  by_cases hi : i = R * C
  · left
    subst hi
    rw [if_pos (by rw [e]; omega)]
    exact ⟨_, rfl, rfl⟩
  · right
    have hi25 : i < 25 := by omega
    rw [if_neg (by rw [e]; omega), m_its3 hi25, (hh.2.2 i hi25).2.2.2.1, cal_some, nm_eq, nm_eq, iI_add, iI_mul]
    exact ⟨f - 1, tmN T (i + 1), iI (i + 1 : Nat), by omega, ⟨i + 1, rfl, by omega, rfl⟩, rfl⟩
theorem c_slants (hc : CSt h g) : f_X10_slants h = some (slW g.now.S) := by
  unfold f_X10_slants
  rw [show gI h 3 5 = slW g.now.S from hc.1.1.2.2.2.2.2.1]
theorem m_slants (hm : MSt h g) (hg : GV g) : f_X11_slants h = some (slW g.now.S) := by
  unfold f_X11_slants
  rw [m_slantBits hm.1.1 hg.1.1 hg.1.2.1, cal_some]
def spCount (g : GS) (z : Int) : Int32 × GS :=
  if z = 0 then (iI g.now.R, g) else if z = 1 then (iI g.now.C, g) else if z = 2 then (iI (2 * (g.now.R + g.now.C) : Nat), g) else if z = 3 then (iI (cntM g.now.K (g.now.R * g.now.C)), g) else if z = 4 then (iI (cntL g.now.L (g.now.R * g.now.C)), g) else if z = 5 then (iI g.now.tak, g) else if z = 6 then (iI g.now.day, g) else if z = 7 then (iI g.now.tape.length, g) else if z = 8 then (iI g.now.waits.length, g) else if z = 9 then (iI g.trace.length, g) else if z = 10 then (g.now.z, g) else (iI (-1000000001), g.fail 1)
theorem c_count {z : Int} (hc : CSt h g) (hg : GV g) (hz : -2147483648 ≤ z ∧ z < 2147483648) : OPC h (f_X10_count h (iI z)) (spCount g z).1 (spCount g z).2 := by
  have hw := hc.1
  unfold f_X10_count spCount
  by_cases e : z = 0
  · subst e; rw [if_pos rfl, if_pos rfl, hw.1.1]; exact OPC.same hc
  rw [if_neg (iI_ne hz (by omega) e), if_neg e]; clear e
  by_cases e : z = 1
  · subst e; rw [if_pos rfl, if_pos rfl, hw.1.2.1]; exact OPC.same hc
  rw [if_neg (iI_ne hz (by omega) e), if_neg e]; clear e
  by_cases e : z = 2
  · subst e; rw [if_pos rfl, if_pos rfl, w_windows hw.1, cal_some]; exact OPC.same hc
  rw [if_neg (iI_ne hz (by omega) e), if_neg e]; clear e
  by_cases e : z = 3
  · subst e; rw [if_pos rfl, if_pos rfl, w_mirrors hw.1 hg.1.1, cal_some]; exact OPC.same hc
  rw [if_neg (iI_ne hz (by omega) e), if_neg e]; clear e
  by_cases e : z = 4
  · subst e; rw [if_pos rfl, if_pos rfl, w_litT hw.1 hg.1.1, cal_some]; exact OPC.same hc
  rw [if_neg (iI_ne hz (by omega) e), if_neg e]; clear e
  obtain ⟨-, w4, -, w6, -, w7, w8, w9, -⟩ := hw
  by_cases e : z = 5
  · subst e; rw [if_pos rfl, if_pos rfl, w7]; exact OPC.same hc
  rw [if_neg (iI_ne hz (by omega) e), if_neg e]; clear e
  by_cases e : z = 6
  · subst e; rw [if_pos rfl, if_pos rfl, w8]; exact OPC.same hc
  rw [if_neg (iI_ne hz (by omega) e), if_neg e]; clear e
  by_cases e : z = 7
  · subst e; rw [if_pos rfl, if_pos rfl, w4]; exact OPC.same hc
  rw [if_neg (iI_ne hz (by omega) e), if_neg e]; clear e
  by_cases e : z = 8
  · subst e; rw [if_pos rfl, if_pos rfl, w6]; exact OPC.same hc
  rw [if_neg (iI_ne hz (by omega) e), if_neg e]; clear e
  by_cases e : z = 9
  · subst e; rw [if_pos rfl, if_pos rfl, hc.2.2.2.2.2.1]; exact OPC.same hc
  rw [if_neg (iI_ne hz (by omega) e), if_neg e]; clear e
  by_cases e : z = 10
  · subst e; rw [if_pos rfl, if_pos rfl, w9]; exact OPC.same hc
  rw [if_neg (iI_ne hz (by omega) e), if_neg e, cal2_id]
  exact c_fail hc (e := 1) (by omega)
theorem m_count {z : Int} (hm : MSt h g) (hg : GV g) (hz : -2147483648 ≤ z ∧ z < 2147483648) : OPM h (f_X11_count h (iI z)) (spCount g z).1 (spCount g z).2 := by
  have hw := hm.1
  unfold f_X11_count spCount
  by_cases e : z = 0
  · subst e; rw [if_pos rfl, if_pos rfl, ald_i (by omega) (by omega), show gI h 73 (0 : Int).toNat = _ from hw.1.1]; exact OPM.same hm
  rw [if_neg (iI_ne hz (by omega) e), if_neg e]; clear e
  by_cases e : z = 1
  · subst e; rw [if_pos rfl, if_pos rfl, ald_i (by omega) (by omega), show gI h 73 (1 : Int).toNat = _ from hw.1.2.1]; exact OPM.same hm
  rw [if_neg (iI_ne hz (by omega) e), if_neg e]; clear e
  by_cases e : z = 2
  · subst e; rw [if_pos rfl, if_pos rfl, m_windows hw.1, cal_some]; exact OPM.same hm
  rw [if_neg (iI_ne hz (by omega) e), if_neg e]; clear e
  by_cases e : z = 3
  · subst e; rw [if_pos rfl, if_pos rfl, m_mirrors hw.1 hg.1.1, cal_some]; exact OPM.same hm
  rw [if_neg (iI_ne hz (by omega) e), if_neg e]; clear e
  by_cases e : z = 4
  · subst e; rw [if_pos rfl, if_pos rfl, m_litAll hw.1 hg.1.1, cal_some]; exact OPM.same hm
  rw [if_neg (iI_ne hz (by omega) e), if_neg e]; clear e
  obtain ⟨-, w2, w3, w4, w5, -, w6, -⟩ := hw
  by_cases e : z = 5
  · subst e; rw [if_pos rfl, if_pos rfl, ald_i (by omega) (by omega), show gI h 73 (2 : Int).toNat = _ from w2]; exact OPM.same hm
  rw [if_neg (iI_ne hz (by omega) e), if_neg e]; clear e
  by_cases e : z = 6
  · subst e; rw [if_pos rfl, if_pos rfl, ald_i (by omega) (by omega), show gI h 73 (3 : Int).toNat = _ from w3]; exact OPM.same hm
  rw [if_neg (iI_ne hz (by omega) e), if_neg e]; clear e
  by_cases e : z = 7
  · subst e; rw [if_pos rfl, if_pos rfl, ald_i (by omega) (by omega), show gI h 73 (5 : Int).toNat = _ from w5]; exact OPM.same hm
  rw [if_neg (iI_ne hz (by omega) e), if_neg e]; clear e
  by_cases e : z = 8
  · subst e; rw [if_pos rfl, if_pos rfl, ald_i (by omega) (by omega), show gI h 73 (6 : Int).toNat = _ from w6]; exact OPM.same hm
  rw [if_neg (iI_ne hz (by omega) e), if_neg e]; clear e
  by_cases e : z = 9
  · subst e; rw [if_pos rfl, if_pos rfl, hm.2.2.2.2.2.2.1]; exact OPM.same hm
  rw [if_neg (iI_ne hz (by omega) e), if_neg e]; clear e
  by_cases e : z = 10
  · subst e; rw [if_pos rfl, if_pos rfl, ald_i (by omega) (by omega), show gI h 73 (4 : Int).toNat = _ from w4]; exact OPM.same hm
  rw [if_neg (iI_ne hz (by omega) e), if_neg e, cal2_id]
  exact c_errs hm hg (e := 1) (by omega)
theorem GV.count {z : Int} (hg : GV g) : GV (spCount g z).2 := by
  unfold spCount
  repeat' split
  all_goals first | exact hg | exact hg.fail 1
end COUNTOP
