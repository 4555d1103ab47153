section MBACK
variable {h h0 : Mem} {R C : Nat} {K M T L : Nat → Nat} {S : Nat → Bool}
theorem k_dim {x : Nat} {β : Type} {P : Int32 → Option β} (hx : x ≤ 9999) : (join P fun K4 => if iI x ≤ 0 then K4 (iI 0) else cal (some (iI x)) fun v15 => K4 (v15 - iI 1)) = P (iI (x - 1 : Nat)) := by
  rw [join_eq, iI_zero, cal_some]
  have e : (iI x ≤ iI 0) = ((x : Int) ≤ 0) := iI_le ⟨by omega, by omega⟩
  by_cases e9 : x = 0
  · rw [if_pos (by rw [e]; omega), e9]; rfl
  · rw [if_neg (by rw [e]; omega), iI_sub, show ((x - 1 : Nat) : Int) = (x : Int) - 1 by omega]
theorem rev_bend {w : Nat} {s : Bool} (hw : w < 4) : (bend ((w + 2) % 4) s + 2) % 4 = bend w s := by
  rcases (show w = 0 ∨ w = 1 ∨ w = 2 ∨ w = 3 by omega) with rfl | rfl | rfl | rfl <;> cases s <;> rfl
theorem m_bk7 {q w : Nat} (hh : RM h 73 R C K M S T L) (hq : q < 25) (hK : K q ≤ 6) (hw : w < 4) :
    f_X11_comesBack_k7 (iI q) (iI ((w + 2) % 4 : Nat)) h = some (sI h 72 9 (iI (if thr (K q) then bend w (S q) else w : Nat))) := by
  unfold f_X11_comesBack_k7
  rw [m_throws hh hq hK, cal_some, join_eq]
  have hlt : (w + 2) % 4 < 4 := Nat.mod_lt _ (by omega)
  cases hth : thr (K q)
  · rw [bn_false, if_pos (by decide)]
    dsimp only
    rw [nz_i (by omega), nm_eq, iI_add, iI_rem (by omega) (by omega), show (((w + 2) % 4 : Nat) + 2 : Int) % 4 = (w : Int) by omega]
    rfl
  · rw [bn_true, if_neg (by decide), m_its2 hq, cal_some, (hh.2.2 q hq).2.2.1, m_thrown hlt, cal_some]
    dsimp only
    have hb := bend_lt (s := S q) hlt
    rw [nz_i (by omega), nm_eq, iI_add, iI_rem (by omega) (by omega), show ((bend ((w + 2) % 4) (S q) : Nat) + 2 : Int) % 4 = ((bend ((w + 2) % 4) (S q) + 2) % 4 : Nat) by omega, rev_bend hw]
    rfl
theorem m_comesBack {q w : Nat} (hh : RM h 73 R C K M S T L) (hq : q < 25) (hK : K q ≤ 6) (hM : M q ≤ 9) (hT : T q < 2 + M q % 3) (hL : L q ≤ 9999) (hw : w < 4) :
    ∃ h2, f_X11_comesBack h (iI q) (iI ((w + 2) % 4 : Nat)) = some (sI h2 72 9 (iI (if thr (K q) then bend w (backS (K q) (S q) (T q)) else w : Nat))) ∧ RM h2 73 R C K M (if thr (K q) then upB S q (backS (K q) (S q) (T q)) else S) (if thr (K q) then upN T q (backT (K q) (M q) (T q)) else T) (upN L q (L q - 1)) ∧ (∀ k, gI h2 72 k = gI h 72 k) ∧ FrM h h2 := by
  unfold f_X11_comesBack
  rw [m_its0 hq, cal_some, m_its4 hq, cal_some, (hh.2.2 q hq).1, (hh.2.2 q hq).2.2.2.2, k_dim hL]
  unfold f_X11_comesBack_k4
  rw [m_puts4 hq, cal_some, join_eq, join_eq]
  have hA := rm_lit (q := q) (v := L q - 1) hh
  generalize hm1 : sI h 73 (10 + 5 * q + 4) (iI (L q - 1 : Nat)) = m1 at hA ⊢
  have gF : ∀ k, gI m1 72 k = gI h 72 k := fun k => by rw [← hm1, gI_ne (by omega)]
  have fF : FrM h m1 := by rw [← hm1]; exact FrM.row (by omega)
  unfold f_X11_comesBack_k14
  by_cases h5 : K q = 5
  · have hthr : thr (K q) = true := by rw [h5]; rfl
    have e1 : ¬ ¬ iI (K q) = iI 5 := fun z => z (by rw [h5]; rfl)
    rw [if_neg e1, if_neg e1, m_its3 hq, cal_some, (hA.2.2 q hq).2.2.2.1, iI_zero, cal_some]
    have e : (iI (T q) ≤ iI 0) = ((T q : Int) ≤ 0) := iI_le ⟨by omega, by omega⟩
    by_cases h0 : T q = 0
    · rw [if_pos (by rw [e]; omega), m_its1 hq, cal_some, (hA.2.2 q hq).2.1, nz_i (by omega), iI_rem (by omega) (by omega), iI_add, show (1 : Int) + (M q : Int) % 3 = ((1 + M q % 3 : Nat) : Int) by omega, m_puts3 hq, cal_some]
      have hB := rm_time (q := q) (v := 1 + M q % 3) hA
      rw [m_flips hB hq, cal_some]
      have hC := rm_slant (q := q) (b := !S q) hB
      rw [m_bk7 hC hq hK hw, upB_same]
      have eS : backS (K q) (S q) (T q) = !S q := by unfold backS; rw [if_neg (show ¬ K q = 1 by omega), if_pos ⟨h5, h0⟩]
      have eT : backT (K q) (M q) (T q) = 1 + M q % 3 := by unfold backT; rw [if_pos h5, if_pos h0]
      rw [eS, eT]
      refine ⟨_, rfl, ?_, fun k => by rw [gI_ne (by omega), gI_ne (by omega)]; exact gF k, fF.tr ((FrM.row (by omega)).tr (FrM.row (by omega)))⟩
      rw [if_pos hthr, if_pos hthr]
      exact hC
    · rw [if_neg (by rw [e]; omega), iI_sub, show (T q : Int) - 1 = ((T q - 1 : Nat) : Int) by omega, m_puts3 hq, cal_some]
      have hB := rm_time (q := q) (v := T q - 1) hA
      rw [m_bk7 hB hq hK hw]
      have eS : backS (K q) (S q) (T q) = S q := by unfold backS; rw [if_neg (show ¬ K q = 1 by omega), if_neg (fun z => h0 z.2)]
      have eT : backT (K q) (M q) (T q) = T q - 1 := by unfold backT; rw [if_pos h5, if_neg h0]
      rw [eS, eT, upB_self]
      refine ⟨_, rfl, ?_, fun k => by rw [gI_ne (by omega)]; exact gF k, fF.tr (FrM.row (by omega))⟩
      rw [ite_self, if_pos hthr]
      exact hB
  · have e1 : ¬ iI (K q) = iI 5 := fun z => h5 (by
      have e : (iI (K q) = iI 5) = ((K q : Int) = 5) := iI_eq ⟨by omega, by omega⟩
      rw [e] at z; omega)
    rw [if_pos e1, if_pos e1]
    have e2 : (iI (K q) = iI 1) = ((K q : Int) = 1) := iI_eq ⟨by omega, by omega⟩
    by_cases h1 : K q = 1
    · have hthr : thr (K q) = true := by rw [h1]; rfl
      rw [if_neg (fun z => z (by rw [e2]; omega)), m_flips hA hq, cal_some]
      have hC := rm_slant (q := q) (b := !S q) hA
      rw [m_bk7 hC hq hK hw, upB_same]
      have eS : backS (K q) (S q) (T q) = !S q := by unfold backS; rw [if_pos h1]
      have eT : backT (K q) (M q) (T q) = T q := by unfold backT; rw [if_neg h5]
      rw [eS, eT, upN_self]
      refine ⟨_, rfl, ?_, fun k => by rw [gI_ne (by omega)]; exact gF k, fF.tr (FrM.row (by omega))⟩
      rw [if_pos hthr, ite_self]
      exact hC
    · rw [if_pos (fun z => h1 (by rw [e2] at z; omega)), m_bk7 hA hq hK hw]
      have eS : backS (K q) (S q) (T q) = S q := by unfold backS; rw [if_neg h1, if_neg (fun z => h5 z.1)]
      have eT : backT (K q) (M q) (T q) = T q := by unfold backT; rw [if_neg h5]
      rw [eS, eT, upB_self, upN_self, ite_self, ite_self]
      exact ⟨_, rfl, hA, gF, fF⟩
end MBACK
