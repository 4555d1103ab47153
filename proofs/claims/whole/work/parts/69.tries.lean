section TRIES
variable {h : Mem} {g : GS}
theorem lg_cmp0 {x y : Int64} : (lg_cmp x y = 0) = (x = y) := by
  unfold lg_cmp
  by_cases e : x = y
  · subst e
    rw [if_neg (show ¬ x > x from Int64.lt_irrefl), if_pos rfl]
    simp
  · by_cases g : x > y
    · rw [if_pos g]
      exact propext ⟨fun q => absurd q (by decide), fun q => absurd q e⟩
    · rw [if_neg g, if_neg e]
      exact propext ⟨fun q => absurd q (by decide), fun q => absurd q e⟩
/-- the same standing -/
def smS (n : Nat) (S : Nat → Bool) (T : Nat → Nat) (S' : Nat → Bool) (T' : Nat → Nat) : Bool := decide (∀ q, q < n → S q = S' q ∧ T q = T' q)
theorem smS_w {R C : Nat} {M M' T T' L L' : Nat → Nat} {S S' : Nat → Bool} (hD : VD R C M S T L) (hD' : VD R C M' S' T' L') (h25 : R * C ≤ 25) : smS (R * C) S T S' T' = decide (slW S = slW S' ∧ tmW T = tmW T') := by
  unfold smS
  apply decide_eq_decide.mpr
  have t4 : ∀ q, T q < 4 := fun q => by have := hD.1 q; omega
  have t4' : ∀ q, T' q < 4 := fun q => by have := hD'.1 q; omega
  refine ⟨fun hq => ⟨sl_congr fun q _ => ?_, tm_congr t4 t4' fun q _ => ?_⟩, fun hq q h => ⟨sl_inj hq.1 (by omega), tm_inj t4 t4' hq.2 (by omega)⟩⟩
  · by_cases e : q < R * C
    · exact (hq q e).1
    · rw [(hD.2.2 q (by omega)).1, (hD'.2.2 q (by omega)).1]
  · by_cases e : q < R * C
    · exact (hq q e).2
    · rw [(hD.2.2 q (by omega)).2, (hD'.2.2 q (by omega)).2]
theorem w_standsAs {a b R C R' C' : Nat} {K M K' M' T T' L L' : Nat → Nat} {S S' : Nat → Bool} (hh : HC h a R C K M S T L) (hh' : HC h b R' C' K' M' S' T' L') (hD : VD R C M S T L) (hD' : VD R C M' S' T' L') (h25 : R * C ≤ 25) : f_X3_standsAs h a b = some (bn (smS (R * C) S T S' T')) := by
  rw [smS_w hD hD' h25]
  unfold f_X3_standsAs
  rw [hh.2.2.2.2.2.1, hh'.2.2.2.2.2.1, hh.2.2.2.2.2.2, hh'.2.2.2.2.2.2, join_eq]
  by_cases e1 : slW S = slW S'
  · rw [if_neg (fun z => z e1)]
    by_cases e2 : tmW T = tmW T'
    · rw [if_neg (fun z => z (by rw [lg_cmp0]; exact e2)), rZ1, decide_eq_true ⟨e1, e2⟩]; rfl
    · rw [if_pos (by rw [lg_cmp0]; exact e2), rZ0, decide_eq_false (fun z => e2 z.2)]; rfl
  · rw [if_pos e1, rZ0, decide_eq_false (fun z => e1 z.1)]; rfl
theorem m_standsAs {r R C R' C' : Nat} {K M K' M' T T' L L' : Nat → Nat} {S S' : Nat → Bool} (hh : RM h 73 R C K M S T L) (hh' : RM h r R' C' K' M' S' T' L') (hD : VD R C M S T L) (hD' : VD R C M' S' T' L') (h25 : R * C ≤ 25) : f_X11_standsAs h r 305 = some (bn (smS (R * C) S T S' T')) := by
  unfold f_X11_standsAs
  obtain ⟨N, hN⟩ : ∃ N : Nat, N = 1000000 := ⟨_, rfl⟩
  rw [← hN]
  refine lo2_t (fun f x1 x2 => ∃ i : Nat, x2 = iI i ∧ i + f = R * C ∧ x1 = bn (smS i S T S' T')) (fun o => o = some (bn (smS (R * C) S T S' T'))) ?_ N (R * C) _ _ (by omega) ⟨0, rfl, by omega, by rw [show smS 0 S T S' T' = true from decide_eq_true (fun q hq => absurd hq (Nat.not_lt_zero q))]; rfl⟩
  rintro f x1 x2 ⟨i, rfl, hf, rfl⟩ Kc
  unfold f_X11_standsAs_k3
  have e : (iI (R * C : Nat) ≤ iI i) = (((R * C : Nat) : Int) ≤ i) := iI_le ⟨by omega, by omega⟩
  rw [m_many hh, cal_some]
  by_cases hi : i = R * C
  · left
    subst hi
    rw [if_pos (by rw [e]; omega), rZbn]
    exact ⟨_, rfl, rfl⟩
  · right
    have hi25 : i < 25 := by omega
    obtain ⟨-, -, a3, a4, -⟩ := hh.2.2 i hi25
    obtain ⟨-, -, b3, b4, -⟩ := hh'.2.2 i hi25
    have t1 := hD.1 i
    have t2 := hD'.1 i
    rw [if_neg (by rw [e]; omega), iI_mul, iI_add, nm_eq, join_eq, join_eq]
    have sm : smS (i + 1) S T S' T' = (smS i S T S' T' && decide (S i = S' i ∧ T i = T' i)) := by
      unfold smS
      rw [← Bool.decide_and]
      apply decide_eq_decide.mpr
      exact ⟨fun z => ⟨fun q hq => z q (by omega), z i (by omega)⟩, fun z q hq => by
        by_cases e : q = i
        · rw [e]; exact z.2
        · exact z.1 q (by omega)⟩
    have go : ∀ b : Bool, b = smS (i + 1) S T S' T' → ∃ f' a' b', f' < f ∧ (∃ i : Nat, b' = iI i ∧ i + f' = R * C ∧ a' = bn (smS i S T S' T')) ∧ (fun x6 => nm (iI i + iI 1) fun x8 => Kc x6 x8) (bn b) = Kc a' b' := fun b hb => by
      refine ⟨f - 1, bn (smS (i + 1) S T S' T'), iI (i + 1 : Nat), by omega, ⟨i + 1, rfl, by omega, rfl⟩, ?_⟩
      dsimp only
      rw [nm_eq, iI_add, hb]; rfl
    have eb : (bn (S i) = bn (S' i)) = (S i = S' i) := by cases S i <;> cases S' i <;> simp [bn] <;> decide
    have et : (iI (T i) = iI (T' i)) = ((T i : Int) = T' i) := iI_eq ⟨by omega, by omega⟩
    cases hs : smS i S T S' T'
    · rw [bn_false, if_pos (by decide)]
      exact go false (by rw [sm, hs, Bool.false_and])
    · rw [bn_true, if_neg (by decide), show iI (10 + 5 * (i : Int)) + iI 2 = iI (10 + 5 * (i : Int) + 2) from iI_add _ _, ald_i (by omega) (by omega), ald_i (by omega) (by omega), show ((10 : Int) + 5 * (i : Int) + 2).toNat = 10 + 5 * i + 2 by omega, a3, b3, show iI (10 + 5 * (i : Int)) + iI 3 = iI (10 + 5 * (i : Int) + 3) from iI_add _ _, ald_i (by omega) (by omega), ald_i (by omega) (by omega), show ((10 : Int) + 5 * (i : Int) + 3).toNat = 10 + 5 * i + 3 by omega, a4, b4]
      by_cases e1 : S i = S' i
      · rw [if_neg (by rw [eb]; exact fun z => z e1)]
        by_cases e2 : T i = T' i
        · rw [if_neg (by rw [et]; omega)]
          exact go true (by rw [sm, hs, decide_eq_true ⟨e1, e2⟩]; rfl)
        · rw [if_pos (by rw [et]; omega)]
          exact go false (by rw [sm, hs, decide_eq_false (fun z => e2 z.2)]; rfl)
      · rw [if_pos (by rw [eb]; exact e1)]
        exact go false (by rw [sm, hs, decide_eq_false (fun z => e1 z.1)]; rfl)
theorem w_standAs {a b : Nat} {R C : Nat} {K M T T' L L' : Nat → Nat} {S S' : Nat → Bool} {R' C' : Nat} {K' M' : Nat → Nat} (hh : HC h a R C K M S T L) (hh' : HC h b R' C' K' M' S' T' L') : f_X3_standAs h a b = some (sL (sI h a 5 (slW S')) a 6 (tmW T')) ∧ HC (sL (sI h a 5 (slW S')) a 6 (tmW T')) a R C K M S' T' L := by
  refine ⟨?_, ?_⟩
  · unfold f_X3_standAs f_X3_stand
    rw [hh'.2.2.2.2.2.1, hh'.2.2.2.2.2.2, nm_eq, nm_eq, cal_some]
  · obtain ⟨a1, a2, a3, a4, a5, a6, a7⟩ := hh
    exact ⟨(gI_ne (by omega)).trans a1, (gI_ne (by omega)).trans a2, fun p hp => (gI_ne (by omega)).trans (a3 p hp), fun p hp => (gI_ne (by omega)).trans (a4 p hp), fun p hp => (gI_ne (by omega)).trans (a5 p hp), gI_same, gL_same⟩
theorem w_stand {a : Nat} {R C : Nat} {K M T T' L : Nat → Nat} {S S' : Nat → Bool} (hh : HC h a R C K M S T L) : f_X3_stand h a (slW S') (tmW T') = some (sL (sI h a 5 (slW S')) a 6 (tmW T')) ∧ HC (sL (sI h a 5 (slW S')) a 6 (tmW T')) a R C K M S' T' L := by
  refine ⟨?_, ?_⟩
  · unfold f_X3_stand
    rw [nm_eq, nm_eq]
  · obtain ⟨a1, a2, a3, a4, a5, a6, a7⟩ := hh
    exact ⟨(gI_ne (by omega)).trans a1, (gI_ne (by omega)).trans a2, fun p hp => (gI_ne (by omega)).trans (a3 p hp), fun p hp => (gI_ne (by omega)).trans (a4 p hp), fun p hp => (gI_ne (by omega)).trans (a5 p hp), gI_same, gL_same⟩
theorem CSt.standT {a : Nat} {x : Int32} {y : Int64} (hc : CSt h g) (ha : a = 30 ∨ a = 40 ∨ a = 51 ∨ a = 57) : CSt (sL (sI h a 5 x) a 6 y) g ∧ FM h (sL (sI h a 5 x) a 6 y) :=
  ⟨hc.keep (fun b k q => gI_ne (by omega)) (gL_ne (by omega)) (gL_ne (by omega)), fun b k q => ⟨gI_ne (by omega), gL_ne (by omega)⟩⟩
theorem VD.of {R C : Nat} {M T T' L L' : Nat → Nat} {S S' : Nat → Bool} (hD : VD R C M S T L) (hD' : VD R C M S' T' L') : VD R C M S T L' := ⟨hD.1, hD'.2.1, hD.2.2⟩
theorem m_untry2 (hm : MTr h g) (hg : GV g) (h12 : gI h 72 12 = iI (-1)) (h13 : gI h 72 13 = iI (-1)) :
    ∃ h2, f_X11_moveAll h 75 305 73 305 = some h2 ∧ MSt h2 g ∧ MTr h2 g ∧ (∀ x k, x ≠ 73 → gI h2 x k = gI h x k) ∧ (∀ x k, gL h2 x k = gL h x k) ∧ (∀ k, k < 305 → gI h2 73 k = gI h 75 k) := by
  obtain ⟨h2, e1, e2, e3, e4⟩ := m_copy (q1 := 75) (q2 := 73) (n1 := 305) (n2 := 305) (h := h) (by omega) (by omega) (by omega)
  have hX : MX h2 g := hm.2.keep hg.2.1 fun x k q => e2 _ _ (by omega)
  exact ⟨h2, e1, hX.st (hm.1.copy hg.1 e4) ((e2 _ _ (by omega)).trans h12) ((e2 _ _ (by omega)).trans h13), ⟨hm.1.copy hg.1 fun k hk => e2 _ _ (by omega), hX⟩, fun x k hx => e2 _ _ (Or.inl hx), e3, e4⟩
theorem ry_b {R C w : Nat} {K M : Nat → Nat} {S : Nat → Bool} {T : Nat → Nat} (hV : VS R C K M) (hw : w < 2 * (R + C)) : (ry R C K M w S T).1 ≤ 100 := by
  have h := (ry_out (S := S) (T := T) hV hw).1
  have v1 := hV.2.1
  have v2 := hV.2.2.2.1
  omega
/-! check -/
def chkF (s : WH) (l : List Int32) : Nat → Nat → Nat
  | 0, _ => 0
  | f + 1, i => if i < 2 * (s.R + s.C) ∧ iI (ry s.R s.C s.K s.M i s.S s.T).1 = l.getD i 0 then chkF s l f (i + 1) else 1 + i
def spCheck (g : GS) : Int32 × GS := (iI (chkF g.now g.now.waits g.now.waits.length 0), g.put (g.now.wai []))
theorem c_check (hc : CSt h g) (hg : GV g) : OPC h (f_X10_check h) (spCheck g).1 (spCheck g).2 := by
  have hV := hg.1.1
  have hD := hg.1.2.1
  have h20 : g.now.waits.length ≤ 20 := hg.1.2.2.2.2.2.1
  unfold f_X10_check spCheck
  have c0 : CSt (sI h 2 6 (iI 0)) (g.put (g.now.wai [])) := hc.now (hc.1.wai (fun x k _ _ q1 q2 => gI_ne (by omega)) rfl gI_same fun k hk => absurd hk (Nat.not_lt_zero k)) (fun x k q => gI_ne (by omega)) rfl
  rw [hc.1.2.2.2.1, nm_eq, nm_eq]
  obtain ⟨m1, p1, p2, p3, p4, p5, p6⟩ := c_trial (a := 30) c0 (by omega)
  rw [p1, cal_some]
  have f1 : FM h m1 := fun x k q => ⟨(p4 x k q).1.trans (gI_ne (by omega)), (p4 x k q).2⟩
  have w14 : ∀ k, gI m1 14 k = gI h 14 k := fun k => (p5 _ _ (by omega)).trans (gI_ne (by omega))
  obtain ⟨X, hX⟩ : ∃ X, X = chkF g.now g.now.waits g.now.waits.length 0 := ⟨_, rfl⟩
  rw [← hX]
  obtain ⟨N, hN⟩ : ∃ N : Nat, N = 1000000 := ⟨_, rfl⟩
  rw [← hN]
  refine lo2_t (fun f x4 m => ∃ (i : Nat) (S : Nat → Bool) (T L : Nat → Nat), x4 = iI i ∧ i + f = g.now.waits.length ∧ chkF g.now g.now.waits f i = X ∧ HC m 30 g.now.R g.now.C g.now.K g.now.M S T L ∧ VD g.now.R g.now.C g.now.M S T L ∧ CSt m (g.put (g.now.wai [])) ∧ FM h m ∧ (∀ k, gI m 14 k = gI h 14 k)) (fun o => OPC h o (iI X) (g.put (g.now.wai []))) ?_ N g.now.waits.length _ _ (by omega) ⟨0, g.now.S, g.now.T, g.now.L, rfl, by omega, hX.symm, p2, hD, p3, f1, w14⟩
  rintro f x4 m ⟨i, S, T, L, rfl, hf, hL, hH, hDD, hcs, hF, h14⟩ Kc
  unfold f_X10_check_k6
  have e : (iI g.now.waits.length ≤ iI i) = ((g.now.waits.length : Int) ≤ i) := iI_le ⟨by omega, by omega⟩
  have e20 : (Int32.ofNat 20 ≤ iI i) = ((20 : Int) ≤ i) := by rw [iI_nat]; exact iI_le ⟨by omega, by omega⟩
  by_cases hi : i = g.now.waits.length
  · left
    have hs : X = 0 := by rw [← hL, show f = 0 by omega]; rfl
    rw [if_pos (by rw [e]; omega), hs]
    exact ⟨_, rfl, m, rfl, hcs, hF⟩
  · obtain ⟨f', rfl⟩ : ∃ f', f = f' + 1 := ⟨f - 1, by omega⟩
    unfold chkF at hL
    obtain ⟨s1, s2⟩ := w_standAs hH (show HC m 3 g.now.R g.now.C g.now.K g.now.M g.now.S g.now.T g.now.L from hcs.1.1)
    obtain ⟨c2, f2⟩ := hcs.standT (a := 30) (x := slW g.now.S) (y := tmW g.now.T) (by omega)
    rw [if_neg (by rw [e]; omega), if_neg (by rw [e20]; omega), s1, cal_some, w_hasWindow (h := sL (sI m 30 5 (slW g.now.S)) 30 6 (tmW g.now.T)) (a := 3) (show HC _ 3 g.now.R g.now.C g.now.K g.now.M g.now.S g.now.T g.now.L from c2.1.1) hV (z := (i : Int)) (by omega), cal_some, join_eq]
    by_cases hw : i < 2 * (g.now.R + g.now.C)
    · rw [decide_eq_true (by omega), bn_true, if_neg (by decide)]
      obtain ⟨m3, r1, r2⟩ := w_ry (b := 29) hV (by omega) s2 (hD.of hDD) (win := i) hw
      obtain ⟨c3, f3⟩ := c2.ry r2 (by omega)
      obtain ⟨⟨L', hH', hD'⟩, -, -, -, -, fr⟩ := r2
      have h14' : ∀ k, gI m3 14 k = gI h 14 k := fun k => (fr 14 k (by omega) (by omega) (by omega)).1.trans ((gI_ne (h := m) (a := 30) (k := 5) (v := slW g.now.S) (by omega)).trans (h14 k))
      have hv : gI m3 14 i = g.now.waits.getD i 0 := by
        rw [h14']
        have := hc.1.2.2.2.2.1 i (by omega)
        rw [Nat.zero_add] at this
        rw [← List.getElem_eq_getD (h := by omega) 0]
        exact this
      rw [r1, cal2_some, ald_i (by omega) (by omega), Int.toNat_natCast, hv]
      by_cases ev : iI (ry g.now.R g.now.C g.now.K g.now.M i g.now.S g.now.T).1 = g.now.waits.getD i 0
      · right
        rw [if_pos ⟨hw, ev⟩] at hL
        rw [if_pos ev, nm_eq, iI_add]
        exact ⟨f', _, _, Nat.lt_succ_self f', ⟨i + 1, _, _, L', rfl, by omega, hL, hH', hD', c3, (hF.tr f2).tr f3, h14'⟩, rfl⟩
      · left
        rw [if_neg (fun z => ev z.2)] at hL
        rw [if_neg ev, iI_add, ← hL]
        exact ⟨_, rfl, m3, rfl, c3, (hF.tr f2).tr f3⟩
    · left
      rw [if_neg (fun z => hw z.1)] at hL
      rw [decide_eq_false (by omega), bn_false, if_pos (by decide), iI_add, ← hL]
      exact ⟨_, rfl, _, rfl, c2, hF.tr f2⟩
theorem m_check (hm : MSt h g) (hg : GV g) : OPM h (f_X11_check h) (spCheck g).1 (spCheck g).2 := by
  have hV := hg.1.1
  have hD := hg.1.2.1
  have h20 : g.now.waits.length ≤ 20 := hg.1.2.2.2.2.2.1
  have v1 := hV.2.1
  have v2 := hV.2.2.2.1
  have h6 : gI h 73 6 = iI g.now.waits.length := hm.1.2.2.2.2.2.2.1
  have hg0 : GV (g.put (g.now.wai [])) := hg.wai (Nat.zero_le _)
  have m0 : MSt (sI h 73 6 (iI 0)) (g.put (g.now.wai [])) := hm.now hg (hm.1.wai hg.1 (fun k _ q1 q2 => gI_ne (by omega)) gI_same fun k hk => absurd hk (Nat.not_lt_zero k)) (fun x k q => gI_ne (by omega))
  unfold f_X11_check spCheck
  rw [ald_i (by omega) (by omega), show (6 : Int).toNat = 6 from rfl, h6, ast_i (by omega) (by omega), show (6 : Int).toNat = 6 from rfl]
  obtain ⟨m1, e1, e2, e3, e4⟩ := m_copy (q1 := 73) (q2 := 75) (n1 := 305) (n2 := 305) (h := sI h 73 6 (iI 0)) (by omega) (by omega) (by omega)
  have p2 : MSt m1 (g.put (g.now.wai [])) := m0.now hg0 (s := g.now.wai []) (m0.1.copy hg0.1 fun k hk => e2 _ _ (by omega)) (fun x k q => e2 _ _ (by omega))
  have p3 : MTr m1 (g.put (g.now.wai [])) := ⟨m0.1.copy hg0.1 e4, p2.mx⟩
  have w75 : ∀ k, k < g.now.waits.length → gI m1 75 (185 + k) = g.now.waits.getD k 0 := fun k hk => by
    rw [e4 _ (by omega), gI_ne (by omega), ← List.getElem_eq_getD (h := hk) 0]
    exact hm.1.2.2.2.2.2.2.2.1 k hk
  have w73 : ∀ k, k < g.now.waits.length → gI m1 73 (185 + k) = g.now.waits.getD k 0 := fun k hk => by
    rw [← w75 k hk, e4 _ (by omega), e2 _ _ (by omega)]
  have f1 : FC h m1 := fun x k q => ⟨(e2 _ _ (by omega)).trans (gI_ne (by omega)), e3 _ _⟩
  rw [e1, cal_some]
  obtain ⟨X, hX⟩ : ∃ X, X = chkF g.now g.now.waits g.now.waits.length 0 := ⟨_, rfl⟩
  rw [← hX]
  obtain ⟨N, hN⟩ : ∃ N : Nat, N = 1000000 := ⟨_, rfl⟩
  rw [← hN]
  refine lo3_t (fun f x4 x5 m => (∃ i : Nat, x4 = iI i ∧ MSt m (g.put (g.now.wai [])) ∧ MTr m (g.put (g.now.wai [])) ∧ FC h m ∧ (∀ k, k < g.now.waits.length → gI m 75 (185 + k) = g.now.waits.getD k 0) ∧ (∀ k, k < g.now.waits.length → gI m 73 (185 + k) = g.now.waits.getD k 0) ∧ ((x5 = iI 1 ∧ 1 ≤ f ∧ i + f = g.now.waits.length + 1 ∧ chkF g.now g.now.waits (f - 1) i = X) ∨ (x5 = iI 0 ∧ f = 0 ∧ i < g.now.waits.length ∧ X = 1 + i)))) (fun o => OPM h o (iI X) (g.put (g.now.wai []))) ?_ N (g.now.waits.length + 1) _ _ _ (by omega) ⟨0, rfl, p2, p3, f1, w75, w73, Or.inl ⟨rfl, by omega, by omega, hX.symm⟩⟩
  rintro f x4 x5 m ⟨i, rfl, hM, hT, hF, h75, h73, hmode⟩ Kc
  unfold f_X11_check_k7
  have hi21 : i ≤ g.now.waits.length + 1 := by rcases hmode with ⟨-, -, q, -⟩ | ⟨-, -, q, -⟩ <;> omega
  have e : (iI g.now.waits.length ≤ iI i) = ((g.now.waits.length : Int) ≤ i) := iI_le ⟨by omega, by omega⟩
  have en : (iI i = iI g.now.waits.length) = ((i : Int) = g.now.waits.length) := iI_eq ⟨by omega, by omega⟩
  rw [join_eq]
  rcases hmode with ⟨rfl, hf1, hf, hL⟩ | ⟨rfl, hf, hin, hXi⟩
  · by_cases hi : g.now.waits.length ≤ i
    · left
      have hX0 : i = g.now.waits.length ∧ X = 0 := by
        exact ⟨by omega, by rw [← hL, show f - 1 = 0 by omega]; rfl⟩
      rw [if_pos (by rw [e]; omega), if_neg (by rw [en]; omega), hX0.2]
      exact ⟨_, rfl, m, rfl, hM, hF⟩
    · obtain ⟨f', rfl⟩ : ∃ f', f = f' + 1 + 1 := ⟨f - 2, by omega⟩
      have hL' : chkF g.now g.now.waits (f' + 1) i = X := hL
      unfold chkF at hL'
      right
      rw [if_neg (by rw [e]; omega), if_neg (by decide), m_isWindow hM.1.1 hV (z := (i : Int)) (by omega), cal_some, join_eq, join_eq]
      have fin : ∀ (mm : Mem) (b : Bool), MTr mm (g.put (g.now.wai [])) → gI mm 72 12 = iI (-1) → gI mm 72 13 = iI (-1) → FC h mm → (∀ k, k < g.now.waits.length → gI mm 75 (185 + k) = g.now.waits.getD k 0) → (b = true → chkF g.now g.now.waits f' (i + 1) = X) → (b = false → X = 1 + i) → ∃ f'' a' b' c', f'' < f' + 1 + 1 ∧ (∃ i : Nat, a' = iI i ∧ MSt c' (g.put (g.now.wai [])) ∧ MTr c' (g.put (g.now.wai [])) ∧ FC h c' ∧ (∀ k, k < g.now.waits.length → gI c' 75 (185 + k) = g.now.waits.getD k 0) ∧ (∀ k, k < g.now.waits.length → gI c' 73 (185 + k) = g.now.waits.getD k 0) ∧ ((b' = iI 1 ∧ 1 ≤ f'' ∧ i + f'' = g.now.waits.length + 1 ∧ chkF g.now g.now.waits (f'' - 1) i = X) ∨ (b' = iI 0 ∧ f'' = 0 ∧ i < g.now.waits.length ∧ X = 1 + i))) ∧ f_X11_check_k12 (iI i) Kc (bn b) mm = Kc a' b' c' := fun mm b hmt h12 h13 hfc hw75 ht hfl => by
        obtain ⟨m3, s1, s2, s3, s4, s5, s6⟩ := m_untry2 hmt hg0 h12 h13
        have hfc3 : FC h m3 := hfc.tr fun x k q => ⟨s4 x k (by omega), s5 x k⟩
        have h75' : ∀ k, k < g.now.waits.length → gI m3 75 (185 + k) = g.now.waits.getD k 0 := fun k hk => (s4 _ _ (by omega)).trans (hw75 k hk)
        have h73' : ∀ k, k < g.now.waits.length → gI m3 73 (185 + k) = g.now.waits.getD k 0 := fun k hk => (s6 _ (by omega)).trans (hw75 k hk)
        unfold f_X11_check_k12
        rw [s1, cal_some, join_eq]
        cases b
        · rw [bn_false, if_pos (by decide)]
          dsimp only
          rw [iI_add, nm_eq, show (i : Int) + 0 = (i : Int) by omega]
          exact ⟨0, _, _, _, by omega, ⟨i, rfl, s2, s3, hfc3, h75', h73', Or.inr ⟨rfl, rfl, by omega, hfl rfl⟩⟩, rfl⟩
        · rw [bn_true, if_neg (by decide)]
          dsimp only
          rw [iI_add, nm_eq]
          exact ⟨f' + 1, _, _, _, by omega, ⟨i + 1, rfl, s2, s3, hfc3, h75', h73', Or.inl ⟨rfl, by omega, by omega, ht rfl⟩⟩, rfl⟩
      by_cases hw : i < 2 * (g.now.R + g.now.C)
      · rw [show decide (0 ≤ (i : Int) ∧ (i : Int) < (2 * ((g.put (g.now.wai [])).now.R + (g.put (g.now.wai [])).now.C) : Nat)) = true from decide_eq_true ⟨by omega, by show (i : Int) < (2 * (g.now.R + g.now.C) : Nat); omega⟩, bn_true, if_neg (by decide)]
        obtain ⟨m2, r1, ⟨⟨L, hH, hDD⟩, r4, r6, r3, r5⟩⟩ := m_ry (wd := -1) hV (show RM m 73 g.now.R g.now.C g.now.K g.now.M g.now.S g.now.T g.now.L from hM.1.1) hD hM.w12 (by omega) (win := i) hw
        have hv : gI m2 73 (185 + i) = g.now.waits.getD i 0 := (r5.2.2 _ (by omega)).trans (h73 i (by omega))
        have k12 : gI m2 72 12 = iI (-1) := (r5.2.1 12 (by omega) (by omega) (by omega) (by omega) (by omega) (by omega) (by omega)).trans hM.w12
        have k13 : gI m2 72 13 = iI (-1) := (r5.2.1 13 (by omega) (by omega) (by omega) (by omega) (by omega) (by omega) (by omega)).trans hM.w13
        have k75 : ∀ k, k < g.now.waits.length → gI m2 75 (185 + k) = g.now.waits.getD k 0 := fun k hk => ((r5.1 75 _ (by omega) (by omega)).1).trans (h75 k hk)
        rw [r1, cal2_some, iI_add, ald_i (by omega) (by omega), show ((185 : Int) + (i : Int)).toNat = 185 + i by omega, hv]
        by_cases ev : iI (ry g.now.R g.now.C g.now.K g.now.M i g.now.S g.now.T).1 = g.now.waits.getD i 0
        · rw [if_neg (fun z => z ev)]
          rw [if_pos ⟨hw, ev⟩] at hL'
          exact fin m2 true (hT.fr hg0 r5) k12 k13 (hF.tr r5.fc) k75 (fun _ => hL') (fun q => absurd q (by decide))
        · rw [if_pos ev]
          rw [if_neg (fun z => ev z.2)] at hL'
          exact fin m2 false (hT.fr hg0 r5) k12 k13 (hF.tr r5.fc) k75 (fun q => absurd q (by decide)) (fun _ => hL'.symm)
      · rw [show decide (0 ≤ (i : Int) ∧ (i : Int) < (2 * ((g.put (g.now.wai [])).now.R + (g.put (g.now.wai [])).now.C) : Nat)) = false from decide_eq_false (fun z => hw (by have := z.2; exact Int.ofNat_lt.mp this)), bn_false, if_pos (by decide)]
        rw [if_neg (fun z => hw z.1)] at hL'
        exact fin m false hT hM.w12 hM.w13 hF h75 (fun q => absurd q (by decide)) (fun _ => hL'.symm)
  · left
    rw [if_neg (by rw [e]; omega), if_pos (by decide), if_pos (by rw [en]; omega), iI_add, hXi]
    exact ⟨_, rfl, m, rfl, hM, hF⟩
theorem GV.check (hg : GV g) : GV (spCheck g).2 := hg.wai (Nat.zero_le _)
end TRIES
