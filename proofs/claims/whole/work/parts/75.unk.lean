section UNKOP
variable {h : Mem} {g : GS} {R C : Nat} {K M T L : Nat → Nat} {S : Nat → Bool}
/-- the squares whose slant isn't known -/
def unkF (K : Nat → Nat) (mask : Int32) : Nat → Nat → List Nat → List Nat
  | 0, _, l => l
  | f + 1, i, l => if 5 ≤ l.length then l else unkF K mask f (i + 1) (if bt mask i = true ∧ thr (K i) = true then l ++ [i] else l)
def unk (s : WH) (mask : Int32) : List Nat := unkF s.K mask (s.R * s.C) 0 []
/-- their slants by the bits of x -/
def stU (x : Nat) : List Nat → Nat → (Nat → Bool) → (Nat → Bool)
  | [], _, S => S
  | q :: U, j, S => stU x U (j + 1) (upB S q (x.testBit j))
def okU (n : Nat) (U : List Nat) : Prop := U.length ≤ 5 ∧ ∀ q, q ∈ U → q < n
theorem stU_VD {x : Nat} : ∀ (U : List Nat) (j : Nat) (S : Nat → Bool), okU (R * C) U → VD R C M S T L → VD R C M (stU x U j S) T L
  | [], _, _, _, hD => hD
  | q :: U, j, S, hU, hD => by
    have hq := hU.2 q List.mem_cons_self
    refine stU_VD U (j + 1) _ ⟨by have := hU.1; rw [List.length_cons] at this; omega, fun p hp => hU.2 p (List.mem_cons_of_mem _ hp)⟩ ⟨hD.1, hD.2.1, fun p hp => ⟨?_, (hD.2.2 p hp).2⟩⟩
    unfold upB
    rw [if_neg (by omega)]; exact (hD.2.2 p hp).1
theorem stU_snoc {x q : Nat} : ∀ (U : List Nat) (j : Nat) (S : Nat → Bool), stU x (U ++ [q]) j S = upB (stU x U j S) q (x.testBit (j + U.length))
  | [], j, S => rfl
  | p :: U, j, S => by
    show stU x (U ++ [q]) (j + 1) _ = upB (stU x U (j + 1) _) q _
    rw [stU_snoc U (j + 1), List.length_cons, show j + 1 + U.length = j + (U.length + 1) by omega]
theorem shl_one : ∀ n : Nat, n < 26 → shlI (iI 1) (iI (n : Int)) = iI ((2 ^ n : Nat) : Int) ∧ (2 : Nat) ^ n < 67108865 := by decide +kernel
theorem w_hasMask {a : Nat} {x : Int} (hh : HC h a R C K M S T L) (hV : VS R C K M) (hx : -2147483648 ≤ x ∧ x < 2147483648) : f_X3_hasMask h a (iI x) = some (bn (decide (0 ≤ x ∧ x < (2 ^ (R * C) : Nat)))) := by
  have h25 := sq_25 hV.2.1 hV.2.2.2.1
  obtain ⟨s1, s2⟩ := shl_one (R * C) (by omega)
  obtain ⟨p, hp⟩ : ∃ p : Nat, p = 2 ^ (R * C) := ⟨_, rfl⟩
  rw [← hp] at s1 s2 ⊢
  unfold f_X3_hasMask
  rw [w_squares hh, cal_some, s1, iI_sub, w_within hx (by omega) (by omega), cal_some, rZbn, show decide (0 ≤ x ∧ x ≤ (p : Int) - 1) = decide (0 ≤ x ∧ x < p) from decide_eq_decide.mpr ⟨fun p => ⟨p.1, by omega⟩, fun p => ⟨p.1, by omega⟩⟩]
theorem m_isMask {x : Int} (hh : RM h 73 R C K M S T L) (hV : VS R C K M) (hx : -2147483648 ≤ x ∧ x < 2147483648) : f_X11_isMask h (iI x) = some (bn (decide (0 ≤ x ∧ x < (2 ^ (R * C) : Nat)))) := by
  have h25 := sq_25 hV.2.1 hV.2.2.2.1
  obtain ⟨s1, s2⟩ := shl_one (R * C) (by omega)
  obtain ⟨p, hp⟩ : ∃ p : Nat, p = 2 ^ (R * C) := ⟨_, rfl⟩
  rw [← hp] at s1 s2 ⊢
  unfold f_X11_isMask
  rw [m_many hh, cal_some, s1, iI_sub, m_in hx (by omega) (by omega), cal_some, rZbn, show decide (0 ≤ x ∧ x ≤ (p : Int) - 1) = decide (0 ≤ x ∧ x < p) from decide_eq_decide.mpr ⟨fun p => ⟨p.1, by omega⟩, fun p => ⟨p.1, by omega⟩⟩]
/-- the class's doubt: base and unknown squares -/
def DBC (h : Mem) (s : WH) (U : List Nat) : Prop := gI h 56 3 = iI U.length ∧ gI h 56 4 = slW s.S ∧ gL h 56 5 = tmW s.T ∧ (∀ j (hj : j < U.length), gI h 62 j = iI U[j])
theorem DBC.cong {h2 : Mem} {s : WH} {U : List Nat} (hd : DBC h s U) (e : ∀ x k, (x = 56 ∧ k < 5) ∨ x = 62 → gI h2 x k = gI h x k) (e2 : gL h2 56 5 = gL h 56 5) : DBC h2 s U :=
  ⟨(e _ _ (by omega)).trans hd.1, (e _ _ (by omega)).trans hd.2.1, e2.trans hd.2.2.1, fun j hj => (e _ _ (by omega)).trans (hd.2.2.2 j hj)⟩
theorem c_suppose {x : Int32} (hc : CSt h g) (hg : GV g) : ∃ h2, f_X1_suppose h 3 x = some h2 ∧ CSt h2 g ∧ FM h h2 ∧ HC h2 57 g.now.R g.now.C g.now.K g.now.M g.now.S g.now.T g.now.L ∧ DBC h2 g.now (unk g.now x) ∧ okU (g.now.R * g.now.C) (unk g.now x) := by
  have hV := hg.1.1
  have h25 := sq_25 hV.2.1 hV.2.2.2.1
  unfold f_X1_suppose
  obtain ⟨m1, p1, p2, p3, p4, p5, p6⟩ := c_trial (a := 57) hc (by omega)
  have s5 : gI m1 3 5 = slW g.now.S := p3.1.1.2.2.2.2.2.1
  have t6 : gL m1 3 6 = tmW g.now.T := p3.1.1.2.2.2.2.2.2
  rw [p1, cal_some, nm_eq, s5, nm_eq, show gL (sI m1 56 4 (slW g.now.S)) 3 6 = tmW g.now.T from t6, nm_eq]
  obtain ⟨X, hX⟩ : ∃ X, X = unk g.now x := ⟨_, rfl⟩
  rw [← hX]
  obtain ⟨N, hN⟩ : ∃ N : Nat, N = 1000000 := ⟨_, rfl⟩
  rw [← hN]
  have c0 : CSt (sI (sL (sI m1 56 4 (slW g.now.S)) 56 5 (tmW g.now.T)) 56 3 (iI 0)) g := p3.keep (fun a k q => by rw [gI_ne (by omega), gI_sL, gI_ne (by omega)]) (by rw [gL_sI, gL_ne (by omega)]; rfl) (by rw [gL_sI, gL_ne (by omega)]; rfl)
  have f0 : FM h (sI (sL (sI m1 56 4 (slW g.now.S)) 56 5 (tmW g.now.T)) 56 3 (iI 0)) := p4.tr fun a k q => ⟨by rw [gI_ne (by omega), gI_sL, gI_ne (by omega)], by rw [gL_sI, gL_ne (by omega)]; rfl⟩
  have H0 : HC (sI (sL (sI m1 56 4 (slW g.now.S)) 56 5 (tmW g.now.T)) 56 3 (iI 0)) 57 g.now.R g.now.C g.now.K g.now.M g.now.S g.now.T g.now.L := hc_far (hc_farL (hc_far p2 (by omega)) (by omega)) (by omega)
  refine lo2_t (fun f x5 m => ∃ (i : Nat) (l : List Nat), x5 = iI i ∧ i + f = g.now.R * g.now.C ∧ unkF g.now.K x f i l = X ∧ okU (g.now.R * g.now.C) l ∧ CSt m g ∧ FM h m ∧ HC m 57 g.now.R g.now.C g.now.K g.now.M g.now.S g.now.T g.now.L ∧ DBC m g.now l) (fun o => ∃ h2, o = some h2 ∧ CSt h2 g ∧ FM h h2 ∧ HC h2 57 g.now.R g.now.C g.now.K g.now.M g.now.S g.now.T g.now.L ∧ DBC h2 g.now X ∧ okU (g.now.R * g.now.C) X) ?_ N (g.now.R * g.now.C) _ _ (by omega) ⟨0, [], rfl, by omega, hX.symm, ⟨by simp, fun q hq => absurd hq List.not_mem_nil⟩, c0, f0, H0, gI_same, by rw [gI_ne (by omega), gI_sL, gI_same], by rw [gL_sI, gL_same], fun j hj => absurd hj (Nat.not_lt_zero j)⟩
  rintro f x5 m ⟨i, l, rfl, hf, hL, hU, hcs, hF, hH, hDB⟩ Kc
  obtain ⟨b1, b2, b3, b4⟩ := id hDB
  have hl5 := hU.1
  unfold f_X1_suppose_k7
  have e1 : (iI (g.now.R * g.now.C : Nat) ≤ iI i) = (((g.now.R * g.now.C : Nat) : Int) ≤ i) := iI_le ⟨by omega, by omega⟩
  have e2 : (iI 5 ≤ iI l.length) = ((5 : Int) ≤ l.length) := iI_le ⟨by omega, by omega⟩
  rw [w_squares (show HC m 3 g.now.R g.now.C g.now.K g.now.M g.now.S g.now.T g.now.L from hcs.1.1), cal_some, b1]
  by_cases hi : i = g.now.R * g.now.C
  · left
    have hs : X = l := by rw [← hL, show f = 0 by omega]; rfl
    rw [if_pos (by rw [e1]; omega), hs]
    exact ⟨_, rfl, m, rfl, hcs, hF, hH, hDB, hU⟩
  · obtain ⟨f', rfl⟩ : ∃ f', f = f' + 1 := ⟨f - 1, by omega⟩
    unfold unkF at hL
    rw [if_neg (by rw [e1]; omega)]
    by_cases h5 : 5 ≤ l.length
    · left
      rw [if_pos h5] at hL
      rw [if_pos (by rw [e2]; omega), ← hL]
      exact ⟨_, rfl, m, rfl, hcs, hF, hH, hDB, hU⟩
    · right
      rw [if_neg h5] at hL
      have eb : (bn (bt x i) = iI 1) = (bt x i = true) := by cases bt x i <;> simp [bn] <;> decide
      rw [if_neg (by rw [e2]; omega), join_eq, b_one (by omega), ald_i (by omega) (by omega), Int.toNat_natCast, show gI m (3 + 1) i = iI (g.now.K i) from hcs.1.1.2.2.1 i (by omega), h_throws (hV.2.2.2.2.1 i), cal_some]
      have skip : ¬ (bt x i = true ∧ thr (g.now.K i) = true) → ∃ f'' a' b', f'' < f' + 1 ∧ (∃ (i : Nat) (l : List Nat), a' = iI i ∧ i + f'' = g.now.R * g.now.C ∧ unkF g.now.K x f'' i l = X ∧ okU (g.now.R * g.now.C) l ∧ CSt b' g ∧ FM h b' ∧ HC b' 57 g.now.R g.now.C g.now.K g.now.M g.now.S g.now.T g.now.L ∧ DBC b' g.now l) ∧ (fun h9 => nm (iI (i : Int) + iI 1) fun x11 => Kc x11 h9) m = Kc a' b' := fun hn => by
        rw [if_neg hn] at hL
        exact ⟨f', iI (i + 1 : Nat), m, Nat.lt_succ_self f', ⟨i + 1, l, rfl, by omega, hL, hU, hcs, hF, hH, hDB⟩, by dsimp only; rw [nm_eq, iI_add]; rfl⟩
      by_cases hb : bt x i = true
      · rw [if_neg (by rw [eb]; exact fun z => z hb)]
        cases ht : thr (g.now.K i)
        · rw [bn_false, if_pos (by decide)]
          exact skip (fun z => by rw [ht] at z; exact absurd z.2 (by decide))
        · rw [if_pos ⟨hb, ht⟩] at hL
          rw [bn_true, if_neg (by decide), ast_i (by omega) (by omega), Int.toNat_natCast, nm_eq, gI_ne (by omega), b1, iI_add]
          refine ⟨f', iI (i + 1 : Nat), sI (sI m 62 l.length (iI i)) 56 3 (iI ((l.length : Int) + 1)), Nat.lt_succ_self f', ⟨i + 1, l ++ [i], rfl, by omega, hL, ⟨by rw [List.length_append]; show l.length + 1 ≤ 5; omega, fun q hq => ?_⟩, hcs.keep (fun a k q => by rw [gI_ne (by omega), gI_ne (by omega)]) rfl rfl, hF.tr fun a k q => ⟨by rw [gI_ne (by omega), gI_ne (by omega)], rfl⟩, hc_far (hc_far hH (by omega)) (by omega), ?_, ?_, b3, fun j hj => ?_⟩, by dsimp only; rw [nm_eq, iI_add]; rfl⟩
          · rcases List.mem_append.mp hq with z | z
            · exact hU.2 q z
            · rw [List.mem_singleton.mp z]; omega
          · rw [gI_same, List.length_append]; rfl
          · rw [gI_ne (by omega), gI_ne (by omega)]; exact b2
          · refine getElem_snoc hj (fun e => gI _ 62 j = iI e) (fun hj2 => ?_) (fun hj2 => ?_)
            · rw [gI_ne (by omega), gI_ne (by omega)]; exact b4 j hj2
            · rw [hj2, gI_ne (by omega), gI_same]
      · rw [if_pos (by rw [eb]; exact hb)]
        exact skip (fun z => hb z.1)
theorem m_findUnk {x : Int32} (hm : MSt h g) (hg : GV g) : ∃ h2, f_X11_findUnknown h x = some h2 ∧ MSt h2 g ∧ FC h h2 ∧ gI h2 72 33 = iI (unk g.now x).length ∧ (∀ j (hj : j < (unk g.now x).length), gI h2 82 j = iI (unk g.now x)[j]) := by
  have hV := hg.1.1
  have h25 := sq_25 hV.2.1 hV.2.2.2.1
  unfold f_X11_findUnknown
  obtain ⟨X, hX⟩ : ∃ X, X = unk g.now x := ⟨_, rfl⟩
  have m0 : MSt (sI h 72 33 (iI 0)) g := hm.keep hg.1 hg.2.1 fun a k q => gI_ne (by omega)
  rw [nm_eq, ← hX]
  obtain ⟨N, hN⟩ : ∃ N : Nat, N = 1000000 := ⟨_, rfl⟩
  rw [← hN]
  refine lo2_t (fun f x2 m => ∃ (i : Nat) (l : List Nat), x2 = iI i ∧ i + f = g.now.R * g.now.C ∧ unkF g.now.K x f i l = X ∧ l.length ≤ 5 ∧ MSt m g ∧ FC h m ∧ gI m 72 33 = iI l.length ∧ (∀ j (hj : j < l.length), gI m 82 j = iI l[j])) (fun o => ∃ h2, o = some h2 ∧ MSt h2 g ∧ FC h h2 ∧ gI h2 72 33 = iI X.length ∧ (∀ j (hj : j < X.length), gI h2 82 j = iI X[j])) ?_ N (g.now.R * g.now.C) _ _ (by omega) ⟨0, [], rfl, by omega, hX.symm, by simp, m0, fun a k q => ⟨gI_ne (by omega), rfl⟩, gI_same, fun j hj => absurd hj (Nat.not_lt_zero j)⟩
  rintro f x2 m ⟨i, l, rfl, hf, hL, hl5, hM, hF, b1, b4⟩ Kc
  unfold f_X11_findUnknown_k4
  have e1 : (iI (g.now.R * g.now.C : Nat) ≤ iI i) = (((g.now.R * g.now.C : Nat) : Int) ≤ i) := iI_le ⟨by omega, by omega⟩
  have e2 : (iI 5 ≤ iI l.length) = ((5 : Int) ≤ l.length) := iI_le ⟨by omega, by omega⟩
  rw [m_many hM.1.1, cal_some, b1]
  by_cases hi : i = g.now.R * g.now.C
  · left
    have hs : X = l := by rw [← hL, show f = 0 by omega]; rfl
    rw [if_pos (by rw [e1]; omega), hs]
    exact ⟨_, rfl, m, rfl, hM, hF, b1, b4⟩
  · obtain ⟨f', rfl⟩ : ∃ f', f = f' + 1 := ⟨f - 1, by omega⟩
    unfold unkF at hL
    rw [if_neg (by rw [e1]; omega)]
    by_cases h5 : 5 ≤ l.length
    · left
      rw [if_pos h5] at hL
      rw [if_pos (by rw [e2]; omega), ← hL]
      exact ⟨_, rfl, m, rfl, hM, hF, b1, b4⟩
    · right
      rw [if_neg h5] at hL
      have eb : (bn (bt x i) = iI 1) = (bt x i = true) := by cases bt x i <;> simp [bn] <;> decide
      rw [if_neg (by rw [e2]; omega), join_eq, b_oneS (by omega), m_throws hM.1.1 (by omega) (hV.2.2.2.2.1 i), cal_some]
      have skip : ¬ (bt x i = true ∧ thr (g.now.K i) = true) → ∃ f'' a' b', f'' < f' + 1 ∧ (∃ (i : Nat) (l : List Nat), a' = iI i ∧ i + f'' = g.now.R * g.now.C ∧ unkF g.now.K x f'' i l = X ∧ l.length ≤ 5 ∧ MSt b' g ∧ FC h b' ∧ gI b' 72 33 = iI l.length ∧ (∀ j (hj : j < l.length), gI b' 82 j = iI l[j])) ∧ (fun h6 => nm (iI (i : Int) + iI 1) fun x8 => Kc x8 h6) m = Kc a' b' := fun hn => by
        rw [if_neg hn] at hL
        exact ⟨f', iI (i + 1 : Nat), m, Nat.lt_succ_self f', ⟨i + 1, l, rfl, by omega, hL, hl5, hM, hF, b1, b4⟩, by dsimp only; rw [nm_eq, iI_add]; rfl⟩
      by_cases hb : bt x i = true
      · rw [if_neg (by rw [eb]; exact fun z => z hb)]
        cases ht : thr (g.now.K i)
        · rw [bn_false, if_pos (by decide)]
          exact skip (fun z => by rw [ht] at z; exact absurd z.2 (by decide))
        · rw [if_pos ⟨hb, ht⟩] at hL
          rw [bn_true, if_neg (by decide), ast_i (by omega) (by omega), Int.toNat_natCast, nm_eq, gI_ne (by omega), b1, iI_add]
          refine ⟨f', iI (i + 1 : Nat), sI (sI m 82 l.length (iI i)) 72 33 (iI ((l.length : Int) + 1)), Nat.lt_succ_self f', ⟨i + 1, l ++ [i], rfl, by omega, hL, by rw [List.length_append]; show l.length + 1 ≤ 5; omega, hM.keep hg.1 hg.2.1 fun a k q => by rw [gI_ne (by omega), gI_ne (by omega)], hF.tr fun a k q => ⟨by rw [gI_ne (by omega), gI_ne (by omega)], rfl⟩, ?_, fun j hj => ?_⟩, by dsimp only; rw [nm_eq, iI_add]; rfl⟩
          · rw [gI_same, List.length_append]; rfl
          · refine getElem_snoc hj (fun e => gI _ 82 j = iI e) (fun hj2 => ?_) (fun hj2 => ?_)
            · rw [gI_ne (by omega), gI_ne (by omega)]; exact b4 j hj2
            · rw [hj2, gI_ne (by omega), gI_same]
      · rw [if_pos (by rw [eb]; exact hb)]
        exact skip (fun z => hb z.1)
theorem bt_x {x j : Nat} (hj : j < 32) : bt (iI x) j = x.testBit j := by rw [b_nat]; simp [hj]
/-- a choice stands: class -/
theorem w_standBy {s : WH} {U : List Nat} {x : Nat} {T' L' : Nat → Nat} {S' : Nat → Bool} (hd : DBC h s U) (hU : okU (s.R * s.C) U) (h25 : s.R * s.C ≤ 25) (hH : HC h 57 R C K M S' T' L') :
    f_X1_standBy h (iI x) = some (sL (sI h 57 5 (slW (stU x U 0 s.S))) 57 6 (tmW s.T)) ∧ HC (sL (sI h 57 5 (slW (stU x U 0 s.S))) 57 6 (tmW s.T)) 57 R C K M (stU x U 0 s.S) s.T L' := by
  obtain ⟨b1, b2, b3, b4⟩ := hd
  have hl5 := hU.1
  obtain ⟨w1, w2⟩ := w_stand (S' := stU x U 0 s.S) (T' := s.T) hH
  refine ⟨?_, w2⟩
  unfold f_X1_standBy
  rw [b2, nm_eq]
  obtain ⟨N, hN⟩ : ∃ N : Nat, N = 1000000 := ⟨_, rfl⟩
  rw [← hN]
  refine lo2_t (fun f x2 x3 => ∃ i : Nat, x3 = iI i ∧ i + f = U.length ∧ x2 = slW (stU x (U.take i) 0 s.S)) (fun o => o = some (sL (sI h 57 5 (slW (stU x U 0 s.S))) 57 6 (tmW s.T))) ?_ N U.length _ _ (by omega) ⟨0, rfl, by omega, rfl⟩
  rintro f x2 x3 ⟨i, rfl, hf, rfl⟩ Kc
  unfold f_X1_standBy_k4
  have e : (iI U.length ≤ iI i) = ((U.length : Int) ≤ i) := iI_le ⟨by omega, by omega⟩
  rw [b1]
  by_cases hi : i = U.length
  · left
    rw [if_pos (by rw [e]; omega), hi, List.take_length, b3, w1, cal_some]
    exact ⟨_, rfl, rfl⟩
  · right
    have hil : i < U.length := by omega
    have hq := hU.2 _ (List.getElem_mem hil)
    rw [if_neg (by rw [e]; omega), ald_i (by omega) (by omega), ald_i (by omega) (by omega), Int.toNat_natCast, b4 i hil, b_one (by omega), bt_x (by omega), sl_set (by omega), nm_eq, nm_eq, iI_add]
    refine ⟨f - 1, _, _, by omega, ⟨i + 1, rfl, by omega, ?_⟩, rfl⟩
    rw [List.take_succ_eq_append_getElem hil, stU_snoc, List.length_take, Nat.zero_add, Nat.min_eq_left (by omega)]
/-- a choice stands: model -/
theorem m_slantsAre {s : WH} {U : List Nat} {x : Nat} (hU : okU (s.R * s.C) U) (h25 : s.R * s.C ≤ 25) (hH : RM h 73 s.R s.C s.K s.M s.S s.T s.L) (b1 : gI h 72 33 = iI U.length) (b4 : ∀ j (hj : j < U.length), gI h 82 j = iI U[j]) :
    ∃ h2, f_X11_slantsAre h (iI x) = some h2 ∧ RM h2 73 s.R s.C s.K s.M (stU x U 0 s.S) s.T s.L ∧ FrM h h2 ∧ (∀ k, gI h2 72 k = gI h 72 k) := by
  have hl5 := hU.1
  unfold f_X11_slantsAre
  obtain ⟨N, hN⟩ : ∃ N : Nat, N = 1000000 := ⟨_, rfl⟩
  rw [← hN]
  refine lo2_t (fun f x1 m => ∃ i : Nat, x1 = iI i ∧ i + f = U.length ∧ RM m 73 s.R s.C s.K s.M (stU x (U.take i) 0 s.S) s.T s.L ∧ FrM h m ∧ (∀ k, gI m 72 k = gI h 72 k)) (fun o => ∃ h2, o = some h2 ∧ RM h2 73 s.R s.C s.K s.M (stU x U 0 s.S) s.T s.L ∧ FrM h h2 ∧ (∀ k, gI h2 72 k = gI h 72 k)) ?_ N U.length _ _ (by omega) ⟨0, rfl, by omega, hH, FrM.rf, fun _ => rfl⟩
  rintro f x1 m ⟨i, rfl, hf, hM, hF, h72⟩ Kc
  unfold f_X11_slantsAre_k3
  have e : (iI U.length ≤ iI i) = ((U.length : Int) ≤ i) := iI_le ⟨by omega, by omega⟩
  rw [h72, b1]
  by_cases hi : i = U.length
  · left
    rw [hi, List.take_length] at hM
    rw [if_pos (by rw [e]; omega)]
    exact ⟨_, rfl, m, rfl, hM, hF, h72⟩
  · right
    have hil : i < U.length := by omega
    have hq := hU.2 _ (List.getElem_mem hil)
    rw [if_neg (by rw [e]; omega), ald_i (by omega) (by omega), Int.toNat_natCast, ((hF.1 82 i (by omega) (by omega)).1).trans (b4 i hil), b_oneS (by omega), bt_x (by omega), m_puts2 (by omega), cal_some, nm_eq, iI_add]
    refine ⟨f - 1, _, _, by omega, ⟨i + 1, rfl, by omega, ?_, hF.tr (FrM.row (by omega)), fun k => (gI_ne (by omega)).trans (h72 k)⟩, rfl⟩
    rw [List.take_succ_eq_append_getElem hil, stU_snoc, List.length_take, Nat.zero_add, Nat.min_eq_left (by omega)]
    exact rm_slant hM
end UNKOP
