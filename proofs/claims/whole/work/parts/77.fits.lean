section FITSOP
variable {h : Mem} {g : GS}
/-- letters of a sheet: windows and outs -/
def ltF (W : Nat) (l : List Int32) : Nat → Nat → Bool
  | 0, _ => true
  | f + 1, i => if l.length ≤ i + 1 then true else ((winO W (l.getD i 0)).isSome && ((winO W (l.getD (i + 1) 0)).isSome || decide (l.getD (i + 1) 0 = iI 100))) && ltF W l f (i + 2)
/-- did the rays come out so -/
def csF (s : WH) (l : List Int32) : Nat → Nat → (Nat → Bool) → (Nat → Nat) → Bool × (Nat → Bool) × (Nat → Nat)
  | 0, _, S, T => (true, S, T)
  | f + 1, i, S, T => if l.length ≤ i + 1 then (true, S, T) else if iI (ry s.R s.C s.K s.M ((winO (2 * (s.R + s.C)) (l.getD i 0)).getD 0) S T).1 = l.getD (i + 1) 0 then csF s l f (i + 2) (ry s.R s.C s.K s.M ((winO (2 * (s.R + s.C)) (l.getD i 0)).getD 0) S T).2.1 (ry s.R s.C s.K s.M ((winO (2 * (s.R + s.C)) (l.getD i 0)).getD 0) S T).2.2.1 else (false, (ry s.R s.C s.K s.M ((winO (2 * (s.R + s.C)) (l.getD i 0)).getD 0) S T).2.1, (ry s.R s.C s.K s.M ((winO (2 * (s.R + s.C)) (l.getD i 0)).getD 0) S T).2.2.1)
theorem c_canRead {u : Nat} (hc : CSt h g) (hg : GV g) (hu : u < 4) : f_X1_canRead h (64 + 2 * u) 3 = some (bn (decide (g.bits u ≠ 0) && ltF (2 * (g.now.R + g.now.C)) (g.sheet u) 20 0)) := by
  obtain ⟨s1, s2, s3, s4⟩ := hg.2.2.1 u hu
  obtain ⟨c1, c2, c3⟩ := hc.2.2.2.2.1 u hu
  unfold f_X1_canRead
  obtain ⟨X, hX⟩ : ∃ X, X = ltF (2 * (g.now.R + g.now.C)) (g.sheet u) 20 0 := ⟨_, rfl⟩
  rw [← hX]
  obtain ⟨N, hN⟩ : ∃ N : Nat, N = 1000000 := ⟨_, rfl⟩
  rw [← hN]
  refine lo1_t (fun f x1 => ∃ i : Nat, x1 = iI i ∧ (g.sheet u).length ≤ i + 2 * f ∧ i ≤ 41 ∧ ltF (2 * (g.now.R + g.now.C)) (g.sheet u) f i = X) (fun o => o = some (bn (decide (g.bits u ≠ 0) && X))) ?_ N 20 _ (by omega) ⟨0, rfl, by omega, by omega, hX.symm⟩
  rintro f x1 ⟨i, rfl, hf, hi41, hL⟩ Kc
  unfold f_X1_canRead_k2
  have e : (iI (g.sheet u).length ≤ iI ((i : Int) + 1)) = (((g.sheet u).length : Int) ≤ (i : Int) + 1) := iI_le ⟨by omega, by omega⟩
  rw [c2, iI_add, w_isMissing hc hg hu]
  by_cases hend : (g.sheet u).length ≤ i + 1
  · left
    have ht : ltF (2 * (g.now.R + g.now.C)) (g.sheet u) f i = true := by
      cases f with
      | zero => rfl
      | succ f => unfold ltF; rw [if_pos hend]
    rw [if_pos (by rw [e]; omega), cal_some, ← hL, ht, Bool.and_true]
    by_cases b0 : g.bits u = 0
    · rw [decide_eq_true b0, bn_true, if_pos (by decide), rZ0, decide_eq_false (fun z => z b0)]; exact ⟨_, rfl, rfl⟩
    · rw [decide_eq_false b0, bn_false, if_neg (by decide), rZ1, decide_eq_true b0]; exact ⟨_, rfl, rfl⟩
  · obtain ⟨f', rfl⟩ : ∃ f', f = f' + 1 := ⟨f - 1, by omega⟩
    have b0 : g.bits u ≠ 0 := fun z => by have := s3 z; rw [this] at hend; simp at hend
    unfold ltF at hL
    rw [if_neg hend] at hL
    have hv : ∀ k, k < (g.sheet u).length → gI h (64 + 2 * u + 1) k = (g.sheet u).getD k 0 := fun k hk => by
      have := c3 k hk
      rw [Nat.zero_add] at this
      rw [this, ← List.getElem_eq_getD (h := hk) 0]
    rw [if_neg (by rw [e]; omega), ald_i (by omega) (by omega), show ((i : Int) + 1).toNat = i + 1 by omega, hv _ (by omega), w_hasWin hc.1.1 hg.1.1, cal_some, join_eq, join_eq]
    have k7 : ∀ b : Bool, f_X1_canRead_k7 h (64 + 2 * u) (iI i) 3 Kc (bn b) = (if (winO (2 * (g.now.R + g.now.C)) ((g.sheet u).getD i 0)).isSome && b then Kc (iI (i + 2 : Nat)) else some (iI 0)) := fun b => by
      unfold f_X1_canRead_k7
      rw [ald_i (by omega) (by omega), Int.toNat_natCast, hv _ (by omega), w_hasWin hc.1.1 hg.1.1, cal_some]
      cases (winO (2 * (g.now.R + g.now.C)) ((g.sheet u).getD i 0)).isSome
      · rw [bn_false, if_pos (by decide), rZ0]; rfl
      · rw [bn_true, if_neg (by decide)]
        cases b
        · rw [bn_false, if_neg (by decide), rZ0]; rfl
        · rw [bn_true, if_pos (by decide), nm_eq, iI_add]; rfl
    have k7' : (if ¬ bn (winO (2 * (g.now.R + g.now.C)) ((g.sheet u).getD (i + 1) 0)).isSome = 0 then f_X1_canRead_k7 h (64 + 2 * u) (iI i) 3 Kc (iI 1) else if ¬ (g.sheet u).getD (i + 1) 0 = iI 100 then f_X1_canRead_k7 h (64 + 2 * u) (iI i) 3 Kc (iI 0) else f_X1_canRead_k7 h (64 + 2 * u) (iI i) 3 Kc (iI 1)) = f_X1_canRead_k7 h (64 + 2 * u) (iI i) 3 Kc (bn ((winO (2 * (g.now.R + g.now.C)) ((g.sheet u).getD (i + 1) 0)).isSome || decide ((g.sheet u).getD (i + 1) 0 = iI 100))) := by
      cases (winO (2 * (g.now.R + g.now.C)) ((g.sheet u).getD (i + 1) 0)).isSome
      · rw [bn_false, if_neg (by decide)]
        by_cases q : (g.sheet u).getD (i + 1) 0 = iI 100
        · rw [if_neg (fun z => z q), decide_eq_true q]; rfl
        · rw [if_pos q, decide_eq_false q]; rfl
      · rw [bn_true, if_pos (by decide)]; rfl
    rw [k7', k7]
    cases hb : (winO (2 * (g.now.R + g.now.C)) ((g.sheet u).getD i 0)).isSome && ((winO (2 * (g.now.R + g.now.C)) ((g.sheet u).getD (i + 1) 0)).isSome || decide ((g.sheet u).getD (i + 1) 0 = iI 100))
    · left
      rw [hb, Bool.false_and] at hL
      rw [if_neg (by decide), ← hL, Bool.and_false]
      exact ⟨_, rfl, rfl⟩
    · right
      rw [hb, Bool.true_and] at hL
      rw [if_pos rfl]
      exact ⟨f', _, Nat.lt_succ_self f', ⟨i + 2, rfl, by omega, by omega, hL⟩, rfl⟩
theorem m_isOutT {x : Int32} (hm : RM h 73 g.now.R g.now.C g.now.K g.now.M g.now.S g.now.T g.now.L) (hV : VS g.now.R g.now.C g.now.K g.now.M) : f_X11_isOutThere h x = some (bn ((winO (2 * (g.now.R + g.now.C)) x).isSome || decide (x = iI 100))) := by
  unfold f_X11_isOutThere
  rw [m_isWin hm hV, cal_some, join_eq]
  cases (winO (2 * (g.now.R + g.now.C)) x).isSome
  · rw [bn_false, if_neg (by decide)]
    by_cases q : x = iI 100
    · rw [if_neg (fun z => z q), rZ1, decide_eq_true q]; rfl
    · rw [if_pos q, rZ0, decide_eq_false q]; rfl
  · rw [bn_true, if_pos (by decide), rZ1]; rfl
theorem m_areL {u : Nat} (hm : MSt h g) (hg : GV g) (hu : u < 4) : f_X11_areLetters h (iI u) = some (bn (decide (g.bits u ≠ 0) && ltF (2 * (g.now.R + g.now.C)) (g.sheet u) 20 0)) := by
  obtain ⟨s1, s2, s3, s4⟩ := hg.2.2.1 u hu
  obtain ⟨c1, c2, c3⟩ := hm.2.2.2.2.2.1 u hu
  have v1 := hg.1.1.2.1
  have v2 := hg.1.1.2.2.2.1
  unfold f_X11_areLetters
  have eb : (iI (g.bits u) = 0) = ((g.bits u : Int) = 0) := by rw [iI_zero]; exact iI_eq ⟨by omega, by omega⟩
  rw [ald_i (by omega) (by omega), Int.toNat_natCast, c1, join_eq]
  have start : (if iI (g.bits u) = 0 then (fun x2 => lo2 (f_X11_areLetters_k6 h (iI u)) 1000000 x2 (iI 0)) (iI 0) else (fun x2 => lo2 (f_X11_areLetters_k6 h (iI u)) 1000000 x2 (iI 0)) (iI 1)) = lo2 (f_X11_areLetters_k6 h (iI u)) 1000000 (bn (decide (g.bits u ≠ 0))) (iI 0) := by
    by_cases b0 : g.bits u = 0
    · rw [if_pos (by rw [eb]; omega), decide_eq_false (fun z => z b0)]; rfl
    · rw [if_neg (by rw [eb]; omega), decide_eq_true b0]; rfl
  rw [start]
  obtain ⟨N, hN⟩ : ∃ N : Nat, N = 1000000 := ⟨_, rfl⟩
  rw [← hN]
  obtain ⟨X, hX⟩ : ∃ X, X = (decide (g.bits u ≠ 0) && ltF (2 * (g.now.R + g.now.C)) (g.sheet u) 20 0) := ⟨_, rfl⟩
  rw [← hX]
  refine lo2_t (fun f x4 x5 => ∃ (i : Nat) (b : Bool), x4 = bn b ∧ x5 = iI i ∧ (g.sheet u).length ≤ i + 2 * f + 2 ∧ i ≤ 44 ∧ (b = true → (g.sheet u).length ≤ i + 2 * f ∧ X = ltF (2 * (g.now.R + g.now.C)) (g.sheet u) f i ∧ g.bits u ≠ 0) ∧ (b = false → X = false)) (fun o => o = some (bn X)) ?_ N 20 _ _ (by omega) ⟨0, decide (g.bits u ≠ 0), rfl, rfl, by omega, by omega, fun q => ⟨by omega, by rw [hX, q, Bool.true_and], of_decide_eq_true q⟩, fun q => by rw [hX, q, Bool.false_and]⟩
  rintro f x4 x5 ⟨i, b, rfl, rfl, hf, hi44, ht, hff⟩ Kc
  unfold f_X11_areLetters_k6
  have e : (iI (g.sheet u).length ≤ iI ((i : Int) + 1)) = (((g.sheet u).length : Int) ≤ (i : Int) + 1) := iI_le ⟨by omega, by omega⟩
  rw [ald_i (by omega) (by omega), Int.toNat_natCast, c2, iI_add]
  cases b
  · left
    rw [hff rfl]
    refine ⟨_, ?_, rfl⟩
    by_cases q : (g.sheet u).length ≤ i + 1
    · rw [if_pos (by rw [e]; omega), bn_false, rZ0]
    · rw [if_neg (by rw [e]; omega), bn_false, if_pos (by decide), rZ0]
  · obtain ⟨hf1, hXl, b0⟩ := ht rfl
    by_cases hend : (g.sheet u).length ≤ i + 1
    · left
      have ht : ltF (2 * (g.now.R + g.now.C)) (g.sheet u) f i = true := by
        cases f with
        | zero => rfl
        | succ f => unfold ltF; rw [if_pos hend]
      rw [if_pos (by rw [e]; omega), bn_true, rZ1, hXl, ht]
      exact ⟨_, rfl, rfl⟩
    · right
      obtain ⟨f', rfl⟩ : ∃ f', f = f' + 1 := ⟨f - 1, by omega⟩
      unfold ltF at hXl
      rw [if_neg hend] at hXl
      have hil : i < (g.sheet u).length := by omega
      have hil1 : i + 1 < (g.sheet u).length := by omega
      rw [if_neg (by rw [e]; omega), bn_true, if_neg (by decide), iI_mul, iI_add, ald_i (by omega) (by omega), show ((40 : Int) * (u : Int) + (i : Int)).toNat = 40 * u + i by omega, c3 i hil, m_isWin hm.1.1 hg.1.1, winO_nrw (by omega) (s4 _ (List.getElem_mem _)) (by omega), List.getElem_eq_getD (h := hil) 0, cal_some, join_eq, join_eq, show iI (40 * (u : Int) + (i : Int)) + iI 1 = iI (40 * (u : Int) + (i : Int) + 1) from iI_add _ _, ald_i (by omega) (by omega), show ((40 : Int) * (u : Int) + (i : Int) + 1).toNat = 40 * u + (i + 1) by omega, c3 (i + 1) hil1, m_isOutT hm.1.1 hg.1.1, winO_nrw (by omega) (s4 _ (List.getElem_mem _)) (by omega), show decide (nrw (g.bits u) (g.sheet u)[i + 1] = iI 100) = decide ((g.sheet u)[i + 1] = iI 100) from decide_eq_decide.mpr (nrw_small (w := 100) (by omega) (s4 _ (List.getElem_mem _)) (by omega)), List.getElem_eq_getD (h := hil1) 0, cal_some]
      have fin : ∀ b' : Bool, (b' = true → X = ltF (2 * (g.now.R + g.now.C)) (g.sheet u) f' (i + 2)) → (b' = false → X = false) → ∃ f'' a' b'', f'' < f' + 1 ∧ (∃ (i : Nat) (b : Bool), a' = bn b ∧ b'' = iI i ∧ (g.sheet u).length ≤ i + 2 * f'' + 2 ∧ i ≤ 44 ∧ (b = true → (g.sheet u).length ≤ i + 2 * f'' ∧ X = ltF (2 * (g.now.R + g.now.C)) (g.sheet u) f'' i ∧ g.bits u ≠ 0) ∧ (b = false → X = false)) ∧ (fun x10 => nm (iI (i : Int) + iI 2) fun x12 => Kc x10 x12) (bn b') = Kc a' b'' := fun b' h1 h2 => by
        refine ⟨f', bn b', iI (i + 2 : Nat), Nat.lt_succ_self f', ⟨i + 2, b', rfl, rfl, by omega, by omega, fun q => ⟨by omega, h1 q, b0⟩, h2⟩, ?_⟩
        dsimp only
        rw [nm_eq, iI_add]; rfl
      cases w1 : (winO (2 * (g.now.R + g.now.C)) ((g.sheet u).getD i 0)).isSome
      · rw [w1, Bool.false_and, Bool.false_and] at hXl
        rw [bn_false, if_pos (by decide)]
        exact fin false (fun q => absurd q (by decide)) (fun _ => hXl)
      · rw [w1, Bool.true_and] at hXl
        rw [bn_true, if_neg (by decide)]
        cases w2 : (winO (2 * (g.now.R + g.now.C)) ((g.sheet u).getD (i + 1) 0)).isSome || decide ((g.sheet u).getD (i + 1) 0 = iI 100)
        · rw [w2, Bool.false_and] at hXl
          rw [bn_false, if_pos (by decide)]
          exact fin false (fun q => absurd q (by decide)) (fun _ => hXl)
        · rw [w2, Bool.true_and] at hXl
          rw [bn_true, if_neg (by decide)]
          exact fin true (fun _ => hXl) (fun q => absurd q (by decide))
/-- the class: does a choice fit -/
theorem c_isFit {u x : Nat} {U : List Nat} {S : Nat → Bool} {T L : Nat → Nat} (hc : CSt h g) (hg : GV g) (hu : u < 4) (hlt : ltF (2 * (g.now.R + g.now.C)) (g.sheet u) 20 0 = true) (hH : HC h 57 g.now.R g.now.C g.now.K g.now.M S T L) (hDD : VD g.now.R g.now.C g.now.M S T L) (hB : DBC h g.now U) (hU : okU (g.now.R * g.now.C) U) :
    ∃ h2, f_X1_isFitting h (64 + 2 * u) (iI x) = some (bn (csF g.now (g.sheet u) 20 0 (stU x U 0 g.now.S) g.now.T).1, h2) ∧ CSt h2 g ∧ FM h h2 ∧ (∃ L, HC h2 57 g.now.R g.now.C g.now.K g.now.M (csF g.now (g.sheet u) 20 0 (stU x U 0 g.now.S) g.now.T).2.1 (csF g.now (g.sheet u) 20 0 (stU x U 0 g.now.S) g.now.T).2.2 L ∧ VD g.now.R g.now.C g.now.M (csF g.now (g.sheet u) 20 0 (stU x U 0 g.now.S) g.now.T).2.1 (csF g.now (g.sheet u) 20 0 (stU x U 0 g.now.S) g.now.T).2.2 L) ∧ DBC h2 g.now U ∧ (∀ j, gI h2 63 j = gI h 63 j) := by
  have hV := hg.1.1
  have h25 := sq_25 hV.2.1 hV.2.2.2.1
  obtain ⟨s1, s2, s3, s4⟩ := hg.2.2.1 u hu
  unfold f_X1_isFitting
  obtain ⟨t1, t2⟩ := w_standBy (x := x) hB hU h25 hH
  obtain ⟨c2, f2⟩ := hc.standT (a := 57) (x := slW (stU x U 0 g.now.S)) (y := tmW g.now.T) (by omega)
  have hDx := (stU_VD (x := x) U 0 g.now.S hU hg.1.2.1).of hDD
  rw [t1, cal_some]
  obtain ⟨X, hX⟩ : ∃ X, X = csF g.now (g.sheet u) 20 0 (stU x U 0 g.now.S) g.now.T := ⟨_, rfl⟩
  rw [← hX]
  obtain ⟨N, hN⟩ : ∃ N : Nat, N = 1000000 := ⟨_, rfl⟩
  rw [← hN]
  refine lo2_t (fun f x2 m => ∃ (i : Nat) (S : Nat → Bool) (T L : Nat → Nat), x2 = iI i ∧ (g.sheet u).length ≤ i + 2 * f ∧ i ≤ 42 ∧ ltF (2 * (g.now.R + g.now.C)) (g.sheet u) f i = true ∧ csF g.now (g.sheet u) f i S T = X ∧ CSt m g ∧ FM h m ∧ HC m 57 g.now.R g.now.C g.now.K g.now.M S T L ∧ VD g.now.R g.now.C g.now.M S T L ∧ DBC m g.now U ∧ (∀ j, gI m 63 j = gI h 63 j)) (fun o => ∃ h2, o = some (bn X.1, h2) ∧ CSt h2 g ∧ FM h h2 ∧ (∃ L, HC h2 57 g.now.R g.now.C g.now.K g.now.M X.2.1 X.2.2 L ∧ VD g.now.R g.now.C g.now.M X.2.1 X.2.2 L) ∧ DBC h2 g.now U ∧ (∀ j, gI h2 63 j = gI h 63 j)) ?_ N 20 _ _ (by omega) ⟨0, _, _, _, rfl, by omega, by omega, hlt, hX.symm, c2, f2, t2, hDx, hB.cong (fun x k q => by rw [gI_sL, gI_ne (by omega)]) (by rw [gL_ne (by omega)]; rfl), fun j => by rw [gI_sL, gI_ne (by omega)]⟩
  rintro f x2 m ⟨i, S, T, L, rfl, hf, hi42, hlt2, hL, hcs, hF, hHm, hDm, hBm, h63⟩ Kc
  obtain ⟨c1, c2', c3⟩ := hcs.2.2.2.2.1 u hu
  unfold f_X1_isFitting_k4
  have e : (iI (g.sheet u).length ≤ iI ((i : Int) + 1)) = (((g.sheet u).length : Int) ≤ (i : Int) + 1) := iI_le ⟨by omega, by omega⟩
  rw [c2', iI_add]
  by_cases hend : (g.sheet u).length ≤ i + 1
  · left
    have ht : X = (true, S, T) := by
      rw [← hL]
      cases f with
      | zero => rfl
      | succ f => unfold csF; rw [if_pos hend]
    rw [if_pos (by rw [e]; omega), rZ1, ht]
    exact ⟨_, rfl, m, rfl, hcs, hF, ⟨L, hHm, hDm⟩, hBm, h63⟩
  · obtain ⟨f', rfl⟩ : ∃ f', f = f' + 1 := ⟨f - 1, by omega⟩
    unfold ltF at hlt2
    rw [if_neg hend, Bool.and_eq_true, Bool.and_eq_true] at hlt2
    obtain ⟨⟨l1, l2⟩, l3⟩ := hlt2
    unfold csF at hL
    rw [if_neg hend] at hL
    obtain ⟨w, ew⟩ := Option.isSome_iff_exists.mp l1
    obtain ⟨hw1, hw2⟩ := winO_some ew
    rw [ew] at hL
    have hw0 : (some w).getD 0 = w := rfl
    rw [hw0] at hL
    have hv : ∀ (mm : Mem), (∀ k, gI mm (64 + 2 * u + 1) k = gI m (64 + 2 * u + 1) k) → ∀ k, k < (g.sheet u).length → gI mm (64 + 2 * u + 1) k = (g.sheet u).getD k 0 := fun mm hmm k hk => by
      have := c3 k hk
      rw [Nat.zero_add] at this
      rw [hmm, this, ← List.getElem_eq_getD (h := hk) 0]
    obtain ⟨m3, r1, r2⟩ := w_ry (b := 61) hV (by omega) hHm hDm (win := w) hw1
    obtain ⟨c4, f4⟩ := hcs.ry r2 (by omega)
    obtain ⟨⟨L', hH', hD'⟩, -, -, -, -, fr⟩ := r2
    have B3 : DBC m3 g.now U := hBm.cong (fun x k q => (fr x k (by omega) (by omega) (by omega)).1) ((fr 56 5 (by omega) (by omega) (by omega)).2)
    have o63 : ∀ j, gI m3 63 j = gI h 63 j := fun j => (fr 63 j (by omega) (by omega) (by omega)).1.trans (h63 j)
    rw [if_neg (by rw [e]; omega), ald_i (by omega) (by omega), Int.toNat_natCast, hv m (fun _ => rfl) i (by omega), hw2, r1, cal2_some, ald_i (by omega) (by omega), show ((i : Int) + 1).toNat = i + 1 by omega, hv m3 (fun k => (fr _ k (by omega) (by omega) (by omega)).1) (i + 1) (by omega)]
    by_cases ev : iI (ry g.now.R g.now.C g.now.K g.now.M w S T).1 = (g.sheet u).getD (i + 1) 0
    · right
      rw [if_pos ev] at hL
      rw [if_pos ev, nm_eq, iI_add]
      exact ⟨f', _, _, Nat.lt_succ_self f', ⟨i + 2, _, _, L', rfl, by omega, by omega, l3, hL, c4, hF.tr f4, hH', hD', B3, o63⟩, rfl⟩
    · left
      rw [if_neg ev] at hL
      rw [if_neg ev, rZ0, ← hL]
      exact ⟨_, rfl, m3, rfl, c4, hF.tr f4, ⟨L', hH', hD'⟩, B3, o63⟩
/-- the model: did the rays come so -/
theorem m_cameSo {u : Nat} {S : Nat → Bool} {T L : Nat → Nat} (hX : MX h g) (hg : GV g) (hu : u < 4) (h12 : gI h 72 12 = iI (-1)) (hlt : ltF (2 * (g.now.R + g.now.C)) (g.sheet u) 20 0 = true) (hH : RM h 73 g.now.R g.now.C g.now.K g.now.M S T L) (hDD : VD g.now.R g.now.C g.now.M S T L) (hb0 : g.bits u ≠ 0) :
    ∃ h2, f_X11_cameSo h (iI u) = some (bn (csF g.now (g.sheet u) 20 0 S T).1, h2) ∧ (∃ L, RM h2 73 g.now.R g.now.C g.now.K g.now.M (csF g.now (g.sheet u) 20 0 S T).2.1 (csF g.now (g.sheet u) 20 0 S T).2.2 L ∧ VD g.now.R g.now.C g.now.M (csF g.now (g.sheet u) 20 0 S T).2.1 (csF g.now (g.sheet u) 20 0 S T).2.2 L) ∧ FrM h h2 := by
  have hV := hg.1.1
  obtain ⟨s1, s2, s3, s4⟩ := hg.2.2.1 u hu
  unfold f_X11_cameSo
  obtain ⟨X, hXX⟩ : ∃ X, X = csF g.now (g.sheet u) 20 0 S T := ⟨_, rfl⟩
  rw [← hXX]
  obtain ⟨N, hN⟩ : ∃ N : Nat, N = 1000000 := ⟨_, rfl⟩
  rw [← hN]
  refine lo3_t (fun f x1 x2 m => ∃ (i : Nat) (S : Nat → Bool) (T L : Nat → Nat), x2 = iI i ∧ i ≤ 44 ∧ MX m g ∧ gI m 72 12 = iI (-1) ∧ RM m 73 g.now.R g.now.C g.now.K g.now.M S T L ∧ VD g.now.R g.now.C g.now.M S T L ∧ FrM h m ∧ ((x1 = iI 1 ∧ (g.sheet u).length ≤ i + 2 * f ∧ i ≤ 42 ∧ ltF (2 * (g.now.R + g.now.C)) (g.sheet u) f i = true ∧ csF g.now (g.sheet u) f i S T = X) ∨ (x1 = iI 0 ∧ X = (false, S, T)))) (fun o => ∃ h2, o = some (bn X.1, h2) ∧ (∃ L, RM h2 73 g.now.R g.now.C g.now.K g.now.M X.2.1 X.2.2 L ∧ VD g.now.R g.now.C g.now.M X.2.1 X.2.2 L) ∧ FrM h h2) ?_ N 20 _ _ _ (by omega) ⟨0, _, _, _, rfl, by omega, hX, h12, hH, hDD, FrM.rf, Or.inl ⟨rfl, by omega, by omega, hlt, hXX.symm⟩⟩
  rintro f x1 x2 m ⟨i, S, T, L, rfl, hi44, hMX, k12, hHm, hDm, hF, hmode⟩ Kc
  obtain ⟨c1, c2, c3⟩ := hMX.2.2.2.2.1 u hu
  unfold f_X11_cameSo_k4
  have e : (iI (g.sheet u).length ≤ iI ((i : Int) + 1)) = (((g.sheet u).length : Int) ≤ (i : Int) + 1) := iI_le ⟨by omega, by omega⟩
  rw [ald_i (by omega) (by omega), Int.toNat_natCast, c2, iI_add]
  rcases hmode with ⟨rfl, hf, hi42, hlt2, hL⟩ | ⟨rfl, hXf⟩
  · by_cases hend : (g.sheet u).length ≤ i + 1
    · left
      have ht : X = (true, S, T) := by
        rw [← hL]
        cases f with
        | zero => rfl
        | succ f => unfold csF; rw [if_pos hend]
      rw [if_pos (by rw [e]; omega), rZ1, ht]
      exact ⟨_, rfl, m, rfl, ⟨L, hHm, hDm⟩, hF⟩
    · right
      obtain ⟨f', rfl⟩ : ∃ f', f = f' + 1 := ⟨f - 1, by omega⟩
      unfold ltF at hlt2
      rw [if_neg hend, Bool.and_eq_true, Bool.and_eq_true] at hlt2
      obtain ⟨⟨l1, l2⟩, l3⟩ := hlt2
      unfold csF at hL
      rw [if_neg hend] at hL
      obtain ⟨w, ew⟩ := Option.isSome_iff_exists.mp l1
      obtain ⟨hw1, hw2⟩ := winO_some ew
      rw [ew] at hL
      have hw0 : (some w).getD 0 = w := rfl
      rw [hw0] at hL
      have hil : i < (g.sheet u).length := by omega
      have hil1 : i + 1 < (g.sheet u).length := by omega
      have v1 := hV.2.1
      have v2 := hV.2.2.2.1
      have hnw : nrw (g.bits u) (g.sheet u)[i] = iI w := by
        rw [← List.getElem_eq_getD (h := hil) 0] at hw2
        exact (nrw_small (by omega) (s4 _ (List.getElem_mem _)) (by omega)).mpr hw2
      obtain ⟨m2, r1, ⟨⟨L', hH', hD'⟩, r4, r6, r3, r5⟩⟩ := m_ry (wd := -1) hV hHm hDm k12 (by omega) (win := w) hw1
      have hb := ry_b (S := S) (T := T) hV hw1
      have z12 : gI m2 72 12 = iI (-1) := (r5.2.1 12 (by omega) (by omega) (by omega) (by omega) (by omega) (by omega) (by omega)).trans k12
      have hx := hMX.fr hg r5
      obtain ⟨d1, d2, d3⟩ := hx.2.2.2.2.1 u hu
      have enr : (iI (ry g.now.R g.now.C g.now.K g.now.M w S T).1 = nrw (g.bits u) (g.sheet u)[i + 1]) = (iI (ry g.now.R g.now.C g.now.K g.now.M w S T).1 = (g.sheet u).getD (i + 1) 0) := by
        rw [← List.getElem_eq_getD (h := hil1) 0]
        have := nrw_small (b := g.bits u) (w := (ry g.now.R g.now.C g.now.K g.now.M w S T).1) (by omega) (s4 _ (List.getElem_mem hil1)) (by omega)
        exact propext ⟨fun q => (this.mp q.symm).symm, fun q => (this.mpr q.symm).symm⟩
      rw [if_neg (by rw [e]; omega), if_neg (by decide), iI_mul, iI_add, ald_i (by omega) (by omega), show ((40 : Int) * (u : Int) + (i : Int)).toNat = 40 * u + i by omega, c3 i hil, hnw, r1, cal2_some, iI_add, ald_i (by omega) (by omega), show ((40 : Int) * (u : Int) + (i : Int) + 1).toNat = 40 * u + (i + 1) by omega, d3 (i + 1) hil1, join_eq]
      by_cases ev : iI (ry g.now.R g.now.C g.now.K g.now.M w S T).1 = (g.sheet u).getD (i + 1) 0
      · rw [if_pos ev] at hL
        rw [if_neg (by rw [enr]; exact fun q => q ev)]
        dsimp only
        rw [nm_eq, iI_add]
        exact ⟨f', _, _, _, Nat.lt_succ_self f', ⟨i + 2, _, _, L', rfl, by omega, hx, z12, hH', hD', hF.tr r5, Or.inl ⟨rfl, by omega, by omega, l3, hL⟩⟩, rfl⟩
      · rw [if_neg ev] at hL
        rw [if_pos (by rw [enr]; exact ev)]
        dsimp only
        rw [nm_eq, iI_add]
        exact ⟨f', _, _, _, Nat.lt_succ_self f', ⟨i + 2, _, _, L', rfl, by omega, hx, z12, hH', hD', hF.tr r5, Or.inr ⟨rfl, hL.symm⟩⟩, rfl⟩
  · left
    rw [hXf]
    refine ⟨_, ?_, m, rfl, ⟨L, hHm, hDm⟩, hF⟩
    by_cases q : (g.sheet u).length ≤ i + 1
    · rw [if_pos (by rw [e]; omega), rZ0]; rfl
    · rw [if_neg (by rw [e]; omega), if_pos (by decide), rZ0]; rfl
end FITSOP
