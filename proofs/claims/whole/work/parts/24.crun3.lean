section RUN3
variable {h0 : Mem} {a b R C : Nat} {K M : Nat → Nat} {wt : Int}
theorem bn_true : bn true = iI 1 := rfl
theorem bn_false : bn false = iI 0 := rfl
theorem w_sq (hV : VS R C K M) (hab : b < a ∨ a + 3 < b) {h : Mem} {S : Nat → Bool} {T L : Nat → Nat} {r c w n th : Nat} {se : Nat → Bool} {Kc : Int32 → Mem → Option (Int32 × Mem)} (hh : HC h a R C K M S T L) (hD : VD R C M S T L) (h0' : gI h b 0 = iI r) (h1' : gI h b 1 = iI c) (h2' : gI h b 2 = iI w) (h4' : gI h b 4 = iI th) (h5' : gI h b 5 = slW se) (hr : r < R) (hc : c < C) (hw : w < 4) (hn : n < 5000) :
    (stp (K (r * C + c)) = true ∧ ∃ h', f_X0_run_k9 b (iI n) (iI (r * C + c : Nat)) a Kc h = some (iI 100, h') ∧ HC h' a R C K M S T (upN L (r * C + c) (min 9999 (L (r * C + c) + 1))) ∧ gI h' b 4 = iI th ∧ gI h' b 5 = slW (upB se (r * C + c) true) ∧ gI h' b 3 = iI (n + 1 : Nat) ∧ gI h' b 6 = gI h b 6 ∧ gI h' b 7 = gI h b 7 ∧ FrR h h' a b) ∨
    (stp (K (r * C + c)) = false ∧ ∃ h', f_X0_run_k9 b (iI n) (iI (r * C + c : Nat)) a Kc h = f_X0_run_k17 b a (iI n) Kc h' ∧
      HC h' a R C K M (if thr (K (r * C + c)) then upB S (r * C + c) (turnS (K (r * C + c)) (M (r * C + c)) (S (r * C + c)) (T (r * C + c))) else S) (if thr (K (r * C + c)) then upN T (r * C + c) (turnT (K (r * C + c)) (M (r * C + c)) (T (r * C + c))) else T) (upN L (r * C + c) (min 9999 (L (r * C + c) + 1))) ∧
      gI h' b 0 = iI r ∧ gI h' b 1 = iI c ∧ gI h' b 2 = iI (if thr (K (r * C + c)) then bend w (S (r * C + c)) else w : Nat) ∧ gI h' b 4 = iI (if thr (K (r * C + c)) then th + 1 else th : Nat) ∧ gI h' b 5 = slW (upB se (r * C + c) true) ∧ gI h' b 3 = iI (n + 1 : Nat) ∧ gI h' b 6 = gI h b 6 ∧ gI h' b 7 = gI h b 7 ∧ FrR h h' a b) := by
  have hq : r * C + c < 25 := hV.q hr hc
  have hqs : r * C + c < R * C := sq_lt hr hc
  obtain ⟨v1, v2, v3, v4, vK, vM⟩ := hV
  generalize r * C + c = q at hq hqs ⊢
  unfold f_X0_run_k9
  simp only [nm_eq]
  rw [gI_ne (by omega), h5', or_bit hq, iI_add]
  have hA : HC (sI (sI h b 3 (iI ((n : Int) + 1))) b 5 (slW (upB se q true))) a R C K M S T L := hc_far (hc_far hh hab) hab
  rw [h_lightUp (hA.2.2.2.2.1 q hq) (hD.2.1 q) hq, cal_some, ald_i (by omega) (by omega), Int.toNat_natCast]
  have hB := hc_lit (q := q) (v := min 9999 (L q + 1)) hA
  generalize hm1 : sI (sI (sI h b 3 (iI ((n : Int) + 1))) b 5 (slW (upB se q true))) (a + 3) q (iI (min 9999 (L q + 1) : Nat)) = m1 at hB ⊢
  have f0 : ∀ k, k ≠ 3 → k ≠ 5 → gI m1 b k = gI h b k := fun k q1 q2 => by rw [← hm1, gI_ne (by omega), gI_ne (by omega), gI_ne (by omega)]
  have f3 : gI m1 b 3 = iI (n + 1 : Nat) := by rw [← hm1, gI_ne (by omega), gI_ne (by omega), gI_same]; rfl
  have f5 : gI m1 b 5 = slW (upB se q true) := by rw [← hm1, gI_ne (by omega), gI_same]
  have fF : FrR h m1 a b := fun x k q1 q2 q3 => by
    rw [← hm1, gI_ne (by omega), gI_ne (by omega), gI_ne (by omega)]
    exact ⟨rfl, rfl⟩
  rw [hB.2.2.1 q hq, h_stops (vK q), cal_some]
  cases hst : stp (K q)
  · right
    refine ⟨rfl, ?_⟩
    rw [bn_false, if_pos (by decide), h_throws (vK q), cal_some, join_eq]
    cases hth : thr (K q)
    · rw [bn_false, if_pos (by decide)]
      exact ⟨m1, rfl, hB, by rw [f0 _ (by omega) (by omega)]; exact h0', by rw [f0 _ (by omega) (by omega)]; exact h1', by rw [f0 _ (by omega) (by omega)]; exact h2', by rw [f0 _ (by omega) (by omega)]; exact h4', f5, f3, f0 _ (by omega) (by omega), f0 _ (by omega) (by omega), fF⟩
    · rw [bn_true, if_neg (by decide), h_slantOf hB.2.2.2.2.2.1 hq, cal_some, w_bend (by rw [f0 _ (by omega) (by omega)]; exact h2') hw, cal_some, gI_ne (by omega), f0 _ (by omega) (by omega), h4', iI_add]
      have hE : HC (sI (sI m1 b 2 (iI (bend w (S q)))) b 4 (iI ((th : Int) + 1))) a R C K M S T (upN L q (min 9999 (L q + 1))) := hc_far (hc_far hB hab) hab
      obtain ⟨m2, e1, e2, e3, e4, e5⟩ := h_turn (q := q) (hE.2.2.1 q hq) (hE.2.2.2.1 q hq) hE.2.2.2.2.2.1 hE.2.2.2.2.2.2 (vK q) (vM q) hD.1 hq
      rw [e1, cal_some]
      refine ⟨m2, rfl, hc_turn hE e2 e3 e4, ?_, ?_, ?_, ?_, ?_, ?_, ?_, ?_, ?_⟩
      · rw [e4 _ _ (by omega), gI_ne (by omega), gI_ne (by omega), f0 _ (by omega) (by omega)]; exact h0'
      · rw [e4 _ _ (by omega), gI_ne (by omega), gI_ne (by omega), f0 _ (by omega) (by omega)]; exact h1'
      · rw [e4 _ _ (by omega), gI_ne (by omega), gI_same]; rfl
      · rw [e4 _ _ (by omega), gI_same]; rfl
      · rw [e4 _ _ (by omega), gI_ne (by omega), gI_ne (by omega)]; exact f5
      · rw [e4 _ _ (by omega), gI_ne (by omega), gI_ne (by omega)]; exact f3
      · rw [e4 _ _ (by omega), gI_ne (by omega), gI_ne (by omega)]; exact f0 _ (by omega) (by omega)
      · rw [e4 _ _ (by omega), gI_ne (by omega), gI_ne (by omega)]; exact f0 _ (by omega) (by omega)
      · refine fF.tr fun x k q1 q2 q3 => ?_
        rw [e4 _ _ (by omega), gI_ne (by omega), gI_ne (by omega), e5 _ _ (by omega)]
        exact ⟨rfl, rfl⟩
  · left
    refine ⟨rfl, ?_⟩
    rw [bn_true, if_neg (by decide)]
    exact ⟨m1, rfl, hB, by rw [f0 _ (by omega) (by omega)]; exact h4', f5, f3, f0 _ (by omega) (by omega), f0 _ (by omega) (by omega), fF⟩
theorem VD.step2 {q l k : Nat} {S : Nat → Bool} {T L : Nat → Nat} {s : Bool} {x : Bool} (hD : VD R C M S T L) (hq : q < R * C) (hl : l ≤ 9999) : VD R C M (if x then upB S q s else S) (if x then upN T q (turnT k (M q) (T q)) else T) (upN L q l) := by
  cases x
  · exact hD.lit hl
  · exact hD.step hq hl
theorem k6_le {n : Nat} (hn : n < 100000) : (iI 5000 ≤ iI n) = (5000 ≤ (n : Int)) := iI_le ⟨by omega, by omega⟩
theorem k6_end {h : Mem} {n : Nat} {Kc : Int32 → Mem → Option (Int32 × Mem)} (hn : n = 5000) : f_X0_run_k6 b a (iI n) h Kc = some (iI 100, h) := by
  unfold f_X0_run_k6
  have e : iI 5000 ≤ iI n := by rw [k6_le (by omega)]; omega
  rw [if_pos e]
theorem k6_go {h : Mem} {n : Nat} {Kc : Int32 → Mem → Option (Int32 × Mem)} {x : Int32} (hn : n < 5000) (hx : gI h b 0 * gI h a 1 + gI h b 1 = x) : f_X0_run_k6 b a (iI n) h Kc = if iI n = gI h b 6 then f_X0_run_k9 b (iI n) x a Kc (sI h b 7 x) else f_X0_run_k9 b (iI n) x a Kc h := by
  unfold f_X0_run_k6
  have e1 : n < 100000 := Nat.lt_of_lt_of_le hn (Nat.le_of_ble_eq_true rfl)
  have e : ¬ iI 5000 ≤ iI n := by rw [k6_le e1]; exact Int.not_le.mpr (Int.ofNat_lt.mpr hn)
  rw [if_neg e, nm_eq, hx, join_eq]
  by_cases e2 : iI n = gI h b 6
  · rw [if_neg (fun z => z e2), if_pos e2, nm_eq]
  · rw [if_pos e2, if_neg e2]
theorem w_run (hV : VS R C K M) (hab : b < a ∨ a + 3 < b) {S : Nat → Bool} {T L : Nat → Nat} {win : Nat} {sw : Int} (hh : HC h0 a R C K M S T L) (hD : VD R C M S T L) (hwt : gI h0 b 6 = iI wt) (hwr : -2147483648 ≤ wt ∧ wt < 2147483648) (hsw : gI h0 b 7 = iI sw) (hwin : win < 2 * (R + C)) :
    ∃ h', f_X0_run h0 b a (iI win) = some (iI (ray R C K M wt win S T L sw).1, h') ∧ RayC h0 h' a b R C K M (ray R C K M wt win S T L sw) := by
  obtain ⟨v1, v2, v3, v4, vK, vM⟩ := id hV
  unfold f_X0_run
  rw [w_enter hh.1 hh.2.1 (by omega) hwin v1 v3 v2 v4, cal_some]
  simp only [nm_eq]
  obtain ⟨o1, o2, o3⟩ := ent_ok (R := R) (C := C) (win := win) v1 v3 hwin
  obtain ⟨X, eX⟩ : ∃ X, X = ray R C K M wt win S T L sw := ⟨_, rfl⟩
  rw [← eX]
  have eX' := eX
  unfold ray at eX'
  obtain ⟨N, hN⟩ : ∃ N : Nat, N = 1000000 := ⟨_, rfl⟩
  obtain ⟨F5, hF5⟩ : ∃ F5 : Nat, F5 = 5000 := ⟨_, rfl⟩
  rw [← hN]
  rw [← hF5] at eX'
  refine lo2_t (fun f x4 h => ∃ r c w S T L th se n sw, x4 = iI (n : Nat) ∧ n + f = 5000 ∧ r < R ∧ c < C ∧ w < 4 ∧ rayF R C K M wt f r c w S T L th se n sw = X ∧ True ∧ HC h a R C K M S T L ∧ VD R C M S T L ∧ gI h b 0 = iI (r : Nat) ∧ gI h b 1 = iI (c : Nat) ∧ gI h b 2 = iI (w : Nat) ∧ gI h b 4 = iI (th : Nat) ∧ gI h b 5 = slW se ∧ (0 < n → gI h b 3 = iI (n : Nat)) ∧ gI h b 6 = gI h0 b 6 ∧ gI h b 7 = iI sw ∧ FrR h0 h a b ∧ ∀ q, R * C ≤ q → se q = false) (fun o => ∃ h', o = some (iI X.1, h') ∧ RayC h0 h' a b R C K M X) ?_ N F5 _ _ (by omega) ?_
  · rintro f x4 h ⟨r, c, w, S, T, L, th, se, n, sw, rfl, hnf, hr, hc, hw, hX, -, hh, hD, f0, f1, f2, f4, f5, f3, f6, f7, fF, fse⟩ Kc
    cases f with
    | zero =>
      left
      unfold rayF at hX
      refine ⟨_, rfl, h, ?_, ?_⟩
      · rw [k6_end (by omega), ← hX]
        rfl
      · rw [← hX]
        exact ⟨hh, hD, f4, f5, f3 (by omega), f6, f7, fF, fse⟩
    | succ f =>
      have hn : n < 5000 := by omega
      have hq := hV.q hr hc
      have hqs : r * C + c < R * C := sq_lt hr hc
      have e7 : gI h b 0 * gI h a 1 + gI h b 1 = iI (r * C + c : Nat) := by
        rw [f0, hh.2.1, f1, iI_mul, iI_add]; rfl
      obtain ⟨h8, e8, g7, gF, gL8⟩ : ∃ h8, f_X0_run_k6 b a (iI n) h Kc = f_X0_run_k9 b (iI n) (iI (r * C + c : Nat)) a Kc h8 ∧ gI h8 b 7 = iI (if (n : Int) = wt then ((r * C + c : Nat) : Int) else sw) ∧ (∀ x k, (x ≠ b ∨ k ≠ 7) → gI h8 x k = gI h x k) ∧ (∀ x k, gL h8 x k = gL h x k) := by
        rw [k6_go hn e7, f6, hwt]
        have en : (iI n = iI wt) = ((n : Int) = wt) := iI_eq ⟨⟨by omega, by omega⟩, hwr⟩
        by_cases e : (n : Int) = wt
        · exact ⟨sI h b 7 (iI (r * C + c : Nat)), if_pos (by rw [en]; exact e), by rw [gI_same, if_pos e], fun x k hx => gI_ne hx, fun x k => rfl⟩
        · exact ⟨h, if_neg (by rw [en]; exact e), by rw [f7, if_neg e], fun x k hx => rfl, fun x k => rfl⟩
      have hh8 : HC h8 a R C K M S T L := ⟨by rw [gF _ _ (by omega)]; exact hh.1, by rw [gF _ _ (by omega)]; exact hh.2.1, fun p hp => by rw [gF _ _ (by omega)]; exact hh.2.2.1 p hp, fun p hp => by rw [gF _ _ (by omega)]; exact hh.2.2.2.1 p hp, fun p hp => by rw [gF _ _ (by omega)]; exact hh.2.2.2.2.1 p hp, by rw [gF _ _ (by omega)]; exact hh.2.2.2.2.2.1, by rw [gL8]; exact hh.2.2.2.2.2.2⟩
      have fF8 : FrR h h8 a b := fun x k q1 q2 q3 => ⟨gF x k (by omega), gL8 x k⟩
      have hse : ∀ q, R * C ≤ q → upB se (r * C + c) true q = false := fun q hq => by
        unfold upB; rw [if_neg (by omega)]; exact fse q hq
      have hl9 : min 9999 (L (r * C + c) + 1) ≤ 9999 := Nat.min_le_left _ _
      unfold rayF at hX
      dsimp only at hX
      rw [e8]
      rcases w_sq (Kc := Kc) hV hab hh8 hD (by rw [gF _ _ (by omega)]; exact f0) (by rw [gF _ _ (by omega)]; exact f1) (by rw [gF _ _ (by omega)]; exact f2) (by rw [gF _ _ (by omega)]; exact f4) (by rw [gF _ _ (by omega)]; exact f5) hr hc hw hn with ⟨hst, h', r1, r2, r3, r4, r5, r6, r7, r8⟩ | ⟨hst, h', r1, r2, r3, r4, r5, r6, r7, r8, r9, r10, r11⟩
      · left
        rw [if_pos hst] at hX
        refine ⟨_, r1, h', by rw [← hX]; rfl, ?_⟩
        rw [← hX]
        exact ⟨r2, hD.lit hl9, r3, r4, r5, by rw [r6, gF _ _ (by omega)]; exact f6, by rw [r7]; exact g7, (fF.tr fF8).tr r8, hse⟩
      · rw [if_neg (by rw [hst]; exact Bool.false_ne_true)] at hX
        have hw1 : (if thr (K (r * C + c)) then bend w (S (r * C + c)) else w) < 4 := by
          split
          · exact bend_lt hw
          · exact hw
        have hD1 := VD.step2 (k := K (r * C + c)) (s := turnS (K (r * C + c)) (M (r * C + c)) (S (r * C + c)) (T (r * C + c))) (x := thr (K (r * C + c))) hD hqs hl9
        have g7' : gI h' b 7 = iI (if (n : Int) = wt then ((r * C + c : Nat) : Int) else sw) := by rw [r10]; exact g7
        have g6' : gI h' b 6 = gI h0 b 6 := by rw [r9, gF _ _ (by omega)]; exact f6
        have fF' := (fF.tr fF8).tr r11
        rcases w_go (wt := wt) (Kc := Kc) hV hab r2 r3 r4 r5 hr hc hw1 hn with ⟨h2, s1, r', c', s2, s3, s4, s5, s6, s7, s8⟩ | ⟨h2, out, s1, s6, s7, s8⟩
        · right
          rw [s8] at hX
          refine ⟨f, _, h2, Nat.lt_succ_self f, ⟨r', c', _, _, _, _, _, _, n + 1, _, rfl, by omega, s2, s3, hw1, hX, trivial, ?_, hD1, s4, s5, ?_, ?_, ?_, fun _ => ?_, ?_, ?_, ?_, hse⟩, by rw [r1]; exact s1⟩
          · exact ⟨by rw [s6 _ _ (by omega)]; exact r2.1, by rw [s6 _ _ (by omega)]; exact r2.2.1, fun p hp => by rw [s6 _ _ (by omega)]; exact r2.2.2.1 p hp, fun p hp => by rw [s6 _ _ (by omega)]; exact r2.2.2.2.1 p hp, fun p hp => by rw [s6 _ _ (by omega)]; exact r2.2.2.2.2.1 p hp, by rw [s6 _ _ (by omega)]; exact r2.2.2.2.2.2.1, by rw [s7]; exact r2.2.2.2.2.2.2⟩
          · rw [s6 _ _ (by omega)]; exact r5
          · rw [s6 _ _ (by omega)]; exact r6
          · rw [s6 _ _ (by omega)]; exact r7
          · rw [s6 _ _ (by omega)]; exact r8
          · rw [s6 _ _ (by omega)]; exact g6'
          · rw [s6 _ _ (by omega)]; exact g7'
          · exact fF'.tr fun x k q1 q2 q3 => ⟨s6 x k (by omega), s7 x k⟩
        · left
          rw [s8] at hX
          refine ⟨_, r1.trans s1, h2, by rw [← hX], ?_⟩
          rw [← hX]
          refine ⟨⟨by rw [s6 _ _ (by omega)]; exact r2.1, by rw [s6 _ _ (by omega)]; exact r2.2.1, fun p hp => by rw [s6 _ _ (by omega)]; exact r2.2.2.1 p hp, fun p hp => by rw [s6 _ _ (by omega)]; exact r2.2.2.2.1 p hp, fun p hp => by rw [s6 _ _ (by omega)]; exact r2.2.2.2.2.1 p hp, by rw [s6 _ _ (by omega)]; exact r2.2.2.2.2.2.1, by rw [s7]; exact r2.2.2.2.2.2.2⟩, hD1, ?_, ?_, ?_, ?_, ?_, ?_, hse⟩
          · rw [s6 _ _ (by omega)]; exact r6
          · rw [s6 _ _ (by omega)]; exact r7
          · rw [s6 _ _ (by omega)]; exact r8
          · rw [s6 _ _ (by omega)]; exact g6'
          · rw [s6 _ _ (by omega)]; exact g7'
          · exact fF'.tr fun x k q1 q2 q3 => ⟨s6 x k (by omega), s7 x k⟩
  · refine ⟨entR R C win, entC R C win, entW R C win, S, T, L, 0, fun _ => false, 0, sw, rfl, by omega, o1, o2, o3, eX'.symm, trivial, hc_far (hc_far (hc_far (hc_far (hc_far hh hab) hab) hab) hab) hab, hD, ?_, ?_, ?_, ?_, ?_, fun h => absurd h (Nat.lt_irrefl 0), ?_, ?_, ?_, fun _ _ => rfl⟩
    · rw [gI_ne (by omega), gI_ne (by omega), gI_ne (by omega), gI_ne (by omega), gI_same]
    · rw [gI_ne (by omega), gI_ne (by omega), gI_ne (by omega), gI_same]
    · rw [gI_ne (by omega), gI_ne (by omega), gI_same]
    · rw [gI_ne (by omega), gI_same]; rfl
    · rw [gI_same]
      apply b_ext
      intro i hi
      rw [b_0, b_slN _ _ (by omega) i hi]
      simp
    · rw [gI_ne (by omega), gI_ne (by omega), gI_ne (by omega), gI_ne (by omega), gI_ne (by omega)]
    · rw [gI_ne (by omega), gI_ne (by omega), gI_ne (by omega), gI_ne (by omega), gI_ne (by omega)]; exact hsw
    · exact fun x k q1 q2 q3 => ⟨by rw [gI_ne (by omega), gI_ne (by omega), gI_ne (by omega), gI_ne (by omega), gI_ne (by omega)], rfl⟩
end RUN3
