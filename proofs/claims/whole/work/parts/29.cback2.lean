section BACK2
variable {h0 : Mem} {a b R C : Nat} {K M : Nat → Nat}
def BackC (h0 h : Mem) (a b R C : Nat) (K M : Nat → Nat) (x : BES) : Prop :=
  HC h a R C K M x.2.1 x.2.2.1 x.2.2.2 ∧ VD R C M x.2.1 x.2.2.1 x.2.2.2 ∧ FrR h0 h a b ∧ (∀ k, 3 ≤ k → gI h b k = gI h0 b k)
theorem BackC.go {h h2 : Mem} {x : BES} (hh : BackC h0 h a b R C K M x) (hab : b < a ∨ a + 3 < b) (s6 : ∀ x k, (x ≠ b ∨ 2 ≤ k) → gI h2 x k = gI h x k) (s7 : ∀ x k, gL h2 x k = gL h x k) : BackC h0 h2 a b R C K M x := by
  obtain ⟨⟨p1, p2, p3, p4, p5, p6, p7⟩, hD, hF, hb⟩ := hh
  exact ⟨⟨by rw [s6 _ _ (by omega)]; exact p1, by rw [s6 _ _ (by omega)]; exact p2, fun p hp => by rw [s6 _ _ (by omega)]; exact p3 p hp, fun p hp => by rw [s6 _ _ (by omega)]; exact p4 p hp, fun p hp => by rw [s6 _ _ (by omega)]; exact p5 p hp, by rw [s6 _ _ (by omega)]; exact p6, by rw [s7]; exact p7⟩, hD, hF.tr fun x k q1 q2 q3 => ⟨s6 x k (by omega), s7 x k⟩, fun k hk => by rw [s6 _ _ (by omega)]; exact hb k hk⟩
theorem w_bsq (hV : VS R C K M) (hab : b < a ∨ a + 3 < b) {h : Mem} {S : Nat → Bool} {T L : Nat → Nat} {r c w n : Nat} {out : Nat} {Kc : Int32 → Mem → Option (Int32 × Mem)} (hB : BackC h0 h a b R C K M (out, S, T, L)) (f0 : gI h b 0 = iI r) (f1 : gI h b 1 = iI c) (f2 : gI h b 2 = iI w) (hr : r < R) (hc : c < C) (hw : w < 4) (hn : n < 5000) :
    (stp (K (r * C + c)) = true ∧ f_X0_runBack_k4 b a (iI n) h Kc = some (iI 100, h)) ∨
    (stp (K (r * C + c)) = false ∧ ∃ h', f_X0_runBack_k4 b a (iI n) h Kc = f_X0_runBack_k11 b a (iI n) Kc h' ∧
      BackC h0 h' a b R C K M (out, (if thr (K (r * C + c)) then upB S (r * C + c) (backS (K (r * C + c)) (S (r * C + c)) (T (r * C + c))) else S), (if thr (K (r * C + c)) then upN T (r * C + c) (backT (K (r * C + c)) (M (r * C + c)) (T (r * C + c))) else T), (upN L (r * C + c) (L (r * C + c) - 1))) ∧
      gI h' b 0 = iI r ∧ gI h' b 1 = iI c ∧ gI h' b 2 = iI (if thr (K (r * C + c)) then bend w (backS (K (r * C + c)) (S (r * C + c)) (T (r * C + c))) else w : Nat)) := by
  obtain ⟨hh, hD, hF, hb⟩ := hB
  dsimp only at hh hD
  have hq : r * C + c < 25 := hV.q hr hc
  have hqs : r * C + c < R * C := sq_lt hr hc
  obtain ⟨v1, v2, v3, v4, vK, vM⟩ := hV
  have e7 : gI h b 0 * gI h a 1 + gI h b 1 = iI (r * C + c : Nat) := by
    rw [f0, hh.2.1, f1, iI_mul, iI_add]; rfl
  unfold f_X0_runBack_k4
  rw [if_neg (by rw [k6_le (by omega)]; omega), e7, nm_eq]
  have hL9 := hD.2.1 (r * C + c)
  generalize r * C + c = q at hq hqs hL9 ⊢
  rw [ald_i (by omega) (by omega), Int.toNat_natCast, hh.2.2.1 q hq, h_stops (vK q), cal_some]
  cases hst : stp (K q)
  · right
    refine ⟨rfl, ?_⟩
    rw [bn_false, if_pos (by decide), h_lightDown (hh.2.2.2.2.1 q hq) hL9 hq, cal_some, h_throws (vK q), cal_some, join_eq]
    have hA := hc_lit (q := q) (v := L q - 1) hh
    generalize hm1 : sI h (a + 3) q (iI (L q - 1 : Nat)) = m1 at hA ⊢
    have g0 : ∀ x k, x ≠ a + 3 → gI m1 x k = gI h x k := fun x k hx => by rw [← hm1, gI_ne (by omega)]
    have gl : ∀ x k, gL m1 x k = gL h x k := fun x k => by rw [← hm1]; rfl
    have fF : FrR h m1 a b := fun x k q1 q2 q3 => ⟨g0 x k q2, gl x k⟩
    cases hth : thr (K q)
    · rw [bn_false, if_pos (by decide)]
      exact ⟨m1, rfl, ⟨hA, hD.lit (by omega), hF.tr fF, fun k hk => by rw [g0 _ _ (by omega)]; exact hb k hk⟩, by rw [g0 _ _ (by omega)]; exact f0, by rw [g0 _ _ (by omega)]; exact f1, by rw [g0 _ _ (by omega)]; exact f2⟩
    · rw [bn_true, if_neg (by decide)]
      obtain ⟨m2, e1, e2, e3, e4, e5⟩ := h_turnBack (q := q) (hA.2.2.1 q hq) (hA.2.2.2.1 q hq) hA.2.2.2.2.2.1 hA.2.2.2.2.2.2 (vK q) (vM q) hD.1 hq
      rw [e1, cal_some, h_slantOf e2 hq, cal_some, upB_same, w_bend (by rw [e4 _ _ (by omega), g0 _ _ (by omega)]; exact f2) hw, cal_some]
      have hB2 := hc_turn hA e2 e3 e4
      refine ⟨_, rfl, ⟨hc_far hB2 hab, ?_, ?_, fun k hk => by rw [gI_ne (by omega), e4 _ _ (by omega), g0 _ _ (by omega)]; exact hb k hk⟩, ?_, ?_, ?_⟩
      · exact VD.back (k := K q) (x := true) hD hqs (by omega)
      · refine (hF.tr fF).tr fun x k q1 q2 q3 => ?_
        rw [gI_ne (by omega), e4 _ _ (by omega), gL_sI, e5 _ _ (by omega)]
        exact ⟨rfl, rfl⟩
      · rw [gI_ne (by omega), e4 _ _ (by omega), g0 _ _ (by omega)]; exact f0
      · rw [gI_ne (by omega), e4 _ _ (by omega), g0 _ _ (by omega)]; exact f1
      · rw [gI_same]; rfl
  · left
    refine ⟨rfl, ?_⟩
    rw [bn_true, if_neg (by decide)]
theorem w_back (hV : VS R C K M) (hab : b < a ∨ a + 3 < b) {S : Nat → Bool} {T L : Nat → Nat} {win : Nat} (hh : HC h0 a R C K M S T L) (hD : VD R C M S T L) (hwin : win < 2 * (R + C)) :
    ∃ h', f_X0_runBack h0 b a (iI win) = some (iI (bay R C K M win S T L).1, h') ∧ BackC h0 h' a b R C K M (bay R C K M win S T L) := by
  obtain ⟨v1, v2, v3, v4, vK, vM⟩ := id hV
  unfold f_X0_runBack
  rw [w_enter hh.1 hh.2.1 (by omega) hwin v1 v3 v2 v4, cal_some]
  obtain ⟨o1, o2, o3⟩ := ent_ok (R := R) (C := C) (win := win) v1 v3 hwin
  obtain ⟨X, eX⟩ : ∃ X, X = bay R C K M win S T L := ⟨_, rfl⟩
  rw [← eX]
  have eX' := eX
  unfold bay at eX'
  obtain ⟨N, hN⟩ : ∃ N : Nat, N = 1000000 := ⟨_, rfl⟩
  obtain ⟨F5, hF5⟩ : ∃ F5 : Nat, F5 = 5000 := ⟨_, rfl⟩
  rw [← hN]
  rw [← hF5] at eX'
  refine lo2_t (fun f x4 h => ∃ r c w S T L n, x4 = iI (n : Nat) ∧ n + f = 5000 ∧ r < R ∧ c < C ∧ w < 4 ∧ bayF R C K M f r c w S T L = X ∧ BackC h0 h a b R C K M (0, S, T, L) ∧ gI h b 0 = iI (r : Nat) ∧ gI h b 1 = iI (c : Nat) ∧ gI h b 2 = iI (w : Nat)) (fun o => ∃ h', o = some (iI X.1, h') ∧ BackC h0 h' a b R C K M X) ?_ N F5 _ _ (by omega) ?_
  · rintro f x4 h ⟨r, c, w, S, T, L, n, rfl, hnf, hr, hc, hw, hX, hB, f0, f1, f2⟩ Kc
    cases f with
    | zero =>
      left
      unfold bayF at hX
      refine ⟨_, rfl, h, ?_, ?_⟩
      · unfold f_X0_runBack_k4
        rw [if_pos (by rw [k6_le (by omega)]; omega), ← hX]
        rfl
      · rw [← hX]
        exact hB
    | succ f =>
      have hn : n < 5000 := by omega
      unfold bayF at hX
      rcases w_bsq (Kc := Kc) hV hab hB f0 f1 f2 hr hc hw hn with ⟨hst, e1⟩ | ⟨hst, h', e1, e2, e3, e4, e5⟩
      · left
        rw [if_pos hst] at hX
        exact ⟨_, e1, h, by rw [← hX]; rfl, by rw [← hX]; exact hB⟩
      · rw [if_neg (by rw [hst]; exact Bool.false_ne_true)] at hX
        have hw1 : (if thr (K (r * C + c)) then bend w (backS (K (r * C + c)) (S (r * C + c)) (T (r * C + c))) else w) < 4 := by
          split
          · exact bend_lt hw
          · exact hw
        rcases w_go2 (Kc := Kc) hV hab e2.1 e3 e4 e5 hr hc hw1 hn with ⟨h2, s1, r', c', s2, s3, s4, s5, s6, s7, s8⟩ | ⟨h2, out, s1, s6, s7, s8, -, -⟩
        · right
          rw [s8] at hX
          refine ⟨f, _, h2, Nat.lt_succ_self f, ⟨r', c', _, _, _, _, n + 1, rfl, by omega, s2, s3, hw1, hX, e2.go hab s6 s7, s4, s5, ?_⟩, by rw [e1]; exact s1⟩
          rw [s6 _ _ (by omega)]; exact e5
        · left
          rw [s8] at hX
          refine ⟨_, e1.trans s1, h2, by rw [← hX], ?_⟩
          rw [← hX]
          exact e2.go hab s6 s7
  · refine ⟨entR R C win, entC R C win, entW R C win, S, T, L, 0, rfl, by omega, o1, o2, o3, eX'.symm, ⟨hc_far (hc_far (hc_far hh hab) hab) hab, hD, fun x k q1 q2 q3 => ⟨by rw [gI_ne (by omega), gI_ne (by omega), gI_ne (by omega)], rfl⟩, fun k hk => by rw [gI_ne (by omega), gI_ne (by omega), gI_ne (by omega)]⟩, ?_, ?_, ?_⟩
    · rw [gI_ne (by omega), gI_ne (by omega), gI_same]
    · rw [gI_ne (by omega), gI_same]
    · rw [gI_same]
end BACK2
