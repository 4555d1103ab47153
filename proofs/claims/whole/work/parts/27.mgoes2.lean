section MGOES
variable {h0 : Mem} {R C : Nat} {K M : Nat → Nat} {wt wd : Int}
/-- what stands in the model behind a ray -/
def RayM (h0 h : Mem) (R C : Nat) (K M : Nat → Nat) (wd : Int) (x : RES) : Prop :=
  RM h 73 R C K M x.2.1 x.2.2.1 x.2.2.2.1 ∧ VD R C M x.2.1 x.2.2.1 x.2.2.2.1 ∧ gI h 72 11 = iI x.2.2.2.2.1 ∧ gI h 72 15 = bn (met wd x.2.2.2.2.2.1) ∧ gI h 72 10 = iI x.2.2.2.2.2.2.1 ∧ gI h 72 14 = iI x.2.2.2.2.2.2.2 ∧ FrM h0 h
theorem met_up {se : Nat → Bool} {q : Nat} : met wd (upB se q true) = (met wd se || decide ((q : Int) = wd)) := by
  unfold met upB
  by_cases e : wd < 0
  · rw [if_pos e, if_pos e, decide_eq_false (by omega)]; rfl
  · rw [if_neg e, if_neg e]
    by_cases e2 : wd.toNat = q
    · rw [if_pos e2, decide_eq_true (by omega), Bool.or_true]
    · rw [if_neg e2, decide_eq_false (by omega), Bool.or_false]
theorem rZbn {A : Type} {K : Option A} (b : Bool) : rZ (bn b) K = K := by
  cases b
  · exact rZ0
  · exact rZ1
/-- one square: up to comesInto -/
theorem m_sq {h : Mem} {q n : Nat} {se : Nat → Bool} {sw : Int} {K14 : Int32 → Mem → Option (Int32 × Mem)} (hq : q < 25) (hn : n < 5000) (h12 : gI h 72 12 = iI wd) (h13 : gI h 72 13 = iI wt) (h15 : gI h 72 15 = bn (met wd se)) (h14 : gI h 72 14 = iI sw) (h10 : gI h 72 10 = iI n) (hwd : -2147483648 ≤ wd ∧ wd < 2147483648) (hwt : -2147483648 ≤ wt ∧ wt < 2147483648) :
    (join (f_X11_goes_k19 h (iI q) K14) fun (K19 : Int32 → Option (Int32 × Mem)) => join (K19 (iI 1)) fun (K26 : Option (Int32 × Mem)) => if ¬ (gI h 72 15) = 0 then (K26) else (if ¬ (iI q) = (gI h 72 12) then (K19 (iI 0)) else (K26)))
    = cal2 (f_X11_comesInto (sI (sI h 72 15 (bn (met wd (upB se q true)))) 72 14 (iI (if (n : Int) = wt then (q : Int) else sw))) (iI q)) fun v24 h25 => K14 v24 h25 := by
  have e0 : ∀ b : Bool, f_X11_goes_k19 h (iI q) K14 (bn b) = cal2 (f_X11_comesInto (sI (sI h 72 15 (bn b)) 72 14 (iI (if (n : Int) = wt then (q : Int) else sw))) (iI q)) fun v24 h25 => K14 v24 h25 := fun b => by
    unfold f_X11_goes_k19
    rw [rZbn, nm_eq, join_eq, gI_ne (by omega), gI_ne (by omega), gI_ne (by omega), h10, h13, h14]
    have e : (iI n = iI wt) = ((n : Int) = wt) := iI_eq ⟨by omega, hwt⟩
    by_cases e2 : (n : Int) = wt
    · rw [if_neg (fun z => z (by rw [e]; exact e2)), if_pos e2]; rfl
    · rw [if_pos (fun z => e2 (by rw [e] at z; exact z)), if_neg e2]; rfl
  rw [join_eq, join_eq, h15, h12, met_up]
  have e : (iI q = iI wd) = ((q : Int) = wd) := iI_eq ⟨by omega, hwd⟩
  cases hm : met wd se
  · rw [bn_false, if_neg (by decide), Bool.false_or]
    by_cases e2 : (q : Int) = wd
    · rw [if_neg (fun z => z (by rw [e]; exact e2)), decide_eq_true e2]; exact e0 true
    · rw [if_pos (fun z => e2 (by rw [e] at z; exact z)), decide_eq_false e2]; exact e0 false
  · rw [bn_true, if_pos (by decide), Bool.true_or]; exact e0 true
theorem m_goes (hV : VS R C K M) {S : Nat → Bool} {T L : Nat → Nat} {win : Nat} (hh : RM h0 73 R C K M S T L) (hD : VD R C M S T L) (h12 : gI h0 72 12 = iI wd) (h13 : gI h0 72 13 = iI wt) (hwd : -2147483648 ≤ wd ∧ wd < 2147483648) (hwt : -2147483648 ≤ wt ∧ wt < 2147483648) (hwin : win < 2 * (R + C)) :
    ∃ h', f_X11_goes h0 (iI win) = some (iI (ray R C K M wt win S T L (-1)).1, h') ∧ RayM h0 h' R C K M wd (ray R C K M wt win S T L (-1)) := by
  obtain ⟨v1, v2, v3, v4, vK, vM⟩ := id hV
  unfold f_X11_goes
  rw [m_enters hh.1 hh.2.1 hwin v1 v3 v2 v4, cal_some, rZ0]
  simp only [nm_eq]
  obtain ⟨o1, o2, o3⟩ := ent_ok (R := R) (C := C) (win := win) v1 v3 hwin
  obtain ⟨X, eX⟩ : ∃ X, X = ray R C K M wt win S T L (-1) := ⟨_, rfl⟩
  rw [← eX]
  have eX' := eX
  unfold ray at eX'
  obtain ⟨N, hN⟩ : ∃ N : Nat, N = 1000000 := ⟨_, rfl⟩
  obtain ⟨F5, hF5⟩ : ∃ F5 : Nat, F5 = 5000 := ⟨_, rfl⟩
  rw [← hN]
  rw [← hF5] at eX'
  refine lo2_t (fun f x4 h =>
    (x4 = iI 0 ∧ ∃ g r c w S T L th se n sw, f = g + 1 ∧ n + g = 5000 ∧ r < R ∧ c < C ∧ w < 4 ∧ rayF R C K M wt g r c w S T L th se n sw = X ∧ RayM h0 h R C K M wd (0, S, T, L, th, se, n, sw) ∧ gI h 72 7 = iI (r : Nat) ∧ gI h 72 8 = iI (c : Nat) ∧ gI h 72 9 = iI (w : Nat)) ∨
    (x4 = iI 0 ∧ f = 0 ∧ RayM h0 h R C K M wd X ∧ f_X11_isOut h = some (iI 1) ∧ f_X11_windowThere h = some (iI X.1)) ∨
    (x4 = iI 1 ∧ X.1 = 100 ∧ RayM h0 h R C K M wd X)) (fun o => ∃ h', o = some (iI X.1, h') ∧ RayM h0 h' R C K M wd X) ?_ N (F5 + 1) _ _ (by omega) ?_
  · rintro f x4 h (⟨rfl, g, r, c, w, S, T, L, th, se, n, sw, hf, hng, hr, hc, hw, hX, hRM, f7, f8, f9⟩ | ⟨rfl, hf, hRM, hO, hW⟩ | ⟨rfl, hX, hRM⟩) Kc
    · obtain ⟨hh, hD, f11, f15, f10, f14, fF⟩ := id hRM
      dsimp only at hh hD f11 f15 f10 f14
      have hq := hV.q hr hc
      have hqs : r * C + c < R * C := sq_lt hr hc
      right
      unfold f_X11_goes_k6 f_X11_goes_k11
      rw [join_eq, m_isOut f7 f8 hh.1 hh.2.1 (by omega) (by omega) v2 v4, cal_some, decide_eq_false (by omega), bn_false]
      simp only [join_eq]
      rw [if_neg (by decide), if_neg (by decide), f10]
      have e5 : (iI n = iI 5000) = ((n : Int) = 5000) := iI_eq ⟨by omega, by omega⟩
      cases g with
      | zero =>
        unfold rayF at hX
        refine ⟨0, iI 1, h, by omega, Or.inr (Or.inr ⟨rfl, by rw [← hX], by rw [← hX]; exact hRM⟩), ?_⟩
        rw [if_neg (fun z => z (by rw [e5]; omega)), if_pos (by decide), if_pos (by decide)]
      | succ g =>
        have hn : n < 5000 := by omega
        have hl9 : min 9999 (L (r * C + c) + 1) ≤ 9999 := Nat.min_le_left _ _
        rw [if_pos (fun z => by rw [e5] at z; omega), if_neg (by decide), ald_i (by omega) (by omega), show (1 : Int).toNat = 1 from rfl, hh.2.1, f7, f8, nm_eq, iI_mul, iI_add, show (C : Int) * (r : Int) + (c : Int) = ((r * C + c : Nat) : Int) by rw [Int.mul_comm]; rfl]
        have e12 : gI h 72 12 = iI wd := (fF.2.1 12 (by omega) (by omega) (by omega) (by omega) (by omega) (by omega) (by omega)).trans h12
        have e13 : gI h 72 13 = iI wt := (fF.2.1 13 (by omega) (by omega) (by omega) (by omega) (by omega) (by omega) (by omega)).trans h13
        have eS := m_sq (q := r * C + c) (n := n) (se := se) (sw := sw) (K14 := fun (x12 : Int32) (h13 : Mem) => if ¬ x12 = 0 then (Kc x12 h13) else (cal (f_X11_goesOn h13) fun h15 => Kc x12 h15)) hq hn e12 e13 f15 f14 f10 hwd hwt
        simp only [join_eq] at eS
        rw [eS]
        have hh2 : RM (sI (sI h 72 15 (bn (met wd (upB se (r * C + c) true)))) 72 14 (iI (if (n : Int) = wt then ((r * C + c : Nat) : Int) else sw))) 73 R C K M S T L := rm_far (rm_far hh (by omega)) (by omega)
        obtain ⟨h2, r1, r2, r3, r4, r5, r6, r7⟩ := m_comes (q := r * C + c) (w := w) (n := n) (th := th) hh2 hq (vK _) (vM _) (hD.1 _) (hD.2.1 _) (by rw [gI_ne (by omega), gI_ne (by omega)]; exact f9) (by rw [gI_ne (by omega), gI_ne (by omega)]; exact f10) (by rw [gI_ne (by omega), gI_ne (by omega)]; exact f11) hw
        rw [r1, cal2_some]
        have g15 : gI h2 72 15 = bn (met wd (upB se (r * C + c) true)) := by rw [r6 _ (by omega) (by omega) (by omega), gI_ne (by omega), gI_same]
        have g14 : gI h2 72 14 = iI (if (n : Int) = wt then ((r * C + c : Nat) : Int) else sw) := by rw [r6 _ (by omega) (by omega) (by omega), gI_same]
        have gF : FrM h0 h2 := fF.tr (((FrM.fld (by omega)).tr (FrM.fld (by omega))).tr r7)
        have g7 : gI h2 72 7 = iI r := by rw [r6 _ (by omega) (by omega) (by omega), gI_ne (by omega), gI_ne (by omega)]; exact f7
        have g8 : gI h2 72 8 = iI c := by rw [r6 _ (by omega) (by omega) (by omega), gI_ne (by omega), gI_ne (by omega)]; exact f8
        have hD1 := VD.step2 (k := K (r * C + c)) (s := turnS (K (r * C + c)) (M (r * C + c)) (S (r * C + c)) (T (r * C + c))) (x := thr (K (r * C + c))) hD hqs hl9
        unfold rayF at hX
        dsimp only at hX
        cases hst : stp (K (r * C + c))
        · rw [if_neg (by rw [hst]; exact Bool.false_ne_true)] at hX
          rw [bn_false, if_neg (by decide)]
          have hw1 : (if thr (K (r * C + c)) then bend w (S (r * C + c)) else w) < 4 := by
            split
            · exact bend_lt hw
            · exact hw
          generalize (if thr (K (r * C + c)) then bend w (S (r * C + c)) else w) = w1 at hX r3 hw1
          rw [m_goesOn g7 g8 r3 hw1, cal_some]
          generalize hh3 : sI (sI h2 72 7 (iI (if w1 = 0 then (r : Int) - 1 else if w1 = 2 then (r : Int) + 1 else r))) 72 8 (iI (if w1 = 1 then (c : Int) + 1 else if w1 = 3 then (c : Int) - 1 else c)) = h3
          have hR3 : RayM h0 h3 R C K M wd (0, (if thr (K (r * C + c)) then upB S (r * C + c) (turnS (K (r * C + c)) (M (r * C + c)) (S (r * C + c)) (T (r * C + c))) else S), (if thr (K (r * C + c)) then upN T (r * C + c) (turnT (K (r * C + c)) (M (r * C + c)) (T (r * C + c))) else T), (upN L (r * C + c) (min 9999 (L (r * C + c) + 1))), (if thr (K (r * C + c)) then th + 1 else th), upB se (r * C + c) true, n + 1, (if (n : Int) = wt then ((r * C + c : Nat) : Int) else sw)) := by
            rw [← hh3]
            exact ⟨rm_far (rm_far r2 (by omega)) (by omega), hD1, by rw [gI_ne (by omega), gI_ne (by omega)]; exact r5, by rw [gI_ne (by omega), gI_ne (by omega)]; exact g15, by rw [gI_ne (by omega), gI_ne (by omega)]; exact r4, by rw [gI_ne (by omega), gI_ne (by omega)]; exact g14, gF.tr ((FrM.fld (by omega)).tr (FrM.fld (by omega)))⟩
          have k7 : gI h3 72 7 = iI (if w1 = 0 then (r : Int) - 1 else if w1 = 2 then (r : Int) + 1 else r) := by rw [← hh3, gI_ne (by omega), gI_same]
          have k8 : gI h3 72 8 = iI (if w1 = 1 then (c : Int) + 1 else if w1 = 3 then (c : Int) - 1 else c) := by rw [← hh3, gI_same]
          have k9 : gI h3 72 9 = iI w1 := by rw [← hh3, gI_ne (by omega), gI_ne (by omega)]; exact r3
          have kR := hR3.1.1
          have kC := hR3.1.2.1
          generalize (if thr (K (r * C + c)) then upB S (r * C + c) (turnS (K (r * C + c)) (M (r * C + c)) (S (r * C + c)) (T (r * C + c))) else S) = S1 at hX hR3
          generalize (if thr (K (r * C + c)) then upN T (r * C + c) (turnT (K (r * C + c)) (M (r * C + c)) (T (r * C + c))) else T) = T1 at hX hR3
          generalize (if thr (K (r * C + c)) then th + 1 else th) = th1 at hX hR3
          generalize (if (n : Int) = wt then ((r * C + c : Nat) : Int) else sw) = sw1 at hX hR3
          rcases (show w1 = 0 ∨ w1 = 1 ∨ w1 = 2 ∨ w1 = 3 by omega) with rfl | rfl | rfl | rfl
          · simp only [if_true] at hX
            have k7' : gI h3 72 7 = iI ((r : Int) - 1) := k7
            have k8' : gI h3 72 8 = iI c := k8
            by_cases e : r = 0
            · rw [if_pos e] at hX
              refine ⟨0, iI 0, h3, by omega, Or.inr (Or.inl ⟨rfl, rfl, by rw [← hX]; exact hR3, ?_, ?_⟩), rfl⟩
              · rw [m_isOut k7' k8' kR kC (by omega) (by omega) v2 v4, decide_eq_true (by omega)]; rfl
              · rw [m_window k7' k8' k9 hw1 kR kC, ← hX]; rfl
            · rw [if_neg e] at hX
              exact ⟨g + 1, iI 0, h3, by omega, Or.inl ⟨rfl, g, r - 1, c, 0, S1, T1, _, th1, _, n + 1, sw1, rfl, by omega, by omega, hc, hw1, hX, hR3, by rw [k7']; congr 1; omega, k8', k9⟩, rfl⟩
          · simp only [show ¬ (1 = 0) by omega, if_true, if_false] at hX
            have k7' : gI h3 72 7 = iI r := k7
            have k8' : gI h3 72 8 = iI ((c : Int) + 1) := k8
            by_cases e : c + 1 = C
            · rw [if_pos e] at hX
              refine ⟨0, iI 0, h3, by omega, Or.inr (Or.inl ⟨rfl, rfl, by rw [← hX]; exact hR3, ?_, ?_⟩), rfl⟩
              · rw [m_isOut k7' k8' kR kC (by omega) (by omega) v2 v4, decide_eq_true (by omega)]; rfl
              · rw [m_window k7' k8' k9 hw1 kR kC, ← hX]; rfl
            · rw [if_neg e] at hX
              exact ⟨g + 1, iI 0, h3, by omega, Or.inl ⟨rfl, g, r, c + 1, 1, S1, T1, _, th1, _, n + 1, sw1, rfl, by omega, hr, by omega, hw1, hX, hR3, k7', k8', k9⟩, rfl⟩
          · simp only [show ¬ (2 = 0) by omega, show ¬ (2 = 1) by omega, if_true, if_false] at hX
            have k7' : gI h3 72 7 = iI ((r : Int) + 1) := k7
            have k8' : gI h3 72 8 = iI c := k8
            by_cases e : r + 1 = R
            · rw [if_pos e] at hX
              refine ⟨0, iI 0, h3, by omega, Or.inr (Or.inl ⟨rfl, rfl, by rw [← hX]; exact hR3, ?_, ?_⟩), rfl⟩
              · rw [m_isOut k7' k8' kR kC (by omega) (by omega) v2 v4, decide_eq_true (by omega)]; rfl
              · rw [m_window k7' k8' k9 hw1 kR kC, ← hX]; rfl
            · rw [if_neg e] at hX
              exact ⟨g + 1, iI 0, h3, by omega, Or.inl ⟨rfl, g, r + 1, c, 2, S1, T1, _, th1, _, n + 1, sw1, rfl, by omega, by omega, hc, hw1, hX, hR3, k7', k8', k9⟩, rfl⟩
          · simp only [show ¬ (3 = 0) by omega, show ¬ (3 = 1) by omega, show ¬ (3 = 2) by omega, if_false] at hX
            have k7' : gI h3 72 7 = iI r := k7
            have k8' : gI h3 72 8 = iI ((c : Int) - 1) := k8
            by_cases e : c = 0
            · rw [if_pos e] at hX
              refine ⟨0, iI 0, h3, by omega, Or.inr (Or.inl ⟨rfl, rfl, by rw [← hX]; exact hR3, ?_, ?_⟩), rfl⟩
              · rw [m_isOut k7' k8' kR kC (by omega) (by omega) v2 v4, decide_eq_true (by omega)]; rfl
              · rw [m_window k7' k8' k9 hw1 kR kC, ← hX]; rfl
            · rw [if_neg e] at hX
              exact ⟨g + 1, iI 0, h3, by omega, Or.inl ⟨rfl, g, r, c - 1, 3, S1, T1, _, th1, _, n + 1, sw1, rfl, by omega, hr, by omega, hw1, hX, hR3, k7', by rw [k8']; congr 1; omega, k9⟩, rfl⟩
        · rw [if_pos hst] at hX
          rw [bn_true, if_pos (by decide)]
          have ht := stp_thr hst
          rw [ht] at r2 r5
          refine ⟨0, iI 1, h2, by omega, Or.inr (Or.inr ⟨rfl, by rw [← hX], ?_⟩), rfl⟩
          rw [← hX]
          exact ⟨r2, hD.lit hl9, r5, g15, r4, g14, gF⟩
    · left
      unfold f_X11_goes_k6
      rw [join_eq, hO, cal_some, hW, cal_some, if_neg (by decide), if_pos (by decide), if_pos (by decide)]
      exact ⟨_, rfl, h, rfl, hRM⟩
    · left
      unfold f_X11_goes_k6
      rw [join_eq, if_pos (by decide), if_neg (by decide)]
      exact ⟨_, rfl, h, by rw [hX]; rfl, hRM⟩
  · refine Or.inl ⟨rfl, F5, entR R C win, entC R C win, entW R C win, S, T, L, 0, fun _ => false, 0, -1, rfl, by omega, o1, o2, o3, eX'.symm, ⟨rm_far (rm_far (rm_far (rm_far (rm_far (rm_far (rm_far hh (by omega)) (by omega)) (by omega)) (by omega)) (by omega)) (by omega)) (by omega), hD, ?_, ?_, ?_, ?_, ?_⟩, ?_, ?_, ?_⟩
    · rw [gI_ne (by omega), gI_ne (by omega), gI_ne (by omega), gI_ne (by omega), gI_ne (by omega), gI_same]; rfl
    · rw [gI_ne (by omega), gI_same]; unfold met; split <;> rfl
    · rw [gI_ne (by omega), gI_ne (by omega), gI_ne (by omega), gI_ne (by omega), gI_ne (by omega), gI_ne (by omega), gI_same]; rfl
    · rw [gI_same]
    · exact (FrM.fld (by omega)).tr ((FrM.fld (by omega)).tr ((FrM.fld (by omega)).tr ((FrM.fld (by omega)).tr ((FrM.fld (by omega)).tr ((FrM.fld (by omega)).tr (FrM.fld (by omega)))))))
    · rw [gI_ne (by omega), gI_ne (by omega), gI_ne (by omega), gI_ne (by omega), gI_same]
    · rw [gI_ne (by omega), gI_ne (by omega), gI_ne (by omega), gI_same]
    · rw [gI_ne (by omega), gI_ne (by omega), gI_same]
end MGOES
