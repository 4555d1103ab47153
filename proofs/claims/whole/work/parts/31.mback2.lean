section MUNDO
variable {h0 : Mem} {R C : Nat} {K M : Nat → Nat}
def BackM (h0 h : Mem) (R C : Nat) (K M : Nat → Nat) (x : BES) : Prop :=
  RM h 73 R C K M x.2.1 x.2.2.1 x.2.2.2 ∧ VD R C M x.2.1 x.2.2.1 x.2.2.2 ∧ FrM h0 h
/-- one square taken back -/
theorem m_bsq (hV : VS R C K M) {h : Mem} {S : Nat → Bool} {T L : Nat → Nat} {r c w n out : Nat} {Kc : Int32 → Mem → Option (Int32 × Mem)} (hB : BackM h0 h R C K M (out, S, T, L)) (f7 : gI h 72 7 = iI r) (f8 : gI h 72 8 = iI c) (f9 : gI h 72 9 = iI w) (f10 : gI h 72 10 = iI n) (hr : r < R) (hc : c < C) (hw : w < 4) (hn : n ≤ 5000) :
    ((stp (K (r * C + c)) = true ∨ n = 5000) ∧ f_X11_undo_k6 (iI 1) h Kc = Kc (iI 0) h) ∨
    (stp (K (r * C + c)) = false ∧ n < 5000 ∧ ∃ h', f_X11_undo_k6 (iI 1) h Kc = (cal (f_X11_goesOn h') fun h20 => Kc (iI 1) h20) ∧
      BackM h0 h' R C K M (out, (if thr (K (r * C + c)) then upB S (r * C + c) (backS (K (r * C + c)) (S (r * C + c)) (T (r * C + c))) else S), (if thr (K (r * C + c)) then upN T (r * C + c) (backT (K (r * C + c)) (M (r * C + c)) (T (r * C + c))) else T), (upN L (r * C + c) (L (r * C + c) - 1))) ∧
      gI h' 72 7 = iI r ∧ gI h' 72 8 = iI c ∧ gI h' 72 9 = iI (if thr (K (r * C + c)) then bend w (backS (K (r * C + c)) (S (r * C + c)) (T (r * C + c))) else w : Nat) ∧ gI h' 72 10 = iI (n + 1 : Nat)) := by
  obtain ⟨hh, hD, hF⟩ := hB
  dsimp only at hh hD
  have hq : r * C + c < 25 := hV.q hr hc
  have hqs : r * C + c < R * C := sq_lt hr hc
  obtain ⟨v1, v2, v3, v4, vK, vM⟩ := hV
  unfold f_X11_undo_k6
  rw [join_eq, if_neg (by decide), m_isOut f7 f8 hh.1 hh.2.1 (by omega) (by omega) v2 v4, cal_some, decide_eq_false (by omega), bn_false, if_neg (by decide), ald_i (by omega) (by omega), show (1 : Int).toNat = 1 from rfl, hh.2.1, f7, f8, nm_eq, iI_mul, iI_add, show (C : Int) * (r : Int) + (c : Int) = ((r * C + c : Nat) : Int) by rw [Int.mul_comm]; rfl]
  have hL9 := hD.2.1 (r * C + c)
  generalize r * C + c = q at hq hqs hL9 ⊢
  rw [m_stops hh hq (vK q), cal_some, join_eq, join_eq, f10]
  have e5 : (iI 5000 ≤ iI n) = ((5000 : Int) ≤ n) := iI_le ⟨by omega, by omega⟩
  cases hst : stp (K q)
  · rw [bn_false, if_neg (by decide)]
    by_cases e : n = 5000
    · left
      rw [if_pos (by rw [e5]; omega)]
      exact ⟨Or.inr e, rfl⟩
    · right
      refine ⟨rfl, by omega, ?_⟩
      rw [if_neg (by rw [e5]; omega)]
      unfold f_X11_undo_k17
      rw [if_neg (by decide), nm_eq, f10, iI_add, nz_i (by omega), gI_ne (by omega), f9, iI_add, iI_rem (by omega) (by omega), show ((w : Int) + 2) % 4 = (((w + 2) % 4 : Nat) : Int) by omega]
      have hA : RM (sI h 72 10 (iI ((n : Int) + 1))) 73 R C K M S T L := rm_far hh (by omega)
      obtain ⟨h2, e1, e2, e3, e4⟩ := m_comesBack hA hq (vK q) (vM q) (hD.1 q) hL9 hw
      rw [e1, cal_some]
      refine ⟨_, rfl, ⟨rm_far e2 (by omega), VD.back hD hqs (by omega), (hF.tr (FrM.fld (by omega))).tr (e4.tr (FrM.fld (by omega)))⟩, ?_, ?_, ?_, ?_⟩
      · rw [gI_ne (by omega), e3, gI_ne (by omega)]; exact f7
      · rw [gI_ne (by omega), e3, gI_ne (by omega)]; exact f8
      · rw [gI_same]
      · rw [gI_ne (by omega), e3, gI_same]; rfl
  · left
    rw [bn_true, if_pos (by decide)]
    exact ⟨Or.inl rfl, rfl⟩
theorem m_back (hV : VS R C K M) {S : Nat → Bool} {T L : Nat → Nat} {win : Nat} (hh : RM h0 73 R C K M S T L) (hD : VD R C M S T L) (hwin : win < 2 * (R + C)) :
    ∃ o, (cal (f_X11_enters h0 (iI win)) fun h3 => lo2 f_X11_undo_k6 1000000 (iI 1) h3) = o ∧
      (((bay R C K M win S T L).1 < 100 ∧ ∃ h', o = some (iI (bay R C K M win S T L).1, h') ∧ BackM h0 h' R C K M (bay R C K M win S T L)) ∨
       ((bay R C K M win S T L).1 = 100 ∧ ∃ h', o = f_X11_undo_k7 (iI 0) h' ∧ FrM h0 h')) := by
  obtain ⟨v1, v2, v3, v4, vK, vM⟩ := id hV
  refine ⟨_, rfl, ?_⟩
  rw [m_enters hh.1 hh.2.1 hwin v1 v3 v2 v4, cal_some]
  obtain ⟨o1, o2, o3⟩ := ent_ok (R := R) (C := C) (win := win) v1 v3 hwin
  obtain ⟨X, eX⟩ : ∃ X, X = bay R C K M win S T L := ⟨_, rfl⟩
  rw [← eX]
  have eX' := eX
  unfold bay at eX'
  obtain ⟨N, hN⟩ : ∃ N : Nat, N = 1000000 := ⟨_, rfl⟩
  obtain ⟨F5, hF5⟩ : ∃ F5 : Nat, F5 = 5000 := ⟨_, rfl⟩
  rw [← hN]
  rw [← hF5] at eX'
  refine lo2_t (fun f x4 h =>
    (x4 = iI 1 ∧ ∃ g r c w S T L n, f = g + 1 ∧ n + g = 5000 ∧ r < R ∧ c < C ∧ w < 4 ∧ bayF R C K M g r c w S T L = X ∧ BackM h0 h R C K M (0, S, T, L) ∧ gI h 72 7 = iI (r : Nat) ∧ gI h 72 8 = iI (c : Nat) ∧ gI h 72 9 = iI (w : Nat) ∧ gI h 72 10 = iI (n : Nat)) ∨
    (x4 = iI 1 ∧ f = 0 ∧ X.1 < 100 ∧ BackM h0 h R C K M X ∧ f_X11_isOut h = some (iI 1) ∧ f_X11_windowThere h = some (iI X.1)) ∨
    (x4 = iI 0 ∧ X.1 = 100 ∧ FrM h0 h)) (fun o => (X.1 < 100 ∧ ∃ h', o = some (iI X.1, h') ∧ BackM h0 h' R C K M X) ∨ (X.1 = 100 ∧ ∃ h', o = f_X11_undo_k7 (iI 0) h' ∧ FrM h0 h')) ?_ N (F5 + 1) _ _ (by omega) ?_
  · rintro f x4 h (⟨rfl, g, r, c, w, S, T, L, n, hf, hng, hr, hc, hw, hX, hB, f7, f8, f9, f10⟩ | ⟨rfl, hf, hX1, hB, hO, hW⟩ | ⟨rfl, hX, hFr⟩) Kc
    · right
      rcases m_bsq (Kc := Kc) hV hB f7 f8 f9 f10 hr hc hw (by omega) with ⟨hst, e1⟩ | ⟨hst, hn, h', e1, e2, g7, g8, g9, g10⟩
      · refine ⟨0, iI 0, h, by omega, Or.inr (Or.inr ⟨rfl, ?_, hB.2.2⟩), e1⟩
        cases g with
        | zero => unfold bayF at hX; rw [← hX]
        | succ g =>
          unfold bayF at hX
          rw [if_pos (hst.resolve_right (by omega))] at hX
          rw [← hX]
      · cases g with
        | zero => omega
        | succ g =>
          unfold bayF at hX
          rw [if_neg (by rw [hst]; exact Bool.false_ne_true)] at hX
          have hw1 : (if thr (K (r * C + c)) then bend w (backS (K (r * C + c)) (S (r * C + c)) (T (r * C + c))) else w) < 4 := by
            split
            · exact bend_lt hw
            · exact hw
          generalize (if thr (K (r * C + c)) then bend w (backS (K (r * C + c)) (S (r * C + c)) (T (r * C + c))) else w) = w1 at hX g9 hw1
          rw [e1, m_goesOn g7 g8 g9 hw1, cal_some]
          generalize hh3 : sI (sI h' 72 7 (iI (if w1 = 0 then (r : Int) - 1 else if w1 = 2 then (r : Int) + 1 else r))) 72 8 (iI (if w1 = 1 then (c : Int) + 1 else if w1 = 3 then (c : Int) - 1 else c)) = h3
          have hB3 : BackM h0 h3 R C K M (0, (if thr (K (r * C + c)) then upB S (r * C + c) (backS (K (r * C + c)) (S (r * C + c)) (T (r * C + c))) else S), (if thr (K (r * C + c)) then upN T (r * C + c) (backT (K (r * C + c)) (M (r * C + c)) (T (r * C + c))) else T), (upN L (r * C + c) (L (r * C + c) - 1))) := by
            rw [← hh3]
            exact ⟨rm_far (rm_far e2.1 (by omega)) (by omega), e2.2.1, e2.2.2.tr ((FrM.fld (by omega)).tr (FrM.fld (by omega)))⟩
          have k7 : gI h3 72 7 = iI (if w1 = 0 then (r : Int) - 1 else if w1 = 2 then (r : Int) + 1 else r) := by rw [← hh3, gI_ne (by omega), gI_same]
          have k8 : gI h3 72 8 = iI (if w1 = 1 then (c : Int) + 1 else if w1 = 3 then (c : Int) - 1 else c) := by rw [← hh3, gI_same]
          have k9 : gI h3 72 9 = iI w1 := by rw [← hh3, gI_ne (by omega), gI_ne (by omega)]; exact g9
          have k10 : gI h3 72 10 = iI (n + 1 : Nat) := by rw [← hh3, gI_ne (by omega), gI_ne (by omega)]; exact g10
          have kR := hB3.1.1
          have kC := hB3.1.2.1
          generalize (if thr (K (r * C + c)) then upB S (r * C + c) (backS (K (r * C + c)) (S (r * C + c)) (T (r * C + c))) else S) = S1 at hX hB3
          generalize (if thr (K (r * C + c)) then upN T (r * C + c) (backT (K (r * C + c)) (M (r * C + c)) (T (r * C + c))) else T) = T1 at hX hB3
          unfold nextF at hX
          rcases (show w1 = 0 ∨ w1 = 1 ∨ w1 = 2 ∨ w1 = 3 by omega) with rfl | rfl | rfl | rfl
          · simp only [if_true] at hX
            have k7' : gI h3 72 7 = iI ((r : Int) - 1) := k7
            have k8' : gI h3 72 8 = iI c := k8
            by_cases e : r = 0
            · rw [if_pos e] at hX
              refine ⟨0, iI 1, h3, by omega, Or.inr (Or.inl ⟨rfl, rfl, by rw [← hX]; dsimp only; omega, by rw [← hX]; exact hB3, ?_, ?_⟩), rfl⟩
              · rw [m_isOut k7' k8' kR kC (by omega) (by omega) v2 v4, decide_eq_true (by omega)]; rfl
              · rw [m_window k7' k8' k9 hw1 kR kC, ← hX]; rfl
            · rw [if_neg e] at hX
              exact ⟨g + 1, iI 1, h3, by omega, Or.inl ⟨rfl, g, r - 1, c, 0, S1, T1, _, n + 1, rfl, by omega, by omega, hc, hw1, hX, hB3, by rw [k7']; congr 1; omega, k8', k9, k10⟩, rfl⟩
          · simp only [show ¬ (1 = 0) by omega, if_true, if_false] at hX
            have k7' : gI h3 72 7 = iI r := k7
            have k8' : gI h3 72 8 = iI ((c : Int) + 1) := k8
            by_cases e : c + 1 = C
            · rw [if_pos e] at hX
              refine ⟨0, iI 1, h3, by omega, Or.inr (Or.inl ⟨rfl, rfl, by rw [← hX]; dsimp only; omega, by rw [← hX]; exact hB3, ?_, ?_⟩), rfl⟩
              · rw [m_isOut k7' k8' kR kC (by omega) (by omega) v2 v4, decide_eq_true (by omega)]; rfl
              · rw [m_window k7' k8' k9 hw1 kR kC, ← hX]; rfl
            · rw [if_neg e] at hX
              exact ⟨g + 1, iI 1, h3, by omega, Or.inl ⟨rfl, g, r, c + 1, 1, S1, T1, _, n + 1, rfl, by omega, hr, by omega, hw1, hX, hB3, k7', k8', k9, k10⟩, rfl⟩
          · simp only [show ¬ (2 = 0) by omega, show ¬ (2 = 1) by omega, if_true, if_false] at hX
            have k7' : gI h3 72 7 = iI ((r : Int) + 1) := k7
            have k8' : gI h3 72 8 = iI c := k8
            by_cases e : r + 1 = R
            · rw [if_pos e] at hX
              refine ⟨0, iI 1, h3, by omega, Or.inr (Or.inl ⟨rfl, rfl, by rw [← hX]; dsimp only; omega, by rw [← hX]; exact hB3, ?_, ?_⟩), rfl⟩
              · rw [m_isOut k7' k8' kR kC (by omega) (by omega) v2 v4, decide_eq_true (by omega)]; rfl
              · rw [m_window k7' k8' k9 hw1 kR kC, ← hX]; rfl
            · rw [if_neg e] at hX
              exact ⟨g + 1, iI 1, h3, by omega, Or.inl ⟨rfl, g, r + 1, c, 2, S1, T1, _, n + 1, rfl, by omega, by omega, hc, hw1, hX, hB3, k7', k8', k9, k10⟩, rfl⟩
          · simp only [show ¬ (3 = 0) by omega, show ¬ (3 = 1) by omega, show ¬ (3 = 2) by omega, if_false] at hX
            have k7' : gI h3 72 7 = iI r := k7
            have k8' : gI h3 72 8 = iI ((c : Int) - 1) := k8
            by_cases e : c = 0
            · rw [if_pos e] at hX
              refine ⟨0, iI 1, h3, by omega, Or.inr (Or.inl ⟨rfl, rfl, by rw [← hX]; dsimp only; omega, by rw [← hX]; exact hB3, ?_, ?_⟩), rfl⟩
              · rw [m_isOut k7' k8' kR kC (by omega) (by omega) v2 v4, decide_eq_true (by omega)]; rfl
              · rw [m_window k7' k8' k9 hw1 kR kC, ← hX]; rfl
            · rw [if_neg e] at hX
              exact ⟨g + 1, iI 1, h3, by omega, Or.inl ⟨rfl, g, r, c - 1, 3, S1, T1, _, n + 1, rfl, by omega, hr, by omega, hw1, hX, hB3, k7', by rw [k8']; congr 1; omega, k9, k10⟩, rfl⟩
    · left
      unfold f_X11_undo_k6 f_X11_undo_k7
      rw [join_eq, if_neg (by decide), hO, cal_some, hW, cal_some, if_pos (by decide), if_pos (by decide)]
      exact ⟨_, rfl, Or.inl ⟨hX1, h, rfl, hB⟩⟩
    · left
      unfold f_X11_undo_k6
      rw [join_eq, if_pos (by decide)]
      exact ⟨_, rfl, Or.inr ⟨hX, h, rfl, hFr⟩⟩
  · refine Or.inl ⟨rfl, F5, entR R C win, entC R C win, entW R C win, S, T, L, 0, rfl, by omega, o1, o2, o3, eX'.symm, ⟨rm_far (rm_far (rm_far (rm_far (rm_far hh (by omega)) (by omega)) (by omega)) (by omega)) (by omega), hD, ?_⟩, ?_, ?_, ?_, ?_⟩
    · exact (FrM.fld (by omega)).tr ((FrM.fld (by omega)).tr ((FrM.fld (by omega)).tr ((FrM.fld (by omega)).tr (FrM.fld (by omega)))))
    · rw [gI_ne (by omega), gI_ne (by omega), gI_same]
    · rw [gI_ne (by omega), gI_same]
    · rw [gI_same]
    · rw [gI_ne (by omega), gI_ne (by omega), gI_ne (by omega), gI_ne (by omega), gI_same]; rfl
end MUNDO
