section WALKM2
variable {h : Mem} {u p D : Nat} {l : List Int32} {a b c : Int32}
theorem m_number (hW : WkM h u l p D a b c true) (hd : isDg (byA l p) = true) : REM h u l D a b c (f_X11_number h) (false, (nuA l 4 p (iI 0)).1, [(nuA l 4 p (iI 0)).2], fun _ _ _ => (nuA l 4 p (iI 0)).2) := by
  obtain ⟨X, hX⟩ : ∃ X, X = nuA l 4 p (iI 0) := ⟨_, rfl⟩
  rw [← hX]
  unfold f_X11_number
  obtain ⟨N', hN⟩ : ∃ N' : Nat, N' = 1000000 := ⟨_, rfl⟩
  rw [← hN]
  refine lo3_t (fun f x1 x2 m => ∃ (i q : Nat), x2 = iI i ∧ i + f = 4 ∧ nuA l f q x1 = X ∧ WkM m u l q D a b c true ∧ FrW h m) (fun o => REM h u l D a b c o (false, X.1, [X.2], fun _ _ _ => X.2)) ?_ N' 4 _ _ _ (by omega) ⟨0, p, rfl, by omega, hX.symm, hW, FrW.rf⟩
  rintro f x1 x2 m ⟨i, q, rfl, hf, hL, hD, hF⟩ Kc
  unfold f_X11_number_k4
  have e : (iI 4 ≤ iI i) = ((4 : Int) ≤ i) := iI_le ⟨by omega, by omega⟩
  by_cases hi : i = 4
  · left
    have hXq : X = (q, x1) := by rw [← hL, show f = 0 by omega]; rfl
    rw [if_pos (by rw [e]; omega), hXq]
    exact ⟨_, rfl, x1, m, rfl, hD, hF, fun _ => rfl⟩
  · obtain ⟨f', rfl⟩ : ∃ f', f = f' + 1 := ⟨f - 1, by omega⟩
    unfold nuA at hL
    rw [if_neg (by rw [e]; omega), m_byteAt hD, cal_some, m_isDigit, cal_some]
    by_cases hd2 : isDg (byA l q) = true
    · right
      rw [if_pos hd2] at hL
      rw [hd2, bn_true, if_neg (by decide), cal_some, nm_eq, nm_eq, hD.2.2.1, show iI (q : Int) + iI 1 = iI ((q + 1 : Nat) : Int) from iI_add _ _, nm_eq, iI_add, Int32.mul_comm (iI 10) x1]
      exact ⟨f', _, _, _, Nat.lt_succ_self f', ⟨i + 1, q + 1, rfl, by omega, hL, hD.on (isDg_lt hd2), hF.tr (FrW.fld (by omega))⟩, rfl⟩
    · left
      rw [if_neg hd2] at hL
      rw [show isDg (byA l q) = false by simpa using hd2, bn_false, if_pos (by decide), ← hL]
      exact ⟨_, rfl, x1, m, rfl, hD, hF, fun _ => rfl⟩
theorem m_named {P : RPS} (hW : WkM h u l p D a b c true) (hP : P = if byA l p = nmA u 0 then (false, p + 1, [iI (-1)], fun a _ _ => a) else if byA l p = nmA u 1 then (false, p + 1, [iI (-2)], fun _ b _ => b) else if byA l p = nmA u 2 then (false, p + 1, [iI (-3)], fun _ _ c => c) else (true, p, [], fun _ _ _ => iI 0)) : REM h u l D a b c (f_X11_named h (byA l p)) P := by
  obtain ⟨w1, w2, w3, w4, w5, w6, w7, w8, w9, w10, w11, w12, w13⟩ := id hW
  have i0 : ∀ {α : Type} (K : Int32 → α), (if ¬ (gI h 72 16) = 0 then K (iI 105) else K (iI 114)) = K (nmA u 0) := fun K => by
    rw [w1]
    rcases (show u = 0 ∨ u = 1 by omega) with rfl | rfl
    · exact if_neg (by decide)
    · exact if_pos (by decide)
  have i1 : ∀ {α : Type} (K : Int32 → α), (if ¬ (gI h 72 16) = 0 then K (iI 111) else K (iI 99)) = K (nmA u 1) := fun K => by
    rw [w1]
    rcases (show u = 0 ∨ u = 1 by omega) with rfl | rfl
    · exact if_neg (by decide)
    · exact if_pos (by decide)
  have i2 : ∀ {α : Type} (K : Int32 → α), (if ¬ (gI h 72 16) = 0 then K (iI 116) else K (iI 109)) = K (nmA u 2) := fun K => by
    rw [w1]
    rcases (show u = 0 ∨ u = 1 by omega) with rfl | rfl
    · exact if_neg (by decide)
    · exact if_pos (by decide)
  have b0 : ∀ {α : Type} (K : Int32 → α) (j : Nat), (if ¬ byA l p = nmA u j then K (iI 0) else K (iI 1)) = K (bn (decide (byA l p = nmA u j))) := fun K j => by
    by_cases e : byA l p = nmA u j
    · rw [if_neg (fun z => z e), decide_eq_true e]; rfl
    · rw [if_pos e, decide_eq_false e]; rfl
  have key : f_X11_named h (byA l p) = f_X11_named_k12 h (bn (decide (byA l p = nmA u 0))) (bn (decide (byA l p = nmA u 1))) (bn (decide (byA l p = nmA u 2))) := by
    unfold f_X11_named
    rw [join_eq]
    refine (i0 (fun x1 => (join ((f_X11_named_k4 h (byA l p))) fun (K4 : Int32 → Option (Int32 × Mem)) => if ¬ byA l p = x1 then (K4 (iI 0)) else (K4 (iI 1))))).trans ?_
    rw [join_eq]
    refine (b0 (f_X11_named_k4 h (byA l p)) 0).trans ?_
    unfold f_X11_named_k4
    rw [join_eq]
    refine (i1 (fun x5 => (join ((f_X11_named_k8 h (bn (decide (byA l p = nmA u 0))) (byA l p))) fun (K8 : Int32 → Option (Int32 × Mem)) => if ¬ byA l p = x5 then (K8 (iI 0)) else (K8 (iI 1))))).trans ?_
    rw [join_eq]
    refine (b0 (f_X11_named_k8 h (bn (decide (byA l p = nmA u 0))) (byA l p)) 1).trans ?_
    unfold f_X11_named_k8
    rw [join_eq]
    refine (i2 (fun x9 => (join ((f_X11_named_k12 h (bn (decide (byA l p = nmA u 0))) (bn (decide (byA l p = nmA u 1))))) fun (K12 : Int32 → Option (Int32 × Mem)) => if ¬ byA l p = x9 then (K12 (iI 0)) else (K12 (iI 1))))).trans ?_
    rw [join_eq]
    exact b0 (f_X11_named_k12 h (bn (decide (byA l p = nmA u 0))) (bn (decide (byA l p = nmA u 1)))) 2
  rw [key]
  unfold f_X11_named_k12 f_X11_named_k13
  rw [join_eq, nm_eq, w3, show iI (p : Int) + iI 1 = iI ((p + 1 : Nat) : Int) from iI_add _ _]
  have f20 : gI (sI h 72 17 (iI (p + 1 : Nat))) 72 20 = a := (gI_ne (by omega)).trans w6
  have f21 : gI (sI h 72 17 (iI (p + 1 : Nat))) 72 21 = b := (gI_ne (by omega)).trans w7
  have f22 : gI (sI h 72 17 (iI (p + 1 : Nat))) 72 22 = c := (gI_ne (by omega)).trans w8
  rw [f20, f21, f22]
  by_cases n0 : byA l p = nmA u 0
  · rw [if_pos n0] at hP
    have hlt : p < l.length := byA_lt (by rw [n0]; exact nmA_ne)
    rw [decide_eq_true n0, bn_true, if_pos (by decide), if_neg (by decide), hP]
    exact ⟨_, _, rfl, hW.on hlt, FrW.fld (by omega), fun _ => rfl⟩
  rw [if_neg n0] at hP
  rw [decide_eq_false n0, bn_false, if_neg (by decide)]
  by_cases n1 : byA l p = nmA u 1
  · rw [if_pos n1] at hP
    have hlt : p < l.length := byA_lt (by rw [n1]; exact nmA_ne)
    rw [decide_eq_true n1, bn_true, if_pos (by decide), if_pos (by decide), if_neg (by decide), hP]
    exact ⟨_, _, rfl, hW.on hlt, FrW.fld (by omega), fun _ => rfl⟩
  rw [if_neg n1] at hP
  rw [decide_eq_false n1, bn_false, if_neg (by decide)]
  by_cases n2 : byA l p = nmA u 2
  · rw [if_pos n2] at hP
    have hlt : p < l.length := byA_lt (by rw [n2]; exact nmA_ne)
    rw [decide_eq_true n2, bn_true, if_pos (by decide), if_pos (by decide), if_pos (by decide), hP]
    exact ⟨_, _, rfl, hW.on hlt, FrW.fld (by omega), fun _ => rfl⟩
  rw [if_neg n2] at hP
  rw [decide_eq_false n2, bn_false, if_neg (by decide), m_fails, cal2_some, hP]
  exact ⟨_, _, rfl, hW.fl, FrW.fld (by omega), fun q => absurd (show true = false from q) (by decide)⟩
theorem mpt_lv {B : Nat} (hleaf : ∀ N, B ≤ N → MPT u l D a b c (g_WALK N 0) (lfA u l D)) {N : Nat} (hN : B + 5 ≤ N) : MPT u l D a b c (g_WALK N 5) (lvA l (lfA u l D) 5) := by
  obtain ⟨N', rfl⟩ : ∃ N', N = N' + 1 + 1 + 1 + 1 + 1 := ⟨N - 5, by omega⟩
  have h0 := hleaf N' (by omega)
  have o := fun k => OKR.lv (OKR.leaf (u := u) (l := l) D) k
  exact mpt_whole (mpt_both (mpt_compared (mpt_sum (mpt_product h0 (o 0)) (o 1)) (o 2)) (o 3)) (o 4)
theorem mpt_leaf : ∀ (D : Nat), D ≤ 5 → ∀ N, 6 * D + 1 ≤ N → MPT u l D a b c (g_WALK N 0) (lfA u l D) := by
  intro D
  induction D with
  | zero =>
    intro _ N hN h p hW
    obtain ⟨N', rfl⟩ : ∃ N', N = N' + 1 := ⟨N - 1, by omega⟩
    show REM h u l 0 a b c (b_X11_factor (g_WALK N') h) (lfA u l 0 p)
    unfold b_X11_factor lfA
    rw [m_byteAt hW, cal_some, m_isDigit, cal_some]
    by_cases hd : isDg (byA l p) = true
    · rw [if_pos hd, hd, bn_true, if_neg (by decide), cal2_id]
      exact m_number hW hd
    · rw [if_neg hd, show isDg (byA l p) = false by simpa using hd, bn_false, if_pos (by decide), join_eq, cal2_id]
      by_cases ho : byA l p = iI 33 ∨ byA l p = iI 40
      · rw [if_pos ho]
        have e : (if byA l p = iI 33 then b_X11_factor_k3 h (byA l p) (g_WALK N') else if byA l p = iI 40 then b_X11_factor_k3 h (byA l p) (g_WALK N') else f_X11_named h (byA l p)) = b_X11_factor_k3 h (byA l p) (g_WALK N') := by
          rcases ho with q | q
          · rw [if_pos q]
          · rw [if_neg (by rw [q]; decide), if_pos q]
        rw [e]
        unfold b_X11_factor_k3
        rw [hW.2.2.2.1, if_neg (fun z => z rfl), m_fails, cal2_some]
        exact ⟨_, _, rfl, hW.fl, FrW.fld (by omega), fun q => absurd (show true = false from q) (by decide)⟩
      · rw [if_neg ho, if_neg (fun q => ho (Or.inl q)), if_neg (fun q => ho (Or.inr q))]
        exact m_named hW rfl
  | succ D ih =>
    intro hD5 N hN h p hW
    obtain ⟨N', rfl⟩ : ∃ N', N = N' + 1 := ⟨N - 1, by omega⟩
    show REM h u l (D + 1) a b c (b_X11_factor (g_WALK N') h) (lfA u l (D + 1) p)
    unfold b_X11_factor lfA
    rw [m_byteAt hW, cal_some, m_isDigit, cal_some]
    by_cases hd : isDg (byA l p) = true
    · rw [if_pos hd, hd, bn_true, if_neg (by decide), cal2_id]
      exact m_number hW hd
    · rw [if_neg hd, show isDg (byA l p) = false by simpa using hd, bn_false, if_pos (by decide), join_eq, cal2_id]
      by_cases ho : byA l p = iI 33 ∨ byA l p = iI 40
      · rw [if_pos ho]
        dsimp only
        have e : (if byA l p = iI 33 then b_X11_factor_k3 h (byA l p) (g_WALK N') else if byA l p = iI 40 then b_X11_factor_k3 h (byA l p) (g_WALK N') else f_X11_named h (byA l p)) = b_X11_factor_k3 h (byA l p) (g_WALK N') := by
          rcases ho with q | q
          · rw [if_pos q]
          · rw [if_neg (by rw [q]; decide), if_pos q]
        rw [e]
        unfold b_X11_factor_k3
        have hlt : p < l.length := byA_lt (by rcases ho with q | q <;> (rw [q]; decide))
        have e5 : (iI (5 - ((D + 1 : Nat) : Int)) = iI 5) = ((5 : Int) - ((D + 1 : Nat) : Int) = 5) := iI_eq ⟨by omega, by omega⟩
        have hW2 := (hW.dp (D2 := D) (by omega)).on hlt
        have f17 : gI (sI h 72 19 (iI (5 - (D : Int)))) 72 17 = iI p := (gI_ne (by omega)).trans hW.2.2.1
        have hF2 : FrW h (sI (sI h 72 19 (iI (5 - (D : Int)))) 72 17 (iI (p + 1 : Nat))) := (FrW.fld (by omega)).tr (FrW.fld (by omega))
        rw [hW.2.2.2.1, if_pos (by rw [e5]; omega), iI_add, nm_eq, show (5 : Int) - ((D + 1 : Nat) : Int) + 1 = 5 - (D : Int) by omega, f17, nm_eq, join_eq, show iI (p : Int) + iI 1 = iI ((p + 1 : Nat) : Int) from iI_add _ _]
        have hleaf : ∀ N, 6 * D + 1 ≤ N → MPT u l D a b c (g_WALK N 0) (lfA u l D) := fun N hN => ih (by omega) N hN
        by_cases h33 : byA l p = iI 33
        · rw [if_pos h33, if_neg (fun z => z h33)]
          obtain ⟨v2, m2, s1, s2, s3, s4⟩ := hleaf N' (by omega) _ (p + 1) hW2
          rw [s1, cal2_some]
          unfold b_X11_factor_k8
          rw [s2.2.2.2.1, iI_sub, nm_eq, if_neg (fun z => z h33), show (5 : Int) - (D : Int) - 1 = 5 - ((D + 1 : Nat) : Int) by omega]
          have hW3 := s2.dp (D2 := D + 1) hD5
          have hF3 := (hF2.tr s3).tr (FrW.fld (k := 19) (v := iI (5 - ((D + 1 : Nat) : Int))) (by omega))
          by_cases v0 : v2 = 0
          · rw [if_neg (fun z => z v0)]
            refine ⟨_, _, rfl, hW3, hF3, fun hb => ?_⟩
            show iI 1 = if (lfA u l D (p + 1)).2.2.2 a b c = 0 then iI 1 else iI 0
            rw [← s4 hb, if_pos v0]
          · rw [if_pos v0]
            refine ⟨_, _, rfl, hW3, hF3, fun hb => ?_⟩
            show iI 0 = if (lfA u l D (p + 1)).2.2.2 a b c = 0 then iI 1 else iI 0
            rw [← s4 hb, if_neg v0]
        · rw [if_neg h33, if_pos h33]
          obtain ⟨v2, m2, s1, s2, s3, s4⟩ := mpt_lv hleaf (N := N') (by omega) _ (p + 1) hW2
          rw [s1, cal2_some]
          unfold b_X11_factor_k8
          generalize lvA l (lfA u l D) 5 (p + 1) = r at *
          rw [s2.2.2.2.1, iI_sub, nm_eq, if_pos h33, show (5 : Int) - (D : Int) - 1 = 5 - ((D + 1 : Nat) : Int) by omega]
          have hW3 := s2.dp (D2 := D + 1) hD5
          have hF3 := (hF2.tr s3).tr (FrW.fld (k := 19) (v := iI (5 - ((D + 1 : Nat) : Int))) (by omega))
          rw [hW3.2.2.2.2.1]
          by_cases hb : r.1 = true
          · rw [if_pos hb, hb, show bn (!true) = iI 0 from rfl, if_pos (by decide), m_fails, cal2_some]
            exact ⟨_, _, rfl, hW3.fl, hF3.tr (FrW.fld (by omega)), fun q => absurd (show true = false from q) (by decide)⟩
          · have hb' : r.1 = false := by simpa using hb
            rw [hb'] at hW3
            rw [if_neg hb, hb', show bn (!false) = iI 1 from rfl, if_neg (by decide), m_byteAt hW3, cal_some]
            by_cases h41 : byA l r.2.1 = iI 41
            · have hlt2 : r.2.1 < l.length := byA_lt (by rw [h41]; decide)
              rw [if_pos h41, if_neg (fun z => z h41), hW3.2.2.1, show iI (r.2.1 : Int) + iI 1 = iI ((r.2.1 + 1 : Nat) : Int) from iI_add _ _, nm_eq]
              exact ⟨_, _, rfl, hW3.on hlt2, hF3.tr (FrW.fld (by omega)), fun _ => s4 hb'⟩
            · rw [if_neg h41, if_pos h41, m_fails, cal2_some]
              exact ⟨_, _, rfl, hW3.fl, hF3.tr (FrW.fld (by omega)), fun q => absurd (show true = false from q) (by decide)⟩
      · rw [if_neg ho, if_neg (fun q => ho (Or.inl q)), if_neg (fun q => ho (Or.inr q))]
        exact m_named hW rfl
/-- a text walked -/
theorem m_walks (hu : u < 2) (hl : l.length ≤ 50) (h7 : gI h 73 (7 + u) = iI l.length) (ht : LSt h 73 (205 + 50 * u) l) :
    ∃ v h2, f_X11_walks h (iI u) a b c = some (v, h2) ∧ gI h2 72 17 = iI (txA u l).2.1 ∧ gI h2 72 23 = bn (decide ((txA u l).1 = false ∧ (txA u l).2.1 = l.length)) ∧ ((txA u l).1 = false → v = (txA u l).2.2.2 a b c) ∧ (∀ x k, x ≠ 72 ∨ k < 16 ∨ 23 < k → gI h2 x k = gI h x k) ∧ (∀ x k, gL h2 x k = gL h x k) ∧ (txA u l).2.1 ≤ l.length := by
  unfold f_X11_walks
  have g7 : gI (sI (sI h 72 16 (iI u)) 72 17 (iI 0)) 73 (7 + u) = iI l.length := by rw [gI_ne (by omega), gI_ne (by omega)]; exact h7
  rw [nm_eq, nm_eq, iI_add, ald_i (by omega) (by omega), show ((7 : Int) + (u : Int)).toNat = 7 + u by omega, g7, nm_eq, nm_eq, rZ1]
  simp only [nm_eq]
  generalize hm : sI (sI (sI (sI (sI (sI (sI (sI h 72 16 (iI u)) 72 17 (iI 0)) 72 18 (iI l.length)) 72 19 (iI 0)) 72 23 (iI 1)) 72 20 a) 72 21 b) 72 22 c = m
  have hW : WkM m u l 0 5 a b c true := by
    rw [← hm]
    refine ⟨?_, ?_, ?_, ?_, ?_, ?_, ?_, gI_same, fun k hk => ?_, by omega, hl, by omega, hu⟩ <;> simp (disch := omega) only [gI_ne, gI_same]
    · rfl
    · rfl
    · rfl
    · exact ht k hk
  have hF : ∀ x k, x ≠ 72 ∨ k < 16 ∨ 23 < k → gI m x k = gI h x k := fun x k q => by
    rw [← hm]
    simp (disch := omega) only [gI_ne]
  have hFL : ∀ x k, gL m x k = gL h x k := fun x k => by rw [← hm]; rfl
  obtain ⟨v, m2, s1, s2, s3, s4⟩ := mpt_lv (u := u) (l := l) (D := 5) (a := a) (b := b) (c := c) (B := 31) (fun N hN => mpt_leaf 5 (by omega) N (by omega)) (N := 48) (by omega) m 0 hW
  have et : lvA l (lfA u l 5) 5 0 = txA u l := rfl
  rw [et] at s2 s4
  obtain ⟨w1, w2, w3, w4, w5, w6, w7, w8, w9, w10, w11, w12, w13⟩ := s2
  have hF2 : ∀ x k, x ≠ 72 ∨ k < 16 ∨ 23 < k → gI m2 x k = gI h x k := fun x k q => by
    by_cases e : x = 72
    · subst e; exact (s3.2.1 k (by omega) (by omega) (by omega)).trans (hF _ _ q)
    · exact (s3.1 x k e).trans (hF _ _ q)
  rw [s1, cal2_some, w5, w2, w3, join_eq, rZ0, rZ1]
  have eL : (iI (txA u l).2.1 = iI l.length) = (((txA u l).2.1 : Int) = l.length) := iI_eq ⟨by omega, by omega⟩
  have fin : ∀ x : Int32, gI (sI m2 72 23 x) 72 17 = iI (txA u l).2.1 ∧ (∀ y k, y ≠ 72 ∨ k < 16 ∨ 23 < k → gI (sI m2 72 23 x) y k = gI h y k) ∧ (∀ y k, gL (sI m2 72 23 x) y k = gL h y k) := fun x => ⟨(gI_ne (by omega)).trans w3, fun y k q => (gI_ne (by omega)).trans (hF2 y k q), fun y k => (s3.2.2 y k).trans (hFL y k)⟩
  cases hb : (txA u l).1
  · rw [show bn (!false) = iI 1 from rfl, if_neg (by decide)]
    by_cases hp : (txA u l).2.1 = l.length
    · rw [if_neg (by rw [eL]; omega), decide_eq_true ⟨rfl, hp⟩]
      exact ⟨_, _, rfl, (fin _).1, gI_same, fun q => s4 (hb.trans q), (fin _).2.1, (fin _).2.2, w10⟩
    · rw [if_pos (by rw [eL]; omega), decide_eq_false (fun q => hp q.2)]
      exact ⟨_, _, rfl, (fin _).1, gI_same, fun q => s4 (hb.trans q), (fin _).2.1, (fin _).2.2, w10⟩
  · rw [show bn (!true) = iI 0 from rfl, if_pos (by decide), decide_eq_false (fun q => absurd q.1 (by decide))]
    exact ⟨_, _, rfl, (fin _).1, gI_same, fun q => absurd q (by decide), (fin _).2.1, (fin _).2.2, w10⟩
end WALKM2
