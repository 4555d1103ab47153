section READC2
variable {u : Nat} {l : List Int32}
theorem cpt_part {N lv : Nat} {b1 : Int32} {P : Nat → RPS} (hlv : lv ≤ 4) (hp : CPT u l (g_READ N 0 (iI lv) b1) P) : CPT u l (g_READ (N + 1) 1 (iI lv) b1) P := by
  intro h n p hR hn
  show RES2 h u l n (b_X6_readPart (g_READ N) (iI lv) b1 h) (P p)
  unfold b_X6_readPart
  have e : (iI lv ≤ iI 4) = ((lv : Int) ≤ 4) := iI_le ⟨by omega, by omega⟩
  obtain ⟨m1, n1, e1, e2⟩ := hp h n p hR hn
  rw [if_pos (by rw [e]; omega), e1, cal_some]
  exact ⟨m1, n1, rfl, e2⟩
theorem cpt_part5 {N : Nat} {b1 : Int32} {P : Nat → RPS} (hp : CPT u l (g_READ N 2 b1 (iI 0)) P) : CPT u l (g_READ (N + 1) 1 (iI 5) b1) P := by
  intro h n p hR hn
  show RES2 h u l n (b_X6_readPart (g_READ N) (iI 5) b1 h) (P p)
  unfold b_X6_readPart
  obtain ⟨m1, n1, e1, e2⟩ := hp h n p hR hn
  rw [if_neg (by decide), e1, cal_some]
  exact ⟨m1, n1, rfl, e2⟩
theorem w_readNumber {h : Mem} {n p : Nat} (hR : RdC h u l n p false) (hn : n ≤ p) (hd : isDg (byA l p) = true) : RES2 h u l n (f_X6_readNumber h) (false, (nuA l 4 p (iI 0)).1, [(nuA l 4 p (iI 0)).2], fun _ _ _ => (nuA l 4 p (iI 0)).2) := by
  have hlt := isDg_lt hd
  have hl50 : l.length ≤ 50 := hR.2.2.2.2.2.2.2.2
  obtain ⟨X, hX⟩ : ∃ X, X = nuA l 4 p (iI 0) := ⟨_, rfl⟩
  rw [← hX]
  unfold f_X6_readNumber
  obtain ⟨N', hN⟩ : ∃ N' : Nat, N' = 1000000 := ⟨_, rfl⟩
  rw [← hN]
  refine lo3_t (fun f x1 x2 m => ∃ (i q : Nat), x2 = iI i ∧ i + f = 4 ∧ nuA l f q x1 = X ∧ RdC m u l n q false ∧ FrD h m ∧ (∀ k, gI m 35 k = gI h 35 k)) (fun o => RES2 h u l n o (false, X.1, [X.2], fun _ _ _ => X.2)) ?_ N' 4 _ _ _ (by omega) ⟨0, p, rfl, by omega, hX.symm, hR, ⟨fun _ _ _ _ => rfl, fun _ _ => rfl⟩, fun _ => rfl⟩
  rintro f x1 x2 m ⟨i, q, rfl, hf, hL, hD, hF, hK⟩ Kc
  unfold f_X6_readNumber_k4
  have e : (iI 4 ≤ iI i) = ((4 : Int) ≤ i) := iI_le ⟨by omega, by omega⟩
  have fin : X = (q, x1) → ∃ o, (cal (f_X6_write m x1) fun h6 => some h6) = o ∧ RES2 h u l n o (false, X.1, [X.2], fun _ _ _ => X.2) := fun hXq => by
    obtain ⟨m3, n4, t1, t2, t3, t4⟩ := w_write (x := x1) hD
    rw [t1, cal_some, hXq]
    obtain ⟨w1, w2, w3⟩ := t4 (by omega)
    refine ⟨_, rfl, m3, n4, rfl, t2, hF.tr t3, fun _ => ⟨w1, fun k hk => ?_, fun k hk => ?_⟩⟩
    · rw [w3 k (by omega)]; exact hK k
    · have hk0 : k = 0 := by have : k < 1 := hk; omega
      subst hk0
      exact w2
  rw [join_eq]
  by_cases hi : i = 4
  · left
    rw [if_pos (by rw [e]; omega)]
    exact fin (by rw [← hL, show f = 0 by omega]; rfl)
  · obtain ⟨f', rfl⟩ : ∃ f', f = f' + 1 := ⟨f - 1, by omega⟩
    unfold nuA at hL
    rw [if_neg (by rw [e]; omega), w_peek hD, cal_some, w_isDigit, cal_some]
    by_cases hd2 : isDg (byA l q) = true
    · right
      rw [if_pos hd2] at hL
      obtain ⟨q1, q2, q3⟩ := hD.on (isDg_lt hd2)
      rw [hd2, bn_true, if_neg (by decide), cal_some, nm_eq, nm_eq, show gI m 34 4 = iI q from hD.2.2.2.1, iI_add, nm_eq, iI_add, show ((q : Int) + 1) = ((q + 1 : Nat) : Int) by omega]
      exact ⟨f', _, _, _, Nat.lt_succ_self f', ⟨i + 1, q + 1, rfl, by omega, hL, q1, hF.tr q2, fun k => (q3 k).trans (hK k)⟩, rfl⟩
    · left
      rw [if_neg hd2] at hL
      rw [show isDg (byA l q) = false by simpa using hd2, bn_false, if_pos (by decide)]
      exact fin hL.symm
theorem w_readName {h : Mem} {n p : Nat} (hu : u < 2) (hR : RdC h u l n p false) (hn : n ≤ p) {P : RPS} (hP : P = if byA l p = nmA u 0 then (false, p + 1, [iI (-1)], fun a _ _ => a) else if byA l p = nmA u 1 then (false, p + 1, [iI (-2)], fun _ b _ => b) else if byA l p = nmA u 2 then (false, p + 1, [iI (-3)], fun _ _ c => c) else (true, p, [], fun _ _ _ => iI 0)) : RES2 h u l n (f_X6_readName h (byA l p)) P := by
  have hl50 : l.length ≤ 50 := hR.2.2.2.2.2.2.2.2
  unfold f_X6_readName
  have g5 : gI h 34 5 = iI u := hR.2.2.1
  have tb : ∀ j, j < 3 → tabN (3 * u + j) = nmA u j := fun j hj => by
    rcases (show u = 0 ∨ u = 1 by omega) with rfl | rfl <;> rcases (show j = 0 ∨ j = 1 ∨ j = 2 by omega) with rfl | rfl | rfl <;> rfl
  have st : ∀ (N j : Nat), j < 3 → lo1 (f_X6_readName_k2 h (byA l p)) (N + 1) (iI j) = if byA l p = nmA u j then (nm (sI h 34 4 (iI (p + 1 : Nat))) fun h9 => cal (f_X6_write h9 (iI (-1 - (j : Int)))) fun h10 => some h10) else lo1 (f_X6_readName_k2 h (byA l p)) N (iI (j + 1 : Nat)) := fun N j hj => by
    rw [lo1_s]
    unfold f_X6_readName_k2
    have e : (iI 3 ≤ iI j) = ((3 : Int) ≤ j) := iI_le ⟨by omega, by omega⟩
    rw [if_neg (by rw [e]; omega), g5, iI_mul, iI_add, nm_eq, iI_nat, iI_sub, w_within (by omega) (by omega) (by omega), cal_some, decide_eq_true (by omega), bn_true, join_eq, if_neg (by decide), tld_i (by omega) (by omega), show ((u : Int) * 3 + (j : Int)).toNat = 3 * u + j by omega, tb j hj, show gI h 34 4 = iI p from hR.2.2.2.1, show iI (p : Int) + iI 1 = iI ((p + 1 : Nat) : Int) from iI_add _ _, show iI (-1) - iI (j : Int) = iI (-1 - (j : Int)) from iI_sub _ _]
    by_cases q : byA l p = nmA u j
    · rw [if_pos q, if_neg (fun z => z q.symm)]
    · rw [if_neg q, if_pos (fun z => q z.symm), nm_eq, iI_add]; rfl
  have go : ∀ (j : Nat) (V : Int32 → Int32 → Int32 → Int32), byA l p = nmA u j → P = (false, p + 1, [iI (-1 - (j : Int))], V) → RES2 h u l n (nm (sI h 34 4 (iI (p + 1 : Nat))) fun h9 => cal (f_X6_write h9 (iI (-1 - (j : Int)))) fun h10 => some h10) P := fun j V hj hPj => by
    have hlt : p < l.length := byA_lt (by rw [hj]; exact nmA_ne)
    obtain ⟨q1, q2, q3⟩ := hR.on hlt
    rw [nm_eq]
    obtain ⟨m3, n4, t1, t2, t3, t4⟩ := w_write (x := iI (-1 - (j : Int))) q1
    rw [t1, cal_some, hPj]
    obtain ⟨w1, w2, w3⟩ := t4 (by omega)
    refine ⟨m3, n4, rfl, t2, q2.tr t3, fun _ => ⟨w1, fun k hk => ?_, fun k hk => ?_⟩⟩
    · rw [w3 k (by omega)]; exact q3 k
    · have hk0 : k = 0 := by have : k < 1 := hk; omega
      subst hk0
      exact w2
  rw [show (1000000 : Nat) = 999996 + 1 + 1 + 1 + 1 from rfl, show (iI 0) = iI ((0 : Nat) : Int) from rfl, st _ 0 (by omega)]
  by_cases n0 : byA l p = nmA u 0
  · rw [if_pos n0]; rw [if_pos n0] at hP; exact go 0 _ n0 hP
  rw [if_neg n0, st _ 1 (by omega)]; rw [if_neg n0] at hP
  by_cases n1 : byA l p = nmA u 1
  · rw [if_pos n1]; rw [if_pos n1] at hP; exact go 1 _ n1 hP
  rw [if_neg n1, st _ 2 (by omega)]; rw [if_neg n1] at hP
  by_cases n2 : byA l p = nmA u 2
  · rw [if_pos n2]; rw [if_pos n2] at hP; exact go 2 _ n2 hP
  rw [if_neg n2, lo1_s]; rw [if_neg n2] at hP
  unfold f_X6_readName_k2
  obtain ⟨q1, q2⟩ := hR.fails
  rw [if_pos (by decide), rZ1, nm_eq, hP]
  exact ⟨_, n, rfl, q1, q2, fun q => absurd (show true = false from q) (by decide)⟩
/-- the levels over a leaf -/
theorem cpt_lv {D B : Nat} {b1 : Int32} (hleaf : ∀ N, B ≤ N → CPT u l (g_READ N 2 b1 (iI 0)) (lfA u l D)) : ∀ (k : Nat), k ≤ 5 → ∀ N, B + 2 * k ≤ N → CPT u l (g_READ (N + 1) 1 (iI (5 - k : Nat)) b1) (lvA l (lfA u l D) k)
  | 0, _, N, hN => cpt_part5 (hleaf N (by omega))
  | k + 1, hk, N, hN => by
    obtain ⟨N', rfl⟩ : ∃ N', N = N' + 1 + 1 := ⟨N - 2, by omega⟩
    have ih := cpt_lv hleaf k (by omega) N' (by omega)
    refine cpt_part (by omega) ?_
    rw [show 5 - k = (5 - (k + 1)) + 1 by omega] at ih
    have := cpt_joined (lv := 5 - (k + 1)) (by omega) ih (OKR.lv (OKR.leaf D) k)
    rw [show 5 - (k + 1) = 4 - k by omega] at this ⊢
    exact this
theorem cpt_J {D B : Nat} {b1 : Int32} (hleaf : ∀ N, B ≤ N → CPT u l (g_READ N 2 b1 (iI 0)) (lfA u l D)) {N : Nat} (hN : B + 10 ≤ N) : CPT u l (g_READ N 0 (iI 0) b1) (lvA l (lfA u l D) 5) := by
  obtain ⟨N', rfl⟩ : ∃ N', N = N' + 1 + 1 := ⟨N - 2, by omega⟩
  have ih := cpt_lv hleaf 4 (by omega) N' (by omega)
  exact cpt_joined (lv := 0) (by omega) ih (OKR.lv (OKR.leaf D) 4)
theorem cpt_leaf (hu : u < 2) : ∀ (D : Nat), D ≤ 5 → ∀ N, 12 * D + 2 ≤ N → CPT u l (g_READ N 2 (iI (5 - (D : Int))) (iI 0)) (lfA u l D) := by
  intro D
  induction D with
  | zero =>
    intro _ N hN h n p hR hn
    obtain ⟨N', rfl⟩ : ∃ N', N = N' + 1 + 1 := ⟨N - 2, by omega⟩
    show RES2 h u l n (b_X6_readLeaf (g_READ (N' + 1)) (iI 5) h) (lfA u l 0 p)
    unfold b_X6_readLeaf lfA
    rw [w_peek hR, cal_some, w_isDigit, cal_some]
    by_cases hd : isDg (byA l p) = true
    · rw [if_pos hd, hd, bn_true, if_neg (by decide)]
      obtain ⟨m1, n1, e1, e2⟩ := w_readNumber hR hn hd
      rw [e1, cal_some]
      exact ⟨m1, n1, rfl, e2⟩
    · rw [if_neg hd, show isDg (byA l p) = false by simpa using hd, bn_false, if_pos (by decide), join_eq]
      by_cases ho : byA l p = iI 33 ∨ byA l p = iI 40
      · rw [if_pos ho]
        have e : (if byA l p = iI 33 then cal (g_READ (N' + 1) 3 (byA l p) (iI 5) h) fun h4 => some h4 else if ¬ byA l p = iI 40 then cal (f_X6_readName h (byA l p)) fun h5 => some h5 else cal (g_READ (N' + 1) 3 (byA l p) (iI 5) h) fun h4 => some h4) = cal (g_READ (N' + 1) 3 (byA l p) (iI 5) h) fun h4 => some h4 := by
          rcases ho with q | q
          · rw [if_pos q]
          · rw [if_neg (by rw [q]; decide), if_neg (fun z => z q)]
        rw [e]
        show RES2 h u l n (cal (b_X6_readOpened (g_READ N') (byA l p) (iI 5) h) fun h4 => some h4) _
        unfold b_X6_readOpened
        obtain ⟨q1, q2⟩ := hR.fails
        rw [if_neg (by decide), rZ1, nm_eq, cal_some]
        exact ⟨_, n, rfl, q1, q2, fun q => absurd (show true = false from q) (by decide)⟩
      · rw [if_neg ho, if_neg (fun q => ho (Or.inl q)), if_pos (fun q => ho (Or.inr q))]
        obtain ⟨m1, n1, e1, e2⟩ := w_readName hu hR hn rfl
        rw [e1, cal_some]
        exact ⟨m1, n1, rfl, e2⟩
  | succ D ih =>
    intro hD5 N hN h n p hR hn
    obtain ⟨N', rfl⟩ : ∃ N', N = N' + 1 + 1 := ⟨N - 2, by omega⟩
    show RES2 h u l n (b_X6_readLeaf (g_READ (N' + 1)) (iI (5 - ((D + 1 : Nat) : Int))) h) (lfA u l (D + 1) p)
    unfold b_X6_readLeaf lfA
    rw [w_peek hR, cal_some, w_isDigit, cal_some]
    by_cases hd : isDg (byA l p) = true
    · rw [if_pos hd, hd, bn_true, if_neg (by decide)]
      obtain ⟨m1, n1, e1, e2⟩ := w_readNumber hR hn hd
      rw [e1, cal_some]
      exact ⟨m1, n1, rfl, e2⟩
    · rw [if_neg hd, show isDg (byA l p) = false by simpa using hd, bn_false, if_pos (by decide), join_eq]
      by_cases ho : byA l p = iI 33 ∨ byA l p = iI 40
      · rw [if_pos ho]
        dsimp only
        obtain ⟨d, hd2⟩ : ∃ d : Int, d = 5 - ((D + 1 : Nat) : Int) := ⟨_, rfl⟩
        rw [← hd2]
        have e : (if byA l p = iI 33 then cal (g_READ (N' + 1) 3 (byA l p) (iI d) h) fun h4 => some h4 else if ¬ byA l p = iI 40 then cal (f_X6_readName h (byA l p)) fun h5 => some h5 else cal (g_READ (N' + 1) 3 (byA l p) (iI d) h) fun h4 => some h4) = cal (g_READ (N' + 1) 3 (byA l p) (iI d) h) fun h4 => some h4 := by
          rcases ho with q | q
          · rw [if_pos q]
          · rw [if_neg (by rw [q]; decide), if_neg (fun z => z q)]
        rw [e]
        show RES2 h u l n (cal (b_X6_readOpened (g_READ N') (byA l p) (iI d) h) fun h4 => some h4) _
        unfold b_X6_readOpened
        have hlt : p < l.length := byA_lt (by rcases ho with q | q <;> (rw [q]; decide))
        have e5 : (iI d < iI 5) = (d < 5) := iI_lt ⟨by omega, by omega⟩
        obtain ⟨q1, q2, q3⟩ := hR.on hlt
        rw [if_pos (by rw [e5]; omega), nm_eq, show gI h 34 4 = iI p from hR.2.2.2.1, iI_add, iI_add, show ((p : Int) + 1) = ((p + 1 : Nat) : Int) by omega, show d + 1 = 5 - (D : Int) by omega]
        have hleaf : ∀ N, 12 * D + 2 ≤ N → CPT u l (g_READ N 2 (iI (5 - (D : Int))) (iI 0)) (lfA u l D) := fun N hN => ih (by omega) N hN
        by_cases h33 : byA l p = iI 33
        · rw [if_pos h33, if_neg (fun z => z h33)]
          obtain ⟨m2, n3, s1, s2, s3, s4⟩ := hleaf N' (by omega) _ n (p + 1) q1 (by omega)
          obtain ⟨k1, k2, k3⟩ := OKR.leaf (u := u) (l := l) D (p + 1)
          rw [s1, cal_some]
          obtain ⟨m3, n4, t1, t2, t3, t4⟩ := w_write (x := iI 10000 + byA l p) s2
          rw [t1, cal_some, cal_some]
          refine ⟨m3, n4, rfl, t2, (q2.tr s3).tr t3, fun hb => ?_⟩
          obtain ⟨d1, d2, d3⟩ := s4 hb
          obtain ⟨k4, k5, -⟩ := k3 hb
          have hp2 : (lfA u l D (p + 1)).2.1 ≤ l.length := s2.2.2.2.2.2.2.2.1
          have hl50 : l.length ≤ 50 := hR.2.2.2.2.2.2.2.2
          obtain ⟨w1, w2, w3⟩ := t4 (by omega)
          refine ⟨?_, fun k hk => ?_, LSt.app (fun k hk => ?_) fun k hk => ?_⟩
          · show n4 = n + ((lfA u l D (p + 1)).2.2.1 ++ [iI 10033]).length
            rw [List.length_append, w1, d1]; show _ = n + ((lfA u l D (p + 1)).2.2.1.length + 1); omega
          · rw [w3 _ (by omega), d2 _ hk]; exact q3 k
          · rw [w3 _ (by omega)]; exact d3 k hk
          · have hk0 : k = 0 := by have : k < 1 := hk; omega
            subst hk0
            rw [show n + (lfA u l D (p + 1)).2.2.1.length + 0 = n3 by omega, w2, h33]; rfl
        · rw [if_neg h33, if_pos h33]
          obtain ⟨m2, n3, s1, s2, s3, s4⟩ := cpt_J hleaf (N := N') (by omega) _ n (p + 1) q1 (by omega)
          rw [s1, cal_some, join_eq]
          generalize lvA l (lfA u l D) 5 (p + 1) = r at *
          rw [show gI m2 34 6 = bn r.1 from s2.2.2.2.2.1]
          by_cases hb : r.1 = true
          · rw [if_pos hb, hb, bn_true, if_pos (by decide), rZ1, nm_eq, cal_some]
            obtain ⟨f1, f2⟩ := s2.fails
            exact ⟨_, n3, rfl, f1, (q2.tr s3).tr f2, fun q => absurd (show true = false from q) (by decide)⟩
          · have hb' : r.1 = false := by simpa using hb
            rw [if_neg hb, hb', bn_false, if_neg (by decide), w_peek s2, cal_some]
            rw [hb'] at s2
            by_cases h41 : byA l r.2.1 = iI 41
            · have hlt2 : r.2.1 < l.length := byA_lt (by rw [h41]; decide)
              obtain ⟨f1, f2, f3⟩ := s2.on hlt2
              rw [if_pos h41, if_pos h41, show gI m2 34 4 = iI r.2.1 from s2.2.2.2.1, iI_add, nm_eq, cal_some]
              obtain ⟨d1, d2, d3⟩ := s4 hb'
              exact ⟨_, n3, rfl, f1, (q2.tr s3).tr f2, fun _ => ⟨d1, fun k hk => (f3 k).trans ((d2 k hk).trans (q3 k)), fun k hk => (f3 _).trans (d3 k hk)⟩⟩
            · rw [if_neg h41, if_neg h41, rZ1, nm_eq, cal_some]
              obtain ⟨f1, f2⟩ := s2.fails
              exact ⟨_, n3, rfl, f1, (q2.tr s3).tr f2, fun q => absurd (show true = false from q) (by decide)⟩
      · rw [if_neg ho, if_neg (fun q => ho (Or.inl q)), if_pos (fun q => ho (Or.inr q))]
        obtain ⟨m1, n1, e1, e2⟩ := w_readName hu hR hn rfl
        rw [e1, cal_some]
        exact ⟨m1, n1, rfl, e2⟩
/-- a text read: -1, or the place of its fault -/
theorem w_faultIn {h : Mem} (hu : u < 2) (hl : l.length ≤ 50) (ht : LSt h 13 0 l) :
    ∃ h2, f_X6_faultIn h 13 50 (iI l.length) (iI u) = some (if (txA u l).1 = false ∧ (txA u l).2.1 = l.length then iI (-1) else iI (txA u l).2.1, h2) ∧ (∀ x k, x < 34 ∨ 36 < x → gI h2 x k = gI h x k) ∧ (∀ x k, gL h2 x k = gL h x k) ∧ ((txA u l).1 = false → gI h2 34 1 = iI (txA u l).2.2.1.length ∧ LSt h2 35 0 (txA u l).2.2.1) ∧ (txA u l).2.1 ≤ l.length := by
  unfold f_X6_faultIn f_X10_held
  have e : mxI (iI 0) (mnI (mnI (Int32.ofNat 50) (Int32.ofNat 50)) (iI l.length)) = iI l.length := by
    rw [iI_nat, mnI_i (by omega), mnI_i (by omega), mxI_i (by omega)]
    congr 1
    omega
  rw [e, cal_some, nm_eq, gI_same, acp_i (by omega) (by omega), nm_eq, nm_eq, nm_eq, rZ0]
  simp only [nm_eq]
  have z0 : (0 : Int).toNat = 0 := rfl
  rw [z0, Int.toNat_natCast]
  generalize hm : sI (sI (sI (sI (cpI (sI h 34 3 (iI l.length)) 13 0 36 0 l.length) 34 5 (iI u)) 34 4 (iI 0)) 34 1 (iI 0)) 34 6 (iI 0) = m
  have hR : RdC m u l 0 0 false := by
    rw [← hm]
    refine ⟨?_, fun k hk => ?_, ?_, ?_, ?_, ?_, by omega, by omega, hl⟩
    · simp (disch := omega) only [gI_ne, gI_cpI, if_neg, gI_same]
    · simp (disch := omega) only [gI_ne, gI_cpI]
      rw [if_pos ⟨trivial, by omega, by omega⟩]
      have := ht k hk
      rw [show 0 + (0 + k - 0) = 0 + k by omega]; exact this
    · simp (disch := omega) only [gI_ne, gI_same]
    · simp (disch := omega) only [gI_ne, gI_same]; rfl
    · rw [gI_same]; rfl
    · simp (disch := omega) only [gI_ne, gI_same]; rfl
  have hF : ∀ x k, x < 34 ∨ 36 < x → gI m x k = gI h x k := fun x k q => by
    rw [← hm]
    simp (disch := omega) only [gI_ne, gI_cpI, if_neg]
  have hFL : ∀ x k, gL m x k = gL h x k := fun x k => by rw [← hm]; rfl
  obtain ⟨m2, n3, s1, s2, s3, s4⟩ := cpt_J (u := u) (l := l) (D := 5) (b1 := iI 0) (B := 62) (fun N hN => cpt_leaf hu 5 (by omega) N (by omega)) (N := 96) (by omega) m 0 0 hR (by omega)
  have et : lvA l (lfA u l 5) 5 0 = txA u l := rfl
  rw [et] at s2 s4
  obtain ⟨r1, r2, r3, r4, r5, r6, r7, r8, r9⟩ := s2
  rw [s1, cal_some, r5, r4, r1, join_eq]
  refine ⟨m2, ?_, fun x k q => (s3.1 x k (by omega) (by omega)).trans (hF x k q), fun x k => (s3.2 x k).trans (hFL x k), fun hb => ?_, r8⟩
  · have eL : (iI l.length ≤ iI (txA u l).2.1) = ((l.length : Int) ≤ (txA u l).2.1) := iI_le ⟨by omega, by omega⟩
    cases hb : (txA u l).1
    · rw [bn_false, if_neg (by decide)]
      by_cases hp : (txA u l).2.1 = l.length
      · rw [if_pos (by rw [eL]; omega), if_pos ⟨rfl, hp⟩]
      · rw [if_neg (by rw [eL]; omega), if_neg (fun q => hp q.2)]
    · rw [bn_true, if_pos (by decide), if_neg (fun q => absurd q.1 (by decide))]
  · obtain ⟨d1, d2, d3⟩ := s4 hb
    rw [Nat.zero_add] at d1
    exact ⟨by rw [r6, d1], d3⟩
end READC2
