section READC
/-- the class's reader: text u, l read, n codes written, place p -/
def RdC (h : Mem) (u : Nat) (l : List Int32) (n p : Nat) (bad : Bool) : Prop := gI h 34 3 = iI l.length ∧ LSt h 36 0 l ∧ gI h 34 5 = iI u ∧ gI h 34 4 = iI p ∧ gI h 34 6 = bn bad ∧ gI h 34 1 = iI n ∧ n ≤ 50 ∧ p ≤ l.length ∧ l.length ≤ 50
def FrD (h h2 : Mem) : Prop := (∀ x k, x ≠ 34 → x ≠ 35 → gI h2 x k = gI h x k) ∧ (∀ x k, gL h2 x k = gL h x k)
theorem FrD.tr {h h1 h2 : Mem} (x : FrD h h1) (y : FrD h1 h2) : FrD h h2 := ⟨fun a k q1 q2 => (y.1 a k q1 q2).trans (x.1 a k q1 q2), fun a k => (y.2 a k).trans (x.2 a k)⟩
theorem LSt.app {h : Mem} {a i : Nat} {l m : List Int32} (h1 : LSt h a i l) (h2 : LSt h a (i + l.length) m) : LSt h a i (l ++ m) := fun k hk => by
  by_cases e : k < l.length
  · rw [List.getElem_append_left e]; exact h1 k e
  · rw [List.length_append] at hk
    rw [List.getElem_append_right (by omega)]
    have := h2 (k - l.length) (by omega)
    rw [show i + l.length + (k - l.length) = i + k by omega] at this
    exact this
section
variable {h : Mem} {u n p : Nat} {l : List Int32} {bad : Bool}
theorem w_peek (hR : RdC h u l n p bad) : f_X6_peek h = some (byA l p) := by
  obtain ⟨r1, r2, r3, r4, r5, r6, r7, r8, r9⟩ := hR
  unfold f_X6_peek
  have e1 : (iI p < 0) = ((p : Int) < 0) := by rw [iI_zero]; exact iI_lt ⟨by omega, by omega⟩
  have e2 : (iI l.length ≤ iI p) = ((l.length : Int) ≤ p) := iI_le ⟨by omega, by omega⟩
  rw [r1, r4, join_eq, if_neg (by rw [e1]; omega)]
  by_cases e : p < l.length
  · rw [if_neg (by rw [e2]; omega), ald_i (by omega) (by omega), Int.toNat_natCast, byA_get e]
    have := r2 p e
    rw [Nat.zero_add] at this
    rw [this]
  · rw [if_pos (by rw [e2]; omega)]
    unfold byA
    rw [if_neg e]
theorem w_isDigit {v : Int32} : f_X6_isDigit h v = some (bn (isDg v)) := by
  obtain ⟨z, rfl, z1, z2⟩ := iI_of v
  rw [isDg_iff ⟨z1, z2⟩]
  unfold f_X6_isDigit
  have e1 : (iI z < iI 48) = (z < 48) := iI_lt ⟨⟨z1, z2⟩, by omega⟩
  have e2 : (iI 57 < iI z) = (57 < z) := iI_lt ⟨by omega, ⟨z1, z2⟩⟩
  rw [join_eq]
  by_cases a : z < 48
  · rw [if_pos (by rw [e1]; exact a), rZ0, decide_eq_false (by omega)]; rfl
  · rw [if_neg (by rw [e1]; exact a)]
    by_cases b : 57 < z
    · rw [if_pos (by rw [e2]; exact b), rZ0, decide_eq_false (by omega)]; rfl
    · rw [if_neg (by rw [e2]; exact b), rZ1, decide_eq_true (by omega)]; rfl
theorem w_joinsAt {lv : Nat} {v : Int32} (hl : lv ≤ 4) : f_X6_joinsAt h (iI lv) v = some (bn (jnA lv v)) := by
  unfold f_X6_joinsAt
  by_cases e : v = iI 37
  · subst e; rw [if_pos rfl]; rcases (show lv = 0 ∨ lv = 1 ∨ lv = 2 ∨ lv = 3 ∨ lv = 4 by omega) with rfl | rfl | rfl | rfl | rfl <;> rfl
  rw [if_neg e]
  by_cases f : v = iI 38
  · subst f; rw [if_pos rfl]; rcases (show lv = 0 ∨ lv = 1 ∨ lv = 2 ∨ lv = 3 ∨ lv = 4 by omega) with rfl | rfl | rfl | rfl | rfl <;> rfl
  rw [if_neg f]
  by_cases g : v = iI 42
  · subst g; rw [if_pos rfl]; rcases (show lv = 0 ∨ lv = 1 ∨ lv = 2 ∨ lv = 3 ∨ lv = 4 by omega) with rfl | rfl | rfl | rfl | rfl <;> rfl
  rw [if_neg g]
  by_cases i : v = iI 43
  · subst i; rw [if_pos rfl]; rcases (show lv = 0 ∨ lv = 1 ∨ lv = 2 ∨ lv = 3 ∨ lv = 4 by omega) with rfl | rfl | rfl | rfl | rfl <;> rfl
  rw [if_neg i]
  by_cases j : v = iI 45
  · subst j; rw [if_pos rfl]; rcases (show lv = 0 ∨ lv = 1 ∨ lv = 2 ∨ lv = 3 ∨ lv = 4 by omega) with rfl | rfl | rfl | rfl | rfl <;> rfl
  rw [if_neg j]
  by_cases k : v = iI 47
  · subst k; rw [if_pos rfl]; rcases (show lv = 0 ∨ lv = 1 ∨ lv = 2 ∨ lv = 3 ∨ lv = 4 by omega) with rfl | rfl | rfl | rfl | rfl <;> rfl
  rw [if_neg k]
  by_cases m : v = iI 60
  · subst m; rw [if_pos rfl]; rcases (show lv = 0 ∨ lv = 1 ∨ lv = 2 ∨ lv = 3 ∨ lv = 4 by omega) with rfl | rfl | rfl | rfl | rfl <;> rfl
  rw [if_neg m]
  by_cases o : v = iI 61
  · subst o; rw [if_pos rfl]; rcases (show lv = 0 ∨ lv = 1 ∨ lv = 2 ∨ lv = 3 ∨ lv = 4 by omega) with rfl | rfl | rfl | rfl | rfl <;> rfl
  rw [if_neg o]
  by_cases q : v = iI 62
  · subst q; rw [if_pos rfl]; rcases (show lv = 0 ∨ lv = 1 ∨ lv = 2 ∨ lv = 3 ∨ lv = 4 by omega) with rfl | rfl | rfl | rfl | rfl <;> rfl
  rw [if_neg q]
  by_cases r : v = iI 124
  · subst r; rw [if_pos rfl]; rcases (show lv = 0 ∨ lv = 1 ∨ lv = 2 ∨ lv = 3 ∨ lv = 4 by omega) with rfl | rfl | rfl | rfl | rfl <;> rfl
  rw [if_neg r, rZ0]
  have : jnA lv v = false := by
    cases hj : jnA lv v
    · rfl
    · obtain ⟨z, ez, hz⟩ := jnA_cases hj
      rcases hz with z | z | z | z | z | z | z | z | z | z <;> (rw [z] at ez; contradiction)
  rw [this]; rfl
/-- one code written -/
theorem w_write {x : Int32} (hR : RdC h u l n p bad) : ∃ h2 n2, f_X6_write h x = some h2 ∧ RdC h2 u l n2 p bad ∧ FrD h h2 ∧ (n < 50 → n2 = n + 1 ∧ gI h2 35 n = x ∧ ∀ k, k ≠ n → gI h2 35 k = gI h 35 k) := by
  obtain ⟨r1, r2, r3, r4, r5, r6, r7, r8, r9⟩ := hR
  unfold f_X6_write
  have e : (Int32.ofNat 50 ≤ iI n) = ((50 : Int) ≤ n) := by rw [iI_nat]; exact iI_le ⟨by omega, by omega⟩
  rw [r6]
  by_cases hn : n = 50
  · rw [if_pos (by rw [e]; omega)]
    exact ⟨h, n, rfl, ⟨r1, r2, r3, r4, r5, r6, r7, r8, r9⟩, ⟨fun _ _ _ _ => rfl, fun _ _ => rfl⟩, fun q => absurd q (by omega)⟩
  · rw [if_neg (by rw [e]; omega), ast_i (by omega) (by omega), Int.toNat_natCast, nm_eq, gI_ne (by omega), r6, iI_add]
    refine ⟨_, n + 1, rfl, ⟨?_, fun k hk => ?_, ?_, ?_, ?_, gI_same, by omega, r8, r9⟩, ⟨fun x k q1 q2 => ?_, fun _ _ => rfl⟩, fun _ => ⟨rfl, ?_, fun k hk => ?_⟩⟩
    · rw [gI_ne (by omega), gI_ne (by omega)]; exact r1
    · rw [gI_ne (by omega), gI_ne (by omega)]; exact r2 k hk
    · rw [gI_ne (by omega), gI_ne (by omega)]; exact r3
    · rw [gI_ne (by omega), gI_ne (by omega)]; exact r4
    · rw [gI_ne (by omega), gI_ne (by omega)]; exact r5
    · rw [gI_ne (by omega), gI_ne (by omega)]
    · rw [gI_ne (by omega), gI_same]
    · rw [gI_ne (by omega), gI_ne (by omega)]
/-- one place on -/
theorem RdC.on (hR : RdC h u l n p bad) (hp : p < l.length) : RdC (sI h 34 4 (iI (p + 1 : Nat))) u l n (p + 1) bad ∧ FrD h (sI h 34 4 (iI (p + 1 : Nat))) ∧ ∀ k, gI (sI h 34 4 (iI (p + 1 : Nat))) 35 k = gI h 35 k := by
  obtain ⟨r1, r2, r3, r4, r5, r6, r7, r8, r9⟩ := hR
  exact ⟨⟨(gI_ne (by omega)).trans r1, fun k hk => (gI_ne (by omega)).trans (r2 k hk), (gI_ne (by omega)).trans r3, gI_same, (gI_ne (by omega)).trans r5, (gI_ne (by omega)).trans r6, r7, hp, r9⟩, ⟨fun x k q1 q2 => gI_ne (by omega), fun _ _ => rfl⟩, fun k => gI_ne (by omega)⟩
theorem RdC.fails (hR : RdC h u l n p bad) : RdC (sI h 34 6 (iI 1)) u l n p true ∧ FrD h (sI h 34 6 (iI 1)) := by
  obtain ⟨r1, r2, r3, r4, r5, r6, r7, r8, r9⟩ := hR
  exact ⟨⟨(gI_ne (by omega)).trans r1, fun k hk => (gI_ne (by omega)).trans (r2 k hk), (gI_ne (by omega)).trans r3, (gI_ne (by omega)).trans r4, gI_same, (gI_ne (by omega)).trans r6, r7, r8, r9⟩, ⟨fun x k q1 q2 => gI_ne (by omega), fun _ _ => rfl⟩⟩
end
/-- what a part of the class's reader does -/
def RES2 (h : Mem) (u : Nat) (l : List Int32) (n : Nat) (o : Option Mem) (r : RPS) : Prop := ∃ h2 n2, o = some h2 ∧ RdC h2 u l n2 r.2.1 r.1 ∧ FrD h h2 ∧ (r.1 = false → n2 = n + r.2.2.1.length ∧ (∀ k, k < n → gI h2 35 k = gI h 35 k) ∧ LSt h2 35 n r.2.2.1)
def CPT (u : Nat) (l : List Int32) (o : Mem → Option Mem) (P : Nat → RPS) : Prop := ∀ h n p, RdC h u l n p false → n ≤ p → RES2 h u l n (o h) (P p)
theorem cpt_joined {u : Nat} {l : List Int32} {N lv : Nat} {b1 : Int32} {P : Nat → RPS} (hlv : lv ≤ 4) (hp : CPT u l (g_READ N 1 (iI (lv + 1 : Nat)) b1) P) (hok : ∀ q, OKR l q (P q)) : CPT u l (g_READ (N + 1) 0 (iI lv) b1) (fun p => lpA l P lv 60 (P p)) := by
  intro h n p hR hn
  show RES2 h u l n (b_X6_readJoined (g_READ N) (iI lv) b1 h) (lpA l P lv 60 (P p))
  unfold b_X6_readJoined
  obtain ⟨m1, n1, e1, e2, e3, e4⟩ := hp h n p hR hn
  rw [iI_add, show ((lv : Int) + 1) = ((lv + 1 : Nat) : Int) by omega, e1, cal_some]
  obtain ⟨X, hX⟩ : ∃ X, X = lpA l P lv 60 (P p) := ⟨_, rfl⟩
  rw [← hX]
  obtain ⟨N', hN⟩ : ∃ N' : Nat, N' = 1000000 := ⟨_, rfl⟩
  rw [← hN]
  have hl50 : l.length ≤ 50 := hR.2.2.2.2.2.2.2.2
  refine lo2_t (fun f x2 m => ∃ (i : Nat) (r : RPS) (n2 : Nat), x2 = iI i ∧ i ≤ r.2.1 ∧ lpA l P lv f r = X ∧ l.length < r.2.1 + f ∧ OKR l p r ∧ RdC m u l n2 r.2.1 r.1 ∧ FrD h m ∧ (r.1 = false → n2 = n + r.2.2.1.length ∧ (∀ k, k < n → gI m 35 k = gI h 35 k) ∧ LSt m 35 n r.2.2.1)) (fun o => RES2 h u l n o X) ?_ N' 60 _ _ (by omega) ⟨0, P p, n1, rfl, Nat.zero_le _, hX.symm, by omega, hok p, e2, e3, e4⟩
  rintro f x2 m ⟨i, r, n2, rfl, hi, hL, hf, hO, hD, hF, hC⟩ Kc
  have hpos : r.2.1 ≤ l.length := hD.2.2.2.2.2.2.2.1
  obtain ⟨f', rfl⟩ : ∃ f', f = f' + 1 := ⟨f - 1, by omega⟩
  unfold lpA at hL
  unfold b_X6_readJoined_k4
  have g3 : gI m 34 3 = iI l.length := hD.1
  have g6 : gI m 34 6 = bn r.1 := hD.2.2.2.2.1
  have eL : (iI l.length ≤ iI i) = ((l.length : Int) ≤ i) := iI_le ⟨by omega, by omega⟩
  rw [g3, g6]
  by_cases hstop : r.1 = true ∨ jnA lv (byA l r.2.1) = false
  · left
    have hXr : X = r := by
      rw [← hL]
      by_cases hb : r.1 = true
      · rw [if_pos hb]
      · rw [if_neg hb, if_neg (by rcases hstop with q | q; exact absurd q hb; rw [q]; decide)]
    rw [hXr]
    refine ⟨some m, ?_, m, n2, rfl, hD, hF, hC⟩
    by_cases c1 : l.length ≤ i
    · rw [if_pos (by rw [eL]; omega)]
    · rw [if_neg (by rw [eL]; omega)]
      by_cases hb : r.1 = true
      · rw [hb, bn_true, if_pos (by decide)]
      · rw [show r.1 = false by simpa using hb, bn_false, if_neg (by decide), w_peek hD, cal_some, w_joinsAt hlv, cal_some]
        rcases hstop with q | q
        · exact absurd q hb
        · rw [q, bn_false, if_pos (by decide)]
  · have hb : r.1 = false := by
      cases q : r.1
      · rfl
      · exact absurd (Or.inl q) hstop
    have hj : jnA lv (byA l r.2.1) = true := by
      cases q : jnA lv (byA l r.2.1)
      · exact absurd (Or.inr q) hstop
      · rfl
    have hlt := jnA_lt hj
    rw [if_neg (show ¬ r.bad = true from fun q => by rw [show r.bad = false from hb] at q; exact absurd q (by decide)), if_pos hj] at hL
    obtain ⟨c1, c2, c3⟩ := hC hb
    obtain ⟨o1, o2, o3⟩ := hO.2.2 hb
    rw [hb] at hD
    rw [if_neg (by rw [eL]; omega), hb, bn_false, if_neg (by decide), w_peek hD, cal_some, w_joinsAt hlv, cal_some, hj, bn_true, if_neg (by decide), cal_some, nm_eq, show gI m 34 4 = iI r.2.1 from hD.2.2.2.1, iI_add, iI_add, show ((r.2.1 : Int) + 1) = ((r.2.1 + 1 : Nat) : Int) by omega, show ((lv : Int) + 1) = ((lv + 1 : Nat) : Int) by omega]
    obtain ⟨q1, q2, q3⟩ := hD.on hlt
    obtain ⟨m2, n3, s1, s2, s3, s4⟩ := hp _ n2 (r.2.1 + 1) q1 (by omega)
    rw [s1, cal_some]
    obtain ⟨m3, n4, t1, t2, t3, t4⟩ := w_write (x := iI 10000 + byA l r.2.1) s2
    rw [t1, cal_some]
    have hO2 := hO.jn hb hj (hok (r.2.1 + 1))
    have hF2 : FrD h m3 := ((hF.tr q2).tr s3).tr t3
    have hC2 : (jnR (byA l r.2.1) r (P (r.2.1 + 1))).1 = false → n4 = n + (jnR (byA l r.2.1) r (P (r.2.1 + 1))).2.2.1.length ∧ (∀ k, k < n → gI m3 35 k = gI h 35 k) ∧ LSt m3 35 n (jnR (byA l r.2.1) r (P (r.2.1 + 1))).2.2.1 := fun hb2 => by
      obtain ⟨d1, d2, d3⟩ := s4 hb2
      obtain ⟨k1, k2, k3⟩ := hok (r.2.1 + 1)
      obtain ⟨k4, k5, -⟩ := k3 hb2
      have hp2 : (P (r.2.1 + 1)).2.1 ≤ l.length := s2.2.2.2.2.2.2.2.1
      obtain ⟨w1, w2, w3⟩ := t4 (by omega)
      have el : (jnR (byA l r.2.1) r (P (r.2.1 + 1))).2.2.1 = r.2.2.1 ++ (P (r.2.1 + 1)).2.2.1 ++ [iI 10000 + byA l r.2.1] := rfl
      rw [el]
      refine ⟨?_, fun k hk => ?_, LSt.app (LSt.app (fun k hk => ?_) fun k hk => ?_) fun k hk => ?_⟩
      · rw [List.length_append, List.length_append, w1, d1, c1]; show _ = n + (r.2.2.1.length + (P (r.2.1 + 1)).2.2.1.length + 1); omega
      · rw [w3 _ (by omega), d2 _ (by omega), q3]; exact c2 k hk
      · rw [w3 _ (by omega), d2 _ (by omega), q3]; exact c3 k hk
      · rw [show n + r.2.2.1.length = n2 by omega, w3 _ (by omega)]; exact d3 k hk
      · have hk0 : k = 0 := by have : k < 1 := hk; omega
        subst hk0
        rw [List.length_append, show n + (r.2.2.1.length + (P (r.2.1 + 1)).2.2.1.length) + 0 = n3 by omega]; exact w2
    have e2 : (iI lv = iI 2) = ((lv : Int) = 2) := iI_eq ⟨by omega, by omega⟩
    have hpp : r.2.1 + 1 ≤ (P (r.2.1 + 1)).2.1 := (hok (r.2.1 + 1)).1
    by_cases l2 : lv = 2
    · left
      rw [if_pos l2] at hL
      rw [if_neg (by rw [e2]; omega)]
      rw [← hL]
      exact ⟨some m3, rfl, m3, n4, rfl, t2, hF2, hC2⟩
    · right
      rw [if_neg l2] at hL
      rw [if_pos (by rw [e2]; omega), nm_eq, iI_add]
      exact ⟨f', _, _, Nat.lt_succ_self f', ⟨i + 1, _, n4, rfl, by show i + 1 ≤ (P (r.2.1 + 1)).2.1; omega, hL, by show l.length < (P (r.2.1 + 1)).2.1 + f'; omega, hO2, t2, hF2, hC2⟩, rfl⟩
end READC
