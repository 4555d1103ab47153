section MBACKOP
variable {g : GS}
theorem m_saves {h : Mem} {a : Nat} (ha : a ≤ 3) : ∃ h2, f_X11_saves h (iI a) = some h2 ∧ (∀ k, k < 305 → gI h2 79 (305 * a + k) = gI h 73 k) ∧ (∀ x k, x ≠ 79 ∨ k < 305 * a ∨ 305 * a + 305 ≤ k → gI h2 x k = gI h x k) ∧ (∀ x k, gL h2 x k = gL h x k) := by
  unfold f_X11_saves
  obtain ⟨N, hN⟩ : ∃ N : Nat, N = 1000000 := ⟨_, rfl⟩
  rw [← hN]
  refine lo2_t (fun f x1 m => ∃ i : Nat, x1 = iI i ∧ i + f = 305 ∧ (∀ k, k < i → gI m 79 (305 * a + k) = gI h 73 k) ∧ (∀ x k, x ≠ 79 ∨ k < 305 * a ∨ 305 * a + 305 ≤ k → gI m x k = gI h x k) ∧ (∀ x k, gL m x k = gL h x k)) (fun o => ∃ h2, o = some h2 ∧ (∀ k, k < 305 → gI h2 79 (305 * a + k) = gI h 73 k) ∧ (∀ x k, x ≠ 79 ∨ k < 305 * a ∨ 305 * a + 305 ≤ k → gI h2 x k = gI h x k) ∧ (∀ x k, gL h2 x k = gL h x k)) ?_ N 305 _ _ (by omega) ⟨0, rfl, by omega, fun k hk => absurd hk (Nat.not_lt_zero k), fun _ _ _ => rfl, fun _ _ => rfl⟩
  rintro f x1 m ⟨i, rfl, hf, e1, e2, e3⟩ Kc
  unfold f_X11_saves_k3
  have e : (iI 305 ≤ iI i) = ((305 : Int) ≤ i) := iI_le ⟨by omega, by omega⟩
  by_cases hi : i = 305
  · left
    subst hi
    rw [if_pos (by rw [e]; omega)]
    exact ⟨_, rfl, m, rfl, e1, e2, e3⟩
  · right
    rw [if_neg (by rw [e]; omega), ald_i (by omega) (by omega), Int.toNat_natCast, iI_mul, iI_add, ast_i (by omega) (by omega), show ((305 : Int) * (a : Int) + (i : Int)).toNat = 305 * a + i by omega, e2 73 i (by omega), nm_eq, iI_add]
    refine ⟨f - 1, _, _, by omega, ⟨i + 1, rfl, by omega, fun k hk => ?_, fun x k hx => ?_, ?_⟩, rfl⟩
    · by_cases hk2 : k = i
      · rw [hk2, gI_same]
      · rw [gI_ne (by omega)]; exact e1 k (by omega)
    · rw [gI_ne (by omega)]; exact e2 x k hx
    · exact e3
theorem m_loads {h : Mem} {a : Nat} (ha : a ≤ 3) : ∃ h2, f_X11_loads h (iI a) = some h2 ∧ (∀ k, k < 305 → gI h2 73 k = gI h 79 (305 * a + k)) ∧ (∀ x k, x ≠ 73 ∨ 305 ≤ k → gI h2 x k = gI h x k) ∧ (∀ x k, gL h2 x k = gL h x k) := by
  unfold f_X11_loads
  obtain ⟨N, hN⟩ : ∃ N : Nat, N = 1000000 := ⟨_, rfl⟩
  rw [← hN]
  refine lo2_t (fun f x1 m => ∃ i : Nat, x1 = iI i ∧ i + f = 305 ∧ (∀ k, k < i → gI m 73 k = gI h 79 (305 * a + k)) ∧ (∀ x k, x ≠ 73 ∨ 305 ≤ k → gI m x k = gI h x k) ∧ (∀ x k, gL m x k = gL h x k)) (fun o => ∃ h2, o = some h2 ∧ (∀ k, k < 305 → gI h2 73 k = gI h 79 (305 * a + k)) ∧ (∀ x k, x ≠ 73 ∨ 305 ≤ k → gI h2 x k = gI h x k) ∧ (∀ x k, gL h2 x k = gL h x k)) ?_ N 305 _ _ (by omega) ⟨0, rfl, by omega, fun k hk => absurd hk (Nat.not_lt_zero k), fun _ _ _ => rfl, fun _ _ => rfl⟩
  rintro f x1 m ⟨i, rfl, hf, e1, e2, e3⟩ Kc
  unfold f_X11_loads_k3
  have e : (iI 305 ≤ iI i) = ((305 : Int) ≤ i) := iI_le ⟨by omega, by omega⟩
  by_cases hi : i = 305
  · left
    subst hi
    rw [if_pos (by rw [e]; omega)]
    exact ⟨_, rfl, m, rfl, e1, e2, e3⟩
  · right
    rw [if_neg (by rw [e]; omega), iI_mul, iI_add, ald_i (by omega) (by omega), show ((305 : Int) * (a : Int) + (i : Int)).toNat = 305 * a + i by omega, e2 79 _ (by omega), ast_i (by omega) (by omega), Int.toNat_natCast, nm_eq, iI_add]
    refine ⟨f - 1, _, _, by omega, ⟨i + 1, rfl, by omega, fun k hk => ?_, fun x k hx => ?_, ?_⟩, rfl⟩
    · by_cases hk2 : k = i
      · rw [hk2, gI_same]
      · rw [gI_ne (by omega)]; exact e1 k (by omega)
    · rw [gI_ne (by omega)]; exact e2 x k hx
    · exact e3
/-- what a search of the model leaves: the row as it was -/
def MBr (h h2 : Mem) (g : GS) (a : Nat) (r : Option (List Nat)) : Prop := (∀ k, k < 305 → gI h2 73 k = gI h 73 k) ∧ MX h2 g ∧ gI h2 72 12 = iI (-1) ∧ gI h2 72 13 = iI (-1) ∧ FC h h2 ∧ (∀ k, k < a → gI h2 78 k = gI h 78 k) ∧ (∀ k, k < 305 * a → gI h2 79 k = gI h 79 k) ∧ (∀ p, r = some p → ∀ j (hj : j < p.length), gI h2 78 (a + j) = iI p[j])
theorem m_bring {k0 : WH} (hg : GV g) (hk : g.kept = some k0) (hR : k0.R = g.now.R ∧ k0.C = g.now.C) : ∀ (d a N : Nat) (h : Mem) (S : Nat → Bool) (T L : Nat → Nat), a + d ≤ 3 → d + 1 ≤ N → MX h g → gI h 72 12 = iI (-1) → gI h 72 13 = iI (-1) → RM h 73 g.now.R g.now.C g.now.K g.now.M S T L → VD g.now.R g.now.C g.now.M S T L → ∃ h2, g_BRING N 0 (iI d) (iI a) h = some (bn (brF g.now k0.S k0.T d S T).isSome, h2) ∧ MBr h h2 g a (brF g.now k0.S k0.T d S T) := by
  have hV := hg.1.1
  have hD := hg.1.2.1
  have h25 := sq_25 hV.2.1 hV.2.2.2.1
  have v1 := hV.2.1
  have v2 := hV.2.2.2.1
  have hDk : VD g.now.R g.now.C k0.M k0.S k0.T k0.L := by
    have := (hg.2.1 k0 hk).2.1
    rw [hR.1, hR.2] at this
    exact this
  intro d
  induction d with
  | zero =>
    intro a N h S T L had hN hX h12 h13 hH hDD
    obtain ⟨N', rfl⟩ : ∃ N', N = N' + 1 := ⟨N - 1, by omega⟩
    show ∃ h2, b_X11_bringsBack (g_BRING N') (iI 0) (iI a) h = _ ∧ _
    unfold b_X11_bringsBack
    rw [if_neg (by decide), m_standsAs hH (hX.1 k0 hk).1 hDD hDk h25, cal_some]
    unfold brF
    refine ⟨h, ?_, fun _ _ => rfl, hX, h12, h13, fun _ _ _ => ⟨rfl, rfl⟩, fun _ _ => rfl, fun _ _ => rfl, fun p hp j hj => ?_⟩
    · cases smS (g.now.R * g.now.C) S T k0.S k0.T
      · rw [bn_false, rZ0]; rfl
      · rw [bn_true, rZ1]; rfl
    · split at hp
      · rw [← Option.some.inj hp] at hj; exact absurd hj (Nat.not_lt_zero j)
      · cases hp
  | succ d ih =>
    intro a N h S T L had hN hX h12 h13 hH hDD
    obtain ⟨N', rfl⟩ : ∃ N', N = N' + 1 := ⟨N - 1, by omega⟩
    show ∃ h2, b_X11_bringsBack (g_BRING N') (iI (d + 1 : Nat)) (iI a) h = _ ∧ _
    unfold b_X11_bringsBack
    obtain ⟨X, hXX⟩ : ∃ X, X = brF g.now k0.S k0.T (d + 1) S T := ⟨_, rfl⟩
    rw [← hXX]
    obtain ⟨m0, s1, s2, s3, s4⟩ := m_saves (h := h) (a := a) (by omega)
    rw [if_pos (by rw [iI_zero]; exact iI_ne (by omega) (by omega) (by omega)), s1, cal_some]
    obtain ⟨N2, hN2⟩ : ∃ N : Nat, N = 1000000 := ⟨_, rfl⟩
    rw [← hN2]
    have hX' : brW g.now (brF g.now k0.S k0.T d) S T (2 * (g.now.R + g.now.C)) 0 = X := by rw [hXX]; rfl
    refine lo3_t (fun f x2 x3 m => ∃ i : Nat, x3 = iI i ∧ i ≤ 2 * (g.now.R + g.now.C) ∧ (∀ k, k < 305 → gI m 73 k = gI h 73 k) ∧ (∀ k, k < 305 → gI m 79 (305 * a + k) = gI h 73 k) ∧ MX m g ∧ gI m 72 12 = iI (-1) ∧ gI m 72 13 = iI (-1) ∧ FC h m ∧ (∀ k, k < a → gI m 78 k = gI h 78 k) ∧ (∀ k, k < 305 * a → gI m 79 k = gI h 79 k) ∧ ((x2 = iI 0 ∧ i + f = 2 * (g.now.R + g.now.C) + 1 ∧ 1 ≤ f ∧ brW g.now (brF g.now k0.S k0.T d) S T (f - 1) i = X) ∨ (x2 = iI 1 ∧ f = 0 ∧ ∃ p, X = some p ∧ ∀ j (hj : j < p.length), gI m 78 (a + j) = iI p[j]))) (fun o => ∃ h2, o = some (bn X.isSome, h2) ∧ MBr h h2 g a X) ?_ N2 (2 * (g.now.R + g.now.C) + 1) _ _ _ (by omega) ⟨0, rfl, by omega, fun k hk => s3 _ _ (by omega), s2, hX.keep hg.2.1 fun x k q => s3 _ _ (by omega), (s3 _ _ (by omega)).trans h12, (s3 _ _ (by omega)).trans h13, fun x k q => ⟨s3 _ _ (by omega), s4 _ _⟩, fun k hk => s3 _ _ (by omega), fun k hk => s3 _ _ (by omega), Or.inl ⟨rfl, by omega, by omega, hX'⟩⟩
    rintro f x2 x3 m ⟨i, rfl, hiW, r73, r79, hMX, k12, k13, hF, r78, rl79, hmode⟩ Kc
    have hHm : RM m 73 g.now.R g.now.C g.now.K g.now.M S T L := rm_copy hH r73
    have e : (iI (2 * (g.now.R + g.now.C) : Nat) ≤ iI i) = (((2 * (g.now.R + g.now.C) : Nat) : Int) ≤ i) := iI_le ⟨by omega, by omega⟩
    unfold b_X11_bringsBack_k5
    rw [m_windows hHm, cal_some]
    rcases hmode with ⟨rfl, hf, hf1, hL⟩ | ⟨rfl, hf, p, hXp, hp⟩
    · by_cases hi : i = 2 * (g.now.R + g.now.C)
      · left
        have hs : X = none := by rw [← hL, show f - 1 = 0 by omega]; rfl
        rw [if_pos (by rw [e]; omega), rZ0, hs]
        exact ⟨_, rfl, m, rfl, r73, hMX, k12, k13, hF, r78, rl79, fun p hp => by cases hp⟩
      · right
        obtain ⟨f', rfl⟩ : ∃ f', f = f' + 1 + 1 := ⟨f - 2, by omega⟩
        have hL' : brW g.now (brF g.now k0.S k0.T d) S T (f' + 1) i = X := hL
        unfold brW at hL'
        have hH1 : RM (sI m 78 a (iI i)) 73 g.now.R g.now.C g.now.K g.now.M S T L := rm_far hHm (by omega)
        obtain ⟨m2, q1, ⟨⟨L', hH', hD'⟩, q4, q6, q3, q5⟩⟩ := m_ry (wd := -1) hV hH1 hDD ((gI_ne (by omega)).trans k12) (by omega) (win := i) (by omega)
        have hb := ry_b (S := S) (T := T) hV (show i < 2 * (g.now.R + g.now.C) by omega)
        have en : (iI (ry g.now.R g.now.C g.now.K g.now.M i S T).1 < 0) = (((ry g.now.R g.now.C g.now.K g.now.M i S T).1 : Int) < 0) := by rw [iI_zero]; exact iI_lt ⟨by omega, by omega⟩
        have j12 : gI m2 72 12 = iI (-1) := (q5.2.1 12 (by omega) (by omega) (by omega) (by omega) (by omega) (by omega) (by omega)).trans ((gI_ne (by omega)).trans k12)
        have j13 : gI m2 72 13 = iI (-1) := (q5.2.1 13 (by omega) (by omega) (by omega) (by omega) (by omega) (by omega) (by omega)).trans ((gI_ne (by omega)).trans k13)
        have hMX1 : MX (sI m 78 a (iI i)) g := hMX.keep hg.2.1 fun x k q => gI_ne (by omega)
        obtain ⟨m4, t1, t2, t3, t4, t5, t6, t7, t8, t9⟩ := ih (a + 1) N' m2 _ _ L' (by omega) (by omega) (hMX1.fr hg q5) j12 j13 hH' hD'
        obtain ⟨m5, w1, w2, w3, w4⟩ := m_loads (h := m4) (a := a) (by omega)
        rw [if_neg (by rw [e]; omega), if_neg (by decide), ast_i (by omega) (by omega), Int.toNat_natCast, q1, cal2_some, join_eq, join_eq, if_neg (by rw [en]; omega), iI_sub, iI_add, show ((d + 1 : Nat) : Int) - 1 = (d : Int) by omega, show ((a : Int) + 1) = ((a + 1 : Nat) : Int) by omega, t1, cal2_some]
        have o79 : ∀ k, k < 305 * a + 305 → gI m4 79 k = gI m 79 k := fun k hk => (t8 k (by omega)).trans (((q5.1 79 k (by omega) (by omega)).1).trans (gI_ne (by omega)))
        have o78 : ∀ k, k < a → gI m4 78 k = gI m 78 k := fun k hk => (t7 k (by omega)).trans (((q5.1 78 k (by omega) (by omega)).1).trans (gI_ne (by omega)))
        have o78a : gI m4 78 a = iI i := (t7 a (by omega)).trans (((q5.1 78 a (by omega) (by omega)).1).trans gI_same)
        have fc5 : FC h m5 := (((hF.tr fun x k q => ⟨gI_ne (by omega), rfl⟩).tr q5.fc).tr t6).tr fun x k q => ⟨w3 _ _ (by omega), w4 _ _⟩
        have row5 : ∀ k, k < 305 → gI m5 73 k = gI h 73 k := fun k hk => (w2 k hk).trans ((o79 _ (by omega)).trans (r79 k hk))
        have sav5 : ∀ k, k < 305 → gI m5 79 (305 * a + k) = gI h 73 k := fun k hk => (w3 _ _ (by omega)).trans ((o79 _ (by omega)).trans (r79 k hk))
        have mx5 : MX m5 g := t3.keep hg.2.1 fun x k q => w3 _ _ (by omega)
        have l78 : ∀ k, k < a → gI m5 78 k = gI h 78 k := fun k hk => (w3 _ _ (by omega)).trans ((o78 k hk).trans (r78 k hk))
        have l79 : ∀ k, k < 305 * a → gI m5 79 k = gI h 79 k := fun k hk => (w3 _ _ (by omega)).trans ((o79 _ (by omega)).trans (rl79 k hk))
        cases hbr : brF g.now k0.S k0.T d (ry g.now.R g.now.C g.now.K g.now.M i S T).2.1 (ry g.now.R g.now.C g.now.K g.now.M i S T).2.2.1 with
        | none =>
          rw [hbr] at hL'
          rw [show bn (none : Option (List Nat)).isSome = iI 0 from rfl, if_pos (by decide)]
          dsimp only
          rw [w1, cal_some, nm_eq, iI_add]
          exact ⟨f' + 1, _, _, _, by omega, ⟨i + 1, rfl, by omega, row5, sav5, mx5, (w3 _ _ (by omega)).trans t4, (w3 _ _ (by omega)).trans t5, fc5, l78, l79, Or.inl ⟨rfl, by omega, by omega, hL'⟩⟩, rfl⟩
        | some p =>
          rw [hbr] at hL'
          rw [show bn (some p).isSome = iI 1 from rfl, if_neg (by decide)]
          dsimp only
          rw [w1, cal_some, nm_eq, iI_add]
          refine ⟨0, _, _, _, by omega, ⟨i + 1, rfl, by omega, row5, sav5, mx5, (w3 _ _ (by omega)).trans t4, (w3 _ _ (by omega)).trans t5, fc5, l78, l79, Or.inr ⟨rfl, rfl, i :: p, hL'.symm, fun j hj => ?_⟩⟩, rfl⟩
          cases j with
          | zero => rw [Nat.add_zero, w3 _ _ (by omega), o78a]; rfl
          | succ j =>
            have := t9 p hbr j (by simpa using hj)
            rw [show a + (j + 1) = a + 1 + j by omega, w3 _ _ (by omega), this]; rfl
    · left
      refine ⟨some (bn X.isSome, m), ?_, m, rfl, r73, hMX, k12, k13, hF, r78, rl79, fun p' hp' j hj => ?_⟩
      · rw [hXp, show bn (some p).isSome = iI 1 from rfl]
        by_cases hi : 2 * (g.now.R + g.now.C) ≤ i
        · rw [if_pos (by rw [e]; omega), rZ1]
        · rw [if_neg (by rw [e]; omega), if_pos (by decide), rZ1]
      · rw [hXp] at hp'
        obtain rfl := Option.some.inj hp'
        exact hp j hj
theorem m_backO {h : Mem} {x : Int} (hm : MSt h g) (hg : GV g) (hx : -2147483648 ≤ x ∧ x < 2147483648) : OPM h (f_X11_back h (iI x)) (spBack g x).1 (spBack g x).2 := by
  unfold f_X11_back spBack
  rw [m_in hx (by omega) (by omega), cal_some]
  by_cases e1 : -1 ≤ x ∧ x ≤ 2
  · rw [decide_eq_true e1, bn_true, if_pos (by decide), if_pos e1, join_eq, hm.2.2.1, cal2_id]
    cases hk : g.kept with
    | none =>
      rw [if_pos (by decide)]
      exact c_errs hm hg (e := 3) (by omega)
    | some k =>
      have hVk := (hg.2.1 k hk).1
      have hV := hg.1.1
      have b1 := hVk.2.1
      have b2 := hVk.2.2.2.1
      have b3 := hV.2.1
      have b4 := hV.2.2.2.1
      have hK : RM h 74 k.R k.C k.K k.M k.S k.T k.L := (hm.2.1 k hk).1
      have eR : (iI k.R = iI g.now.R) = ((k.R : Int) = g.now.R) := iI_eq ⟨by omega, by omega⟩
      have eC : (iI k.C = iI g.now.C) = ((k.C : Int) = g.now.C) := iI_eq ⟨by omega, by omega⟩
      rw [if_neg (show ¬ bn (some k).isSome = 0 by show ¬ bn true = 0; decide), ald_i (by omega) (by omega), ald_i (by omega) (by omega), show gI h 74 (0 : Int).toNat = _ from hK.1, show gI h 73 (0 : Int).toNat = _ from hm.1.1.1]
      dsimp only
      by_cases d1 : k.R = g.now.R
      · rw [if_neg (by rw [eR]; omega), ald_i (by omega) (by omega), ald_i (by omega) (by omega), show gI h 74 (1 : Int).toNat = _ from hK.2.1, show gI h 73 (1 : Int).toNat = _ from hm.1.1.2.1]
        by_cases d2 : k.C = g.now.C
        · have hR : k.R = g.now.R ∧ k.C = g.now.C := ⟨d1, d2⟩
          rw [if_pos (by rw [eC]; omega), if_pos hR]
          obtain ⟨X, hX⟩ : ∃ X, X = bkN g.now k.S k.T 4 0 := ⟨_, rfl⟩
          rw [← hX]
          obtain ⟨N, hN⟩ : ∃ N : Nat, N = 1000000 := ⟨_, rfl⟩
          rw [← hN]
          refine lo2_t (fun f x9 m => ∃ n : Nat, x9 = iI n ∧ n + f = 4 ∧ bkN g.now k.S k.T f n = X ∧ MSt m g ∧ FC h m) (fun o => OPM h o (match X with | none => (iI (-1000000002), g.fail 2) | some (n, p) => if x < n then (if 0 ≤ x then (iI (p.getD x.toNat 0), g) else (iI n, g)) else (iI (-1000000002), g.fail 2)).1 (match X with | none => (iI (-1000000002), g.fail 2) | some (n, p) => if x < n then (if 0 ≤ x then (iI (p.getD x.toNat 0), g) else (iI n, g)) else (iI (-1000000002), g.fail 2)).2) ?_ N 4 _ _ (by omega) ⟨0, rfl, by omega, hX.symm, hm, fun _ _ _ => ⟨rfl, rfl⟩⟩
          rintro f x9 m ⟨n, rfl, hf, hL, hcs, hF⟩ Kc
          unfold f_X11_back_k11
          have e : (iI 4 ≤ iI n) = ((4 : Int) ≤ n) := iI_le ⟨by omega, by omega⟩
          have e4 : (iI n = iI 4) = ((n : Int) = 4) := iI_eq ⟨by omega, by omega⟩
          rw [join_eq]
          by_cases hn : n = 4
          · left
            have hs : X = none := by rw [← hL, show f = 0 by omega]; rfl
            refine ⟨_, rfl, ?_⟩
            unfold f_X11_back_k13
            rw [if_pos (by rw [e]; omega), join_eq, if_pos (by rw [e4]; omega), cal2_id, hs]
            obtain ⟨m5, t1, t2, t3⟩ := c_errs hcs hg (e := 2) (by omega)
            exact ⟨m5, t1, t2, hF.tr t3⟩
          · obtain ⟨f', rfl⟩ : ∃ f', f = f' + 1 := ⟨f - 1, by omega⟩
            unfold bkN at hL
            obtain ⟨m2, t1, t2, t3, t4, t5, t6, t7, t8, t9⟩ := m_bring hg hk hR n 0 6 m _ _ _ (by omega) (by omega) hcs.mx hcs.w12 hcs.w13 hcs.1.1 hg.1.2.1
            rw [show (iI ((0 : Nat) : Int)) = iI 0 from rfl] at t1
            have hm2 : MSt m2 g := t3.st (hcs.1.copy hg.1 t2) t4 t5
            rw [if_neg (by rw [e]; omega), t1, cal2_some]
            cases hb : brF g.now k.S k.T n g.now.S g.now.T with
            | none =>
              right
              rw [hb] at hL
              rw [show bn (none : Option (List Nat)).isSome = iI 0 from rfl, if_neg (by decide), nm_eq, iI_add]
              exact ⟨f', _, _, Nat.lt_succ_self f', ⟨n + 1, rfl, by omega, hL, hm2, hF.tr t6⟩, rfl⟩
            | some p =>
              left
              rw [hb] at hL
              have hXs : X = some (n, p) := hL.symm
              have hpl := brF_len _ _ _ _ hb
              refine ⟨_, rfl, ?_⟩
              unfold f_X11_back_k13
              rw [show bn (some p).isSome = iI 1 from rfl, if_pos (by decide), join_eq, if_neg (by rw [e4]; omega), hXs]
              have ex : (iI x < iI n) = (x < n) := iI_lt ⟨hx, by omega⟩
              have e0 : (0 ≤ iI x) = (0 ≤ x) := by rw [iI_zero]; exact iI_le ⟨by omega, hx⟩
              dsimp only
              by_cases c1 : x < n
              · rw [if_pos (by rw [ex]; exact c1), if_pos c1]
                by_cases c2 : 0 ≤ x
                · have hv := t9 p hb x.toNat (by omega)
                  rw [Nat.zero_add] at hv
                  rw [if_pos (by rw [e0]; exact c2), if_pos c2, ald_i (by omega) (by omega), hv, List.getElem_eq_getD (h := by omega) 0]
                  exact ⟨m2, rfl, hm2, hF.tr t6⟩
                · rw [if_neg (by rw [e0]; exact c2), if_neg c2]
                  exact ⟨m2, rfl, hm2, hF.tr t6⟩
              · rw [if_neg (by rw [ex]; exact c1), if_neg c1, cal2_id]
                obtain ⟨m5, u1, u2, u3⟩ := c_errs hm2 hg (e := 2) (by omega)
                exact ⟨m5, u1, u2, (hF.tr t6).tr u3⟩
        · rw [if_neg (by rw [eC]; omega), if_neg (fun z => d2 z.2)]
          exact c_errs hm hg (e := 3) (by omega)
      · rw [if_pos (by rw [eR]; omega), if_neg (fun z => d1 z.1)]
        exact c_errs hm hg (e := 3) (by omega)
  · rw [decide_eq_false e1, bn_false, if_neg (by decide), if_neg e1, cal2_id]
    exact c_errs hm hg (e := 1) (by omega)
end MBACKOP
