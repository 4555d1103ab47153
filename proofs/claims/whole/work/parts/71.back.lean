section BACKOP
variable {h : Mem} {g : GS}
theorem hc_farL {a R C b k : Nat} {v : Int64} {K M T L : Nat → Nat} {S : Nat → Bool} (hh : HC h a R C K M S T L) (hb : b < a ∨ a + 3 < b) : HC (sL h b k v) a R C K M S T L := by
  obtain ⟨h1, h2, h3, h4, h5, h6, h7⟩ := hh
  exact ⟨h1, h2, h3, h4, h5, h6, (gL_ne (by omega)).trans h7⟩
/-- the first window by which what follows is reached -/
def brW (s : WH) (rec : (Nat → Bool) → (Nat → Nat) → Option (List Nat)) (S : Nat → Bool) (T : Nat → Nat) : Nat → Nat → Option (List Nat)
  | 0, _ => none
  | f + 1, i => match rec (ry s.R s.C s.K s.M i S T).2.1 (ry s.R s.C s.K s.M i S T).2.2.1 with
    | some p => some (i :: p)
    | none => brW s rec S T f (i + 1)
def brF (s : WH) (S0 : Nat → Bool) (T0 : Nat → Nat) : Nat → (Nat → Bool) → (Nat → Nat) → Option (List Nat)
  | 0, S, T => if smS (s.R * s.C) S T S0 T0 = true then some [] else none
  | d + 1, S, T => brW s (brF s S0 T0 d) S T (2 * (s.R + s.C)) 0
def bkN (s : WH) (S0 : Nat → Bool) (T0 : Nat → Nat) : Nat → Nat → Option (Nat × List Nat)
  | 0, _ => none
  | f + 1, n => match brF s S0 T0 n s.S s.T with
    | some p => some (n, p)
    | none => bkN s S0 T0 f (n + 1)
theorem brF_len {s : WH} {S0 : Nat → Bool} {T0 : Nat → Nat} : ∀ (d : Nat) (S : Nat → Bool) (T : Nat → Nat) (p : List Nat), brF s S0 T0 d S T = some p → p.length = d
  | 0, S, T, p, hp => by
    unfold brF at hp
    split at hp
    · rw [← Option.some.inj hp]; rfl
    · cases hp
  | d + 1, S, T, p, hp => by
    unfold brF at hp
    have go : ∀ (f i : Nat) (p : List Nat), brW s (brF s S0 T0 d) S T f i = some p → p.length = d + 1 := by
      intro f
      induction f with
      | zero => intro i p hq; cases hq
      | succ f ih =>
        intro i p hq
        unfold brW at hq
        cases e : brF s S0 T0 d (ry s.R s.C s.K s.M i S T).2.1 (ry s.R s.C s.K s.M i S T).2.2.1 with
        | some p2 =>
          rw [e] at hq
          have hq2 : some (i :: p2) = some p := hq
          rw [← Option.some.inj hq2, List.length_cons, brF_len d _ _ p2 e]
        | none => rw [e] at hq; exact ih _ _ hq
    exact go _ _ _ hp
/-- the class's way: hall 40, beam 44 -/
def CBr (h h2 : Mem) (g : GS) (a : Nat) (r : Option (List Nat)) : Prop := CSt h2 g ∧ FM h h2 ∧ (∃ S T L, HC h2 40 g.now.R g.now.C g.now.K g.now.M S T L ∧ VD g.now.R g.now.C g.now.M S T L) ∧ (∀ k, k < a → gI h2 45 k = gI h 45 k ∧ gI h2 46 k = gI h 46 k ∧ gL h2 47 k = gL h 47 k) ∧ (∀ p, r = some p → ∀ j (hj : j < p.length), gI h2 45 (a + j) = iI p[j])
theorem c_leads {k0 : WH} (hg : GV g) (hk : g.kept = some k0) (hR : k0.R = g.now.R ∧ k0.C = g.now.C) : ∀ (d a N : Nat) (h : Mem) (S : Nat → Bool) (T L : Nat → Nat), a + d ≤ 3 → 2 * d + 1 ≤ N → CSt h g → HC h 40 g.now.R g.now.C g.now.K g.now.M S T L → VD g.now.R g.now.C g.now.M S T L → ∃ h2, g_LEADS N 0 (iI a) (iI (a + d : Nat)) 16 h = some (bn (brF g.now k0.S k0.T d S T).isSome, h2) ∧ CBr h h2 g a (brF g.now k0.S k0.T d S T) := by
  have hV := hg.1.1
  have hD := hg.1.2.1
  have h25 := sq_25 hV.2.1 hV.2.2.2.1
  have v1 := hV.2.1
  have v2 := hV.2.2.2.1
  have hDk : VD g.now.R g.now.C k0.M k0.S k0.T k0.L := by
    have := (hg.2.1 k0 hk).2.1
    rw [hR.1, hR.2] at this
    exact this
  intro d
  induction d with
  | zero =>
    intro a N h S T L had hN hc hH hDD
    obtain ⟨N', rfl⟩ : ∃ N', N = N' + 1 := ⟨N - 1, by omega⟩
    show ∃ h2, b_X2_leads (g_LEADS N') (iI a) (iI (a + 0 : Nat)) 16 h = _ ∧ _
    unfold b_X2_leads
    have e : (iI (a + 0 : Nat) ≤ iI a) = (((a + 0 : Nat) : Int) ≤ a) := iI_le ⟨by omega, by omega⟩
    rw [join_eq, if_pos (by rw [e]; omega), w_standsAs hH (show HC h 16 k0.R k0.C k0.K k0.M k0.S k0.T k0.L from (hc.2.1 k0 hk).1) hDD hDk h25, cal_some]
    unfold brF
    refine ⟨h, ?_, hc, fun _ _ _ => ⟨rfl, rfl⟩, ⟨S, T, L, hH, hDD⟩, fun _ _ => ⟨rfl, rfl, rfl⟩, fun p hp j hj => ?_⟩
    · cases smS (g.now.R * g.now.C) S T k0.S k0.T
      · rw [bn_false, rZ0]; rfl
      · rw [bn_true, rZ1]; rfl
    · split at hp
      · rw [← Option.some.inj hp] at hj; exact absurd hj (Nat.not_lt_zero j)
      · cases hp
  | succ d ih =>
    intro a N h S T L had hN hc hH hDD
    obtain ⟨N', rfl⟩ : ∃ N', N = N' + 1 + 1 := ⟨N - 2, by omega⟩
    show ∃ h2, b_X2_leads (g_LEADS (N' + 1)) (iI a) (iI (a + (d + 1) : Nat)) 16 h = _ ∧ _
    unfold b_X2_leads
    have e : (iI (a + (d + 1) : Nat) ≤ iI a) = (((a + (d + 1) : Nat) : Int) ≤ a) := iI_le ⟨by omega, by omega⟩
    have e3 : (iI a < iI 3) = ((a : Int) < 3) := iI_lt ⟨by omega, by omega⟩
    rw [join_eq, if_neg (by rw [e]; omega), if_pos (by rw [e3]; omega)]
    show ∃ h2, (cal2 (b_X2_leadsByWindow (g_LEADS N') (iI a) (iI (a + (d + 1) : Nat)) 16 h) fun v3 h4 => rZ v3 (some (v3, h4))) = _ ∧ _
    obtain ⟨X, hX⟩ : ∃ X, X = brF g.now k0.S k0.T (d + 1) S T := ⟨_, rfl⟩
    rw [← hX]
    have key : ∃ h2, b_X2_leadsByWindow (g_LEADS N') (iI a) (iI (a + (d + 1) : Nat)) 16 h = some (bn X.isSome, h2) ∧ CBr h h2 g a X := by
      unfold b_X2_leadsByWindow
      rw [ast_i (by omega) (by omega), Int.toNat_natCast, astL_i (by omega) (by omega), Int.toNat_natCast, hH.2.2.2.2.2.1, show gL (sI h 46 a (slW S)) 40 6 = tmW T from hH.2.2.2.2.2.2]
      obtain ⟨N2, hN2⟩ : ∃ N : Nat, N = 1000000 := ⟨_, rfl⟩
      rw [← hN2]
      have hX' : brW g.now (brF g.now k0.S k0.T d) S T (2 * (g.now.R + g.now.C)) 0 = X := by rw [hX]; rfl
      have c0 : CSt (sL (sI h 46 a (slW S)) 47 a (tmW T)) g := hc.keep (fun b k q => by rw [gI_sL, gI_ne (by omega)]) (by rw [gL_ne (by omega), gL_sI]) (by rw [gL_ne (by omega), gL_sI])
      have H0 : HC (sL (sI h 46 a (slW S)) 47 a (tmW T)) 40 g.now.R g.now.C g.now.K g.now.M S T L := by
        exact hc_farL (hc_far hH (by omega)) (by omega)
      refine lo2_t (fun f x3 m => ∃ (i : Nat) (S' : Nat → Bool) (T' L' : Nat → Nat), x3 = iI i ∧ i + f = 2 * (g.now.R + g.now.C) ∧ brW g.now (brF g.now k0.S k0.T d) S T f i = X ∧ HC m 40 g.now.R g.now.C g.now.K g.now.M S' T' L' ∧ VD g.now.R g.now.C g.now.M S' T' L' ∧ CSt m g ∧ FM h m ∧ gI m 46 a = slW S ∧ gL m 47 a = tmW T ∧ (∀ k, k < a → gI m 45 k = gI h 45 k ∧ gI m 46 k = gI h 46 k ∧ gL m 47 k = gL h 47 k)) (fun o => ∃ h2, o = some (bn X.isSome, h2) ∧ CBr h h2 g a X) ?_ N2 (2 * (g.now.R + g.now.C)) _ _ (by omega) ⟨0, S, T, L, rfl, by omega, hX', H0, hDD, c0, fun b k q => ⟨by rw [gI_sL, gI_ne (by omega)], by rw [gL_ne (by omega), gL_sI]⟩, by rw [gI_sL, gI_same], gL_same, fun k hk => ⟨by rw [gI_sL, gI_ne (by omega)], by rw [gI_sL, gI_ne (by omega)], by rw [gL_ne (by omega), gL_sI]⟩⟩
      rintro f x3 m ⟨i, S', T', L', rfl, hf, hL, hH', hD', hcs, hF, h46, h47, hlow⟩ Kc
      unfold b_X2_leadsByWindow_k5
      have e : (iI (2 * (g.now.R + g.now.C) : Nat) ≤ iI i) = (((2 * (g.now.R + g.now.C) : Nat) : Int) ≤ i) := iI_le ⟨by omega, by omega⟩
      rw [w_windows hH', cal_some]
      by_cases hi : i = 2 * (g.now.R + g.now.C)
      · left
        have hs : X = none := by rw [← hL, show f = 0 by omega]; rfl
        rw [if_pos (by rw [e]; omega), rZ0, hs]
        exact ⟨_, rfl, m, rfl, hcs, hF, ⟨_, _, _, hH', hD'⟩, hlow, fun p hp => by cases hp⟩
      · obtain ⟨f', rfl⟩ : ∃ f', f = f' + 1 := ⟨f - 1, by omega⟩
        unfold brW at hL
        obtain ⟨s1, s2⟩ := w_stand (S' := S) (T' := T) hH'
        obtain ⟨c2, f2⟩ := hcs.standT (a := 40) (x := slW S) (y := tmW T) (by omega)
        obtain ⟨m3, r1, r2⟩ := w_ry (b := 44) hV (by omega) s2 (hDD.of hD') (win := i) (by omega)
        obtain ⟨c3, f3⟩ := c2.ry r2 (by omega)
        obtain ⟨⟨L3, hH3, hD3⟩, -, -, -, -, fr⟩ := r2
        have lowI : ∀ b k, b ≠ 40 → b ≠ 43 → b ≠ 44 → gI m3 b k = gI m b k := fun b k q1 q2 q3 => (fr b k q1 q2 q3).1.trans (gI_ne (h := m) (a := 40) (k := 5) (v := slW S) (by omega))
        have lowL : ∀ b k, b ≠ 40 → b ≠ 43 → b ≠ 44 → gL m3 b k = gL m b k := fun b k q1 q2 q3 => (fr b k q1 q2 q3).2.trans (gL_ne (by omega))
        have c4 : CSt (sI m3 45 a (iI i)) g := c3.keep (fun b k q => gI_ne (by omega)) rfl rfl
        obtain ⟨m4, t1, t2, t3, t4, t5, t6⟩ := ih (a + 1) N' (sI m3 45 a (iI i)) _ _ L3 (by omega) (by omega) c4 (hc_far hH3 (by omega)) hD3
        rw [if_neg (by rw [e]; omega), ald_i (by omega) (by omega), Int.toNat_natCast, aldL_i (by omega) (by omega), Int.toNat_natCast, h46, h47, s1, cal_some, r1, cal2_some, ast_i (by omega) (by omega), Int.toNat_natCast, iI_add, show ((a : Int) + 1) = ((a + 1 : Nat) : Int) by omega, show a + (d + 1) = a + 1 + d by omega, t1, cal2_some]
        have hF4 : FM h m4 := (((hF.tr f2).tr f3).tr fun b k q => ⟨gI_ne (by omega), rfl⟩).tr t3
        have hlow4 : ∀ k, k < a → gI m4 45 k = gI h 45 k ∧ gI m4 46 k = gI h 46 k ∧ gL m4 47 k = gL h 47 k := fun k hk => by
          obtain ⟨u1, u2, u3⟩ := t5 k (by omega)
          obtain ⟨w1, w2, w3⟩ := hlow k hk
          exact ⟨u1.trans ((gI_ne (by omega)).trans ((lowI _ _ (by omega) (by omega) (by omega)).trans w1)), u2.trans ((gI_ne (by omega)).trans ((lowI _ _ (by omega) (by omega) (by omega)).trans w2)), u3.trans ((lowL _ _ (by omega) (by omega) (by omega)).trans w3)⟩
        obtain ⟨ua1, ua2, ua3⟩ := t5 a (by omega)
        cases hb : brF g.now k0.S k0.T d (ry g.now.R g.now.C g.now.K g.now.M i S T).2.1 (ry g.now.R g.now.C g.now.K g.now.M i S T).2.2.1 with
        | none =>
          right
          rw [hb] at hL
          obtain ⟨S4, T4, L4, hH4, hD4⟩ := t4
          rw [show bn (none : Option (List Nat)).isSome = iI 0 from rfl, if_pos (by decide), nm_eq, iI_add]
          exact ⟨f', _, _, Nat.lt_succ_self f', ⟨i + 1, S4, T4, L4, rfl, by omega, hL, hH4, hD4, t2, hF4, ua2.trans ((gI_ne (by omega)).trans ((lowI _ _ (by omega) (by omega) (by omega)).trans h46)), ua3.trans ((lowL _ _ (by omega) (by omega) (by omega)).trans h47), hlow4⟩, rfl⟩
        | some p =>
          left
          rw [hb] at hL
          have hXs : X = some (i :: p) := hL.symm
          rw [show bn (some p).isSome = iI 1 from rfl, if_neg (by decide), rZ1, hXs]
          refine ⟨_, rfl, m4, rfl, t2, hF4, t4, hlow4, fun p' hp' j hj => ?_⟩
          obtain rfl := Option.some.inj hp'
          cases j with
          | zero => rw [Nat.add_zero, ua1, gI_same]; rfl
          | succ j =>
            have := t6 p hb j (by simpa using hj)
            rw [show a + (j + 1) = a + 1 + j by omega, this]; rfl
    obtain ⟨h2, k1, k2⟩ := key
    rw [k1, cal2_some]
    refine ⟨h2, ?_, k2⟩
    cases X with
    | none => exact rZ0
    | some p => exact rZ1
def spBack (g : GS) (x : Int) : Int32 × GS := if -1 ≤ x ∧ x ≤ 2 then (match g.kept with
  | none => (iI (-1000000003), g.fail 3)
  | some k => if k.R = g.now.R ∧ k.C = g.now.C then (match bkN g.now k.S k.T 4 0 with
    | none => (iI (-1000000002), g.fail 2)
    | some (n, p) => if x < n then (if 0 ≤ x then (iI (p.getD x.toNat 0), g) else (iI n, g)) else (iI (-1000000002), g.fail 2)) else (iI (-1000000003), g.fail 3)) else (iI (-1000000001), g.fail 1)
theorem c_raysBack {k0 : WH} (hc : CSt h g) (hg : GV g) (hk : g.kept = some k0) (hR : k0.R = g.now.R ∧ k0.C = g.now.C) :
    ∃ h2, f_X2_raysBack h 3 16 = some (match bkN g.now k0.S k0.T 4 0 with | none => iI (-1) | some (n, _) => iI n, h2) ∧ CSt h2 g ∧ FM h h2 ∧ (∀ n p, bkN g.now k0.S k0.T 4 0 = some (n, p) → n ≤ 3 ∧ p.length = n ∧ ∀ j (hj : j < p.length), gI h2 45 j = iI p[j]) := by
  unfold f_X2_raysBack
  obtain ⟨X, hX⟩ : ∃ X, X = bkN g.now k0.S k0.T 4 0 := ⟨_, rfl⟩
  rw [← hX]
  obtain ⟨N, hN⟩ : ∃ N : Nat, N = 1000000 := ⟨_, rfl⟩
  rw [← hN]
  refine lo2_t (fun f x1 m => ∃ n : Nat, x1 = iI n ∧ n + f = 4 ∧ bkN g.now k0.S k0.T f n = X ∧ CSt m g ∧ FM h m) (fun o => ∃ h2, o = some (match X with | none => iI (-1) | some (n, _) => iI n, h2) ∧ CSt h2 g ∧ FM h h2 ∧ (∀ n p, X = some (n, p) → n ≤ 3 ∧ p.length = n ∧ ∀ j (hj : j < p.length), gI h2 45 j = iI p[j])) ?_ N 4 _ _ (by omega) ⟨0, rfl, by omega, hX.symm, hc, fun _ _ _ => ⟨rfl, rfl⟩⟩
  rintro f x1 m ⟨n, rfl, hf, hL, hcs, hF⟩ Kc
  unfold f_X2_raysBack_k3
  have e : (iI 3 < iI n) = ((3 : Int) < n) := iI_lt ⟨by omega, by omega⟩
  by_cases hn : n = 4
  · left
    have hs : X = none := by rw [← hL, show f = 0 by omega]; rfl
    rw [if_pos (by rw [e]; omega), hs]
    exact ⟨_, rfl, m, rfl, hcs, hF, fun n p q => by cases q⟩
  · obtain ⟨f', rfl⟩ : ∃ f', f = f' + 1 := ⟨f - 1, by omega⟩
    unfold bkN at hL
    obtain ⟨m1, p1, p2, p3, p4, p5, p6⟩ := c_trial (a := 40) hcs (by omega)
    obtain ⟨m2, t1, t2, t3, t4, t5, t6⟩ := c_leads hg hk hR n 0 12 m1 _ _ _ (by omega) (by omega) p3 p2 hg.1.2.1
    rw [Nat.zero_add, show (iI ((0 : Nat) : Int)) = iI 0 from rfl] at t1
    rw [if_neg (by rw [e]; omega), p1, cal_some, t1, cal2_some]
    cases hb : brF g.now k0.S k0.T n g.now.S g.now.T with
    | none =>
      right
      rw [hb] at hL
      rw [show bn (none : Option (List Nat)).isSome = iI 0 from rfl, if_pos (by decide), nm_eq, iI_add]
      exact ⟨f', _, _, Nat.lt_succ_self f', ⟨n + 1, rfl, by omega, hL, t2, (hF.tr p4).tr t3⟩, rfl⟩
    | some p =>
      left
      rw [hb] at hL
      have hXs : X = some (n, p) := hL.symm
      rw [show bn (some p).isSome = iI 1 from rfl, if_neg (by decide), hXs]
      refine ⟨_, rfl, m2, rfl, t2, (hF.tr p4).tr t3, fun n' p' q => ?_⟩
      have q2 := Option.some.inj q
      obtain ⟨rfl, rfl⟩ := Prod.mk.inj q2
      refine ⟨by omega, brF_len _ _ _ _ hb, fun j hj => ?_⟩
      have := t6 p hb j hj
      rw [Nat.zero_add] at this
      exact this
theorem c_back {x : Int} (hc : CSt h g) (hg : GV g) (hI : g.images < 2147483648) (hx : -2147483648 ≤ x ∧ x < 2147483648) : OPC h (f_X10_back h (iI x)) (spBack g x).1 (spBack g x).2 := by
  unfold f_X10_back spBack
  rw [w_within hx (by omega) (by omega), cal_some]
  by_cases e1 : -1 ≤ x ∧ x ≤ 2
  · have e : (iI g.images = 0) = ((g.images : Int) = 0) := by rw [iI_zero]; exact iI_eq ⟨by omega, by omega⟩
    rw [decide_eq_true e1, bn_true, if_pos (by decide), if_pos e1, join_eq, hc.2.2.1, cal2_id]
    cases hk : g.kept with
    | none =>
      rw [if_pos (by rw [e]; have := hg.2.2.2.2.2 hk; omega)]
      exact c_fail hc (e := 3) (by omega)
    | some k =>
      have hn : g.images ≠ 0 := fun z => by rw [hg.2.2.2.2.1 z] at hk; cases hk
      have hVk := (hg.2.1 k hk).1
      have hV := hg.1.1
      have b1 := hVk.2.1
      have b2 := hVk.2.2.2.1
      have b3 := hV.2.1
      have b4 := hV.2.2.2.1
      have hK : HC h 16 k.R k.C k.K k.M k.S k.T k.L := (hc.2.1 k hk).1
      have eR : (iI g.now.R = iI k.R) = ((g.now.R : Int) = k.R) := iI_eq ⟨by omega, by omega⟩
      have eC : (iI g.now.C = iI k.C) = ((g.now.C : Int) = k.C) := iI_eq ⟨by omega, by omega⟩
      have hsz : f_X3_isSizedAs h 3 16 = some (bn (decide (k.R = g.now.R ∧ k.C = g.now.C))) := by
        unfold f_X3_isSizedAs
        rw [hc.1.1.1, hc.1.1.2.1, hK.1, hK.2.1, join_eq]
        by_cases d1 : k.R = g.now.R
        · rw [if_neg (by rw [eR]; omega)]
          by_cases d2 : k.C = g.now.C
          · rw [if_neg (by rw [eC]; omega), rZ1, decide_eq_true ⟨d1, d2⟩]; rfl
          · rw [if_pos (by rw [eC]; omega), rZ0, decide_eq_false (fun z => d2 z.2)]; rfl
        · rw [if_pos (by rw [eR]; omega), rZ0, decide_eq_false (fun z => d1 z.1)]; rfl
      rw [if_neg (by rw [e]; omega), hsz, cal_some]
      dsimp only
      by_cases hR : k.R = g.now.R ∧ k.C = g.now.C
      · rw [decide_eq_true hR, bn_true, if_pos (by decide), if_pos hR]
        obtain ⟨h2, k1, k2, k3, k4⟩ := c_raysBack hc hg hk hR
        rw [k1, cal2_some, join_eq, cal2_id]
        cases hb : bkN g.now k.S k.T 4 0 with
        | none =>
          dsimp only
          rw [if_pos (by decide)]
          obtain ⟨m5, t1, t2, t3⟩ := c_fail k2 (e := 2) (by omega)
          exact ⟨m5, t1, t2, k3.tr t3⟩
        | some np =>
          obtain ⟨n, p⟩ := np
          obtain ⟨n3, pl, pv⟩ := k4 n p hb
          have en : (iI n < 0) = ((n : Int) < 0) := by rw [iI_zero]; exact iI_lt ⟨by omega, by omega⟩
          have ex : (iI x < iI n) = (x < n) := iI_lt ⟨hx, by omega⟩
          have e0 : (0 ≤ iI x) = (0 ≤ x) := by rw [iI_zero]; exact iI_le ⟨by omega, hx⟩
          dsimp only
          rw [if_neg (by rw [en]; omega)]
          by_cases c1 : x < n
          · rw [if_pos (by rw [ex]; exact c1), if_pos c1]
            by_cases c2 : 0 ≤ x
            · rw [if_pos (by rw [e0]; exact c2), if_pos c2, ald_i (by omega) (by omega), pv x.toNat (by omega), List.getElem_eq_getD (h := by omega) 0]
              exact ⟨h2, rfl, k2, k3⟩
            · rw [if_neg (by rw [e0]; exact c2), if_neg c2]
              exact ⟨h2, rfl, k2, k3⟩
          · rw [if_neg (by rw [ex]; exact c1), if_neg c1]
            obtain ⟨m5, t1, t2, t3⟩ := c_fail k2 (e := 2) (by omega)
            exact ⟨m5, t1, t2, k3.tr t3⟩
      · rw [decide_eq_false hR, bn_false, if_neg (by decide), if_neg hR]
        exact c_fail hc (e := 3) (by omega)
  · rw [decide_eq_false e1, bn_false, if_neg (by decide), if_neg e1, cal2_id]
    exact c_fail hc (e := 1) (by omega)
theorem GV.back {x : Int} (hg : GV g) : GV (spBack g x).2 := by
  unfold spBack
  by_cases e1 : -1 ≤ x ∧ x ≤ 2
  · rw [if_pos e1]
    cases g.kept with
    | none => exact hg.fail 3
    | some k =>
      dsimp only
      by_cases hR : k.R = g.now.R ∧ k.C = g.now.C
      · rw [if_pos hR]
        cases bkN g.now k.S k.T 4 0 with
        | none => exact hg.fail 2
        | some np =>
          obtain ⟨n, p⟩ := np
          dsimp only
          split
          · split <;> exact hg
          · exact hg.fail 2
      · rw [if_neg hR]; exact hg.fail 3
  · rw [if_neg e1]; exact hg.fail 1
end BACKOP
