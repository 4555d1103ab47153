section THRONE3
variable {h : Mem} {g : GS}
theorem or_two {S : Nat → Bool} {i j : Nat} (hi : i < 25) (hj : j < 25) (hij : i ≠ j) : slW S ^^^ (shlI (iI 1) (iI i) ||| shlI (iI 1) (iI j)) = slW (flS (flS S i) j) := by
  apply b_ext
  intro k hk
  rw [b_xor, b_or, b_slN _ _ (by omega) k hk, b_slN _ _ (by omega) k hk, b_bit (by omega) hk, b_bit (by omega) hk]
  unfold flS upB
  by_cases h1 : k = j
  · subst h1
    have h2 : ¬ k = i := fun q => hij q.symm
    simp [hj, h2]
  · by_cases h2 : k = i
    · subst h2; simp [hi, h1]
    · simp [h1, h2]
theorem c_two {m0 : Mem} {sq w : Nat} (hg : GV g) (hl : LDC h m0 g sq w) (hsq : sq < 25) (hw : w < 2 * (g.now.R + g.now.C)) (h4 : gI m0 50 4 = iI 0) : ∃ m2, f_X4_leadByTwo m0 2 = some (bn (twoF g.now sq w (g.now.R * g.now.C) 0 none).isSome, m2) ∧ LDC h m2 g sq w ∧ BSC m2 2 (twoF g.now sq w (g.now.R * g.now.C) 0 none) := by
  have hV := hg.1.1
  have h25 := sq_25 hV.2.1 hV.2.2.2.1
  unfold f_X4_leadByTwo
  obtain ⟨X, hX⟩ : ∃ X, X = twoF g.now sq w (g.now.R * g.now.C) 0 none := ⟨_, rfl⟩
  rw [← hX]
  obtain ⟨N, hN⟩ : ∃ N : Nat, N = 1000000 := ⟨_, rfl⟩
  rw [← hN]
  refine lo2_t (fun f x1 m => ∃ (i : Nat) (b : BST), x1 = iI i ∧ i + f = g.now.R * g.now.C ∧ twoF g.now sq w f i b = X ∧ BOK b ∧ BSC m 2 b ∧ LDC h m g sq w) (fun o => ∃ m2, o = some (bn X.isSome, m2) ∧ LDC h m2 g sq w ∧ BSC m2 2 X) ?_ N (g.now.R * g.now.C) _ _ (by omega) ⟨0, none, rfl, by omega, hX.symm, BOK.non, h4, hl⟩
  rintro f x1 m ⟨i, b, rfl, hf, hA, hok, hb, hL⟩ Kc
  unfold f_X4_leadByTwo_k3
  have e : (iI (g.now.R * g.now.C : Nat) ≤ iI i) = (((g.now.R * g.now.C : Nat) : Int) ≤ i) := iI_le ⟨by omega, by omega⟩
  rw [w_squares (a := 2 + 1) hL.1.1.1, cal_some]
  by_cases hi : i = g.now.R * g.now.C
  · left
    have hs : X = b := by rw [← hA, show f = 0 by omega]; rfl
    rw [if_pos (by rw [e]; omega), end_off (by omega) hb, hs]
    exact ⟨_, rfl, m, rfl, hL, hb⟩
  · right
    obtain ⟨f', rfl⟩ : ∃ f', f = f' + 1 := ⟨f - 1, by omega⟩
    unfold twoF at hA
    rw [if_neg (by rw [e]; omega), iI_add, nm_eq]
    obtain ⟨Y, hY⟩ : ∃ Y, Y = twoI g.now sq w i f' (i + 1) b := ⟨_, rfl⟩
    rw [← hY] at hA
    have key : ∃ m9, lo2 (f_X4_leadByTwo_k8 2 (iI i) Kc) 1000000 (iI ((i : Int) + 1)) m = Kc (iI (i + 1 : Nat)) m9 ∧ BOK Y ∧ BSC m9 2 Y ∧ LDC h m9 g sq w := by
      refine lo2_t (fun f x6 mm => ∃ (j : Nat) (c : BST), x6 = iI j ∧ i < j ∧ j + f = g.now.R * g.now.C ∧ twoI g.now sq w i f j c = Y ∧ BOK c ∧ BSC mm 2 c ∧ LDC h mm g sq w) (fun o => ∃ m9, o = Kc (iI (i + 1 : Nat)) m9 ∧ BOK Y ∧ BSC m9 2 Y ∧ LDC h m9 g sq w) ?_ 1000000 f' _ _ (by omega) ⟨i + 1, b, rfl, by omega, by omega, hY.symm, hok, hb, hL⟩
      rintro f x6 mm ⟨j, c, rfl, hij, hf2, hA2, hok2, hb2, hL2⟩ Kc2
      unfold f_X4_leadByTwo_k8
      have e2 : (iI (g.now.R * g.now.C : Nat) ≤ iI j) = (((g.now.R * g.now.C : Nat) : Int) ≤ j) := iI_le ⟨by omega, by omega⟩
      rw [w_squares (a := 2 + 1) hL2.1.1.1, cal_some, join_eq, nm_eq, iI_add]
      by_cases hj : j = g.now.R * g.now.C
      · left
        have hs : Y = c := by rw [← hA2, show f = 0 by omega]; rfl
        rw [if_pos (by rw [e2]; omega), hs]
        exact ⟨_, rfl, mm, rfl, hok2, hb2, hL2⟩
      · rw [if_neg (by rw [e2]; omega), w_handCan (a := 2 + 1) hL2.1.1.1 (hV.2.2.2.2.1 i) (by omega), cal_some]
        cases hti : trn (g.now.K i)
        · left
          rw [twoI_skip hti] at hA2
          rw [bn_false, if_pos (by decide), ← hA2]
          exact ⟨_, rfl, mm, rfl, hok2, hb2, hL2⟩
        · right
          obtain ⟨f'', rfl⟩ : ∃ f'', f = f'' + 1 := ⟨f - 1, by omega⟩
          unfold twoI at hA2
          rw [bn_true, if_neg (by decide), w_handCan (a := 2 + 1) hL2.1.1.1 (hV.2.2.2.2.1 j) (by omega), cal_some, join_eq]
          have nxt : ∀ (b' : BST) (m9 : Mem), twoI g.now sq w i f'' (j + 1) b' = Y → BOK b' → BSC m9 2 b' → LDC h m9 g sq w → ∃ f3 a' b'', f3 < f'' + 1 ∧ (∃ (j : Nat) (c : BST), a' = iI j ∧ i < j ∧ j + f3 = g.now.R * g.now.C ∧ twoI g.now sq w i f3 j c = Y ∧ BOK c ∧ BSC b'' 2 c ∧ LDC h b'' g sq w) ∧ (fun h14 => nm (iI (j : Int) + iI 1) fun x16 => Kc2 x16 h14) m9 = Kc2 a' b'' := fun b' m9 q1 q2 q3 q4 =>
            ⟨f'', iI (j + 1 : Nat), m9, Nat.lt_succ_self f'', ⟨j + 1, b', rfl, by omega, by omega, q1, q2, q3, q4⟩, by dsimp only; rw [nm_eq, iI_add]; rfl⟩
          cases htj : trn (g.now.K j)
          · rw [if_neg (fun q => by rw [htj] at q; exact absurd q.2.1 (by decide))] at hA2
            rw [bn_false, if_pos (by decide)]
            exact nxt c mm hA2 hok2 hb2 hL2
          · obtain ⟨m2, r1, r2, r3⟩ := c_isLit (mask := shlI (iI 1) (iI i) ||| shlI (iI 1) (iI j)) (S' := flS (flS g.now.S i) j) hg hL2 hsq hw (or_two (by omega) (by omega) (by omega)) (flS_VD (flS_VD hg.1.2.1 (show i < _ by omega)) (show j < _ by omega))
            rw [bn_true, if_neg (by decide), show (2 + 1 : Nat) = 3 from rfl, r1, cal2_some]
            cases hlit : litB g.now sq w (flS (flS g.now.S i) j)
            · rw [if_neg (fun q => by rw [hlit] at q; exact absurd q.2.2 (by decide))] at hA2
              rw [bn_false, if_pos (by decide)]
              exact nxt c m2 hA2 hok2 (hb2.cong r3) r2
            · rw [if_pos ⟨hti, htj, hlit⟩] at hA2
              obtain ⟨m3, s1, s2, s3⟩ := r2.cost hg (q := i) (by omega)
              obtain ⟨m4, t1, t2, t3⟩ := s2.cost hg (q := j) (by omega)
              obtain ⟨-, c2, c3⟩ := cz_i g.now i
              obtain ⟨-, d2, d3⟩ := cz_i g.now j
              obtain ⟨m5, u1, u2, u3, u4⟩ := c_offer (wh := 100 * (i : Int) + (j : Int)) (c := cz g.now i + cz g.now j) (show 1 ≤ 2 ∧ 2 ≤ 2 by omega) (((hb2.cong r3).cong s3).cong t3) hok2 (by omega)
              rw [bn_true, if_neg (by decide), s1, cal2_some, t1, cal2_some, iI_mul, iI_add, iI_add, show (iI 2) = iI ((2 : Nat) : Int) from rfl, u1, cal_some]
              exact nxt _ m5 hA2 (hok2.off2 (by omega)) u2 (t2.off u3 u4)
    obtain ⟨m9, k1, k2, k3, k4⟩ := key
    exact ⟨f', iI (i + 1 : Nat), m9, Nat.lt_succ_self f', ⟨i + 1, Y, rfl, by omega, hA, k2, k3, k4⟩, k1⟩
/-- how a throne is lit: hands, where, cost -/
def thrA (s : WH) (sq w : Nat) : Option (Nat × Int × Int) :=
  if litB s sq w s.S = true then some (0, -1, 0) else match oneF s sq w (s.R * s.C) 0 none with
  | some (wh, c) => some (1, wh, c)
  | none => match twoF s sq w (s.R * s.C) 0 none with
    | some (wh, c) => some (2, wh, c)
    | none => none
theorem c_lead {sq w : Nat} (hc : CSt h g) (hg : GV g) (hsq : sq < 25) (hw : w < 2 * (g.now.R + g.now.C)) : ∃ h2, f_X4_lead h 2 (iI sq) (iI w) = some (bn (thrA g.now sq w).isSome, h2) ∧ CSt h2 g ∧ FM h h2 ∧ (∀ n wh c, thrA g.now sq w = some (n, wh, c) → gI h2 50 4 = iI n ∧ gI h2 50 5 = iI wh ∧ gI h2 50 6 = iI c) := by
  unfold f_X4_lead
  simp only [nm_eq]
  generalize hm : sI (sI (sI (sI (sI h 50 2 (iI sq)) 50 3 (iI w)) 50 4 (iI 0)) 50 5 (iI (-1))) 50 6 (iI 0) = m
  have e : ∀ x k, x ≠ 50 → gI m x k = gI h x k := fun x k q => by rw [← hm, gI_ne (by omega), gI_ne (by omega), gI_ne (by omega), gI_ne (by omega), gI_ne (by omega)]
  have eL : ∀ x k, gL m x k = gL h x k := fun x k => by rw [← hm]; rfl
  have c0 : CSt m g := hc.keep (fun a k q => e a k (by omega)) (eL _ _) (eL _ _)
  obtain ⟨m1, p1, p2, p3, p4, p5, p6⟩ := c_trial (a := 51) c0 (by omega)
  have o : ∀ k, gI m1 50 k = gI m 50 k := fun k => p5 50 k (by omega)
  have o2 : gI m1 50 2 = iI sq := (o 2).trans (by rw [← hm, gI_ne (by omega), gI_ne (by omega), gI_ne (by omega), gI_ne (by omega), gI_same])
  have o3 : gI m1 50 3 = iI w := (o 3).trans (by rw [← hm, gI_ne (by omega), gI_ne (by omega), gI_ne (by omega), gI_same])
  have o4 : gI m1 50 4 = iI 0 := (o 4).trans (by rw [← hm, gI_ne (by omega), gI_ne (by omega), gI_same])
  have o5 : gI m1 50 5 = iI (-1) := (o 5).trans (by rw [← hm, gI_ne (by omega), gI_same])
  have o6 : gI m1 50 6 = iI 0 := (o 6).trans (by rw [← hm, gI_same])
  have l1 : LDC h m1 g sq w := ⟨p3, fun x k q => ⟨(p4 x k q).1.trans (e x k (by omega)), (p4 x k q).2.trans (eL _ _)⟩, o2, o3, _, _, _, p2, hg.1.2.1⟩
  obtain ⟨m2, r1, r2, r3⟩ := c_isLit (mask := iI 0) (S' := g.now.S) hg l1 hsq hw (by
    apply b_ext; intro i hi; rw [b_xor, b_0, Bool.xor_false]) hg.1.2.1
  rw [p1, cal_some, show (2 + 1 : Nat) = 3 from rfl, r1, cal2_some, join_eq]
  unfold thrA
  cases hlit : litB g.now sq w g.now.S
  · rw [bn_false, if_neg (by decide), if_neg (by decide)]
    obtain ⟨m3, s1, s2, s3⟩ := c_one hg r2 hsq hw ((r3 4).trans o4)
    rw [s1, cal2_some]
    cases hone : oneF g.now sq w (g.now.R * g.now.C) 0 none with
    | some p =>
      obtain ⟨wh, c⟩ := p
      rw [hone] at s3
      rw [show bn (some (wh, c)).isSome = iI 1 from rfl, if_pos (by decide)]
      dsimp only
      rw [rZ1]
      refine ⟨m3, rfl, s2.1, s2.2.1, fun n wh' c' q => ?_⟩
      have q2 := Option.some.inj q
      obtain ⟨rfl, q3⟩ := Prod.mk.inj q2
      obtain ⟨rfl, rfl⟩ := Prod.mk.inj q3
      exact s3
    | none =>
      rw [hone] at s3
      obtain ⟨m4, t1, t2, t3⟩ := c_two hg s2 hsq hw s3
      rw [show bn (none : BST).isSome = iI 0 from rfl, if_neg (by decide), t1, cal2_some]
      dsimp only
      cases htwo : twoF g.now sq w (g.now.R * g.now.C) 0 none with
      | some p =>
        obtain ⟨wh, c⟩ := p
        rw [htwo] at t3
        rw [show bn (some (wh, c)).isSome = iI 1 from rfl, if_neg (by decide), rZ1]
        refine ⟨m4, rfl, t2.1, t2.2.1, fun n wh' c' q => ?_⟩
        have q2 := Option.some.inj q
        obtain ⟨rfl, q3⟩ := Prod.mk.inj q2
        obtain ⟨rfl, rfl⟩ := Prod.mk.inj q3
        exact t3
      | none =>
        rw [show bn (none : BST).isSome = iI 0 from rfl, if_pos (by decide), rZ0]
        exact ⟨m4, rfl, t2.1, t2.2.1, fun n wh' c' q => by cases q⟩
  · rw [bn_true, if_pos (by decide), if_pos rfl]
    dsimp only
    rw [rZ1]
    refine ⟨m2, rfl, r2.1, r2.2.1, fun n wh' c' q => ?_⟩
    have q2 := Option.some.inj q
    obtain ⟨rfl, q3⟩ := Prod.mk.inj q2
    obtain ⟨rfl, rfl⟩ := Prod.mk.inj q3
    exact ⟨(r3 4).trans o4, (r3 5).trans o5, (r3 6).trans o6⟩
def spThrone (g : GS) (x y z : Int) : Int32 × GS := if (0 ≤ x ∧ x < (g.now.R * g.now.C : Nat)) ∧ (0 ≤ y ∧ y < (2 * (g.now.R + g.now.C) : Nat)) ∧ (0 ≤ z ∧ z ≤ 2) then (match thrA g.now x.toNat y.toNat with
  | some (n, wh, c) => ((if z = 0 then iI n else if z = 1 then iI wh else iI c), g)
  | none => (iI (-1000000002), g.fail 2)) else (iI (-1000000001), g.fail 1)
theorem c_throne {x y z : Int} (hc : CSt h g) (hg : GV g) (hx : -2147483648 ≤ x ∧ x < 2147483648) (hy : -2147483648 ≤ y ∧ y < 2147483648) (hz : -2147483648 ≤ z ∧ z < 2147483648) : OPC h (f_X10_throne h (iI x) (iI y) (iI z)) (spThrone g x y z).1 (spThrone g x y z).2 := by
  have hV := hg.1.1
  have h25 := sq_25 hV.2.1 hV.2.2.2.1
  unfold f_X10_throne spThrone
  rw [w_hasSquare hc.1.1 hV hx, cal_some, join_eq, cal2_id]
  by_cases e1 : 0 ≤ x ∧ x < (g.now.R * g.now.C : Nat)
  · rw [decide_eq_true e1, bn_true, if_neg (by decide), w_hasWindow hc.1.1 hV hy, cal_some]
    by_cases e2 : 0 ≤ y ∧ y < (2 * (g.now.R + g.now.C) : Nat)
    · rw [decide_eq_true e2, bn_true, if_neg (by decide), w_within hz (by omega) (by omega), cal_some]
      by_cases e3 : 0 ≤ z ∧ z ≤ 2
      · rw [decide_eq_true e3, bn_true, if_pos (by decide), if_pos ⟨e1, e2, e3⟩]
        obtain ⟨m2, k1, k2, k3, k4⟩ := c_lead (sq := x.toNat) (w := y.toNat) hc hg (by omega) (by omega)
        rw [show ((x.toNat : Nat) : Int) = x by omega, show ((y.toNat : Nat) : Int) = y by omega] at k1
        rw [k1, cal2_some]
        cases ht : thrA g.now x.toNat y.toNat with
        | none =>
          rw [show bn (none : Option (Nat × Int × Int)).isSome = iI 0 from rfl, if_neg (by decide), cal2_id]
          obtain ⟨m5, t1, t2, t3⟩ := c_fail k2 (e := 2) (by omega)
          exact ⟨m5, t1, t2, k3.tr t3⟩
        | some p =>
          obtain ⟨n, wh, c⟩ := p
          obtain ⟨d1, d2, d3⟩ := k4 n wh c ht
          rw [show bn (some (n, wh, c)).isSome = iI 1 from rfl, if_pos (by decide), d1, d2, d3]
          dsimp only
          by_cases z0 : z = 0
          · rw [if_neg (by rw [z0]; decide), if_pos z0]
            exact ⟨m2, rfl, k2, k3⟩
          · rw [if_pos (by rw [iI_zero]; exact iI_ne hz (by omega) z0), if_neg z0]
            by_cases z1 : z = 1
            · rw [if_neg (by rw [z1]; decide), if_pos z1]
              exact ⟨m2, rfl, k2, k3⟩
            · rw [if_pos (iI_ne hz (by omega) z1), if_neg z1]
              exact ⟨m2, rfl, k2, k3⟩
      · rw [decide_eq_false e3, bn_false, if_neg (by decide), if_neg (fun q => e3 q.2.2)]
        exact c_fail hc (e := 1) (by omega)
    · rw [decide_eq_false e2, bn_false, if_pos (by decide), if_neg (fun q => e2 q.2.1)]
      exact c_fail hc (e := 1) (by omega)
  · rw [decide_eq_false e1, bn_false, if_pos (by decide), if_neg (fun q => e1 q.1)]
    exact c_fail hc (e := 1) (by omega)
theorem GV.throne {x y z : Int} (hg : GV g) : GV (spThrone g x y z).2 := by
  unfold spThrone
  by_cases e : (0 ≤ x ∧ x < (g.now.R * g.now.C : Nat)) ∧ (0 ≤ y ∧ y < (2 * (g.now.R + g.now.C) : Nat)) ∧ (0 ≤ z ∧ z ≤ 2)
  · rw [if_pos e]
    cases thrA g.now x.toNat y.toNat with
    | none => exact hg.fail 2
    | some p => exact hg
  · rw [if_neg e]; exact hg.fail 1
end THRONE3
