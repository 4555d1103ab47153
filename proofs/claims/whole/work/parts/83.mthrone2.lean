section MTHRONE2
variable {h : Mem} {g : GS}
/-- found: none yet, or n hands somewhere at a cost -/
theorem m_findHands {sq w : Nat} (hm : MSt h g) (hg : GV g) (hsq : sq < 25) (hw : w < 2 * (g.now.R + g.now.C)) : ∃ h2, f_X11_findHands h (iI sq) (iI w) = some h2 ∧ STM h h2 g ∧ (match thrA g.now sq w with | none => gI h2 72 26 = iI (-1) | some (n, wh, c) => gI h2 72 26 = iI n ∧ gI h2 72 27 = iI wh ∧ gI h2 72 28 = iI c) := by
  have hV := hg.1.1
  have h25 := sq_25 hV.2.1 hV.2.2.2.1
  unfold f_X11_findHands
  obtain ⟨m1, r1, r2⟩ := m_lights (a3 := -1) (a4 := -1) (S' := g.now.S) hm hg hsq hw (Or.inl ⟨rfl, rfl, rfl⟩)
  rw [r1, cal2_some, join_eq]
  have s1 : STM h m1 g := ⟨r2.1, r2.2.1⟩
  unfold thrA
  cases hlit : litB g.now sq w g.now.S
  · rw [bn_false, if_pos (by decide), if_neg Bool.false_ne_true]
    dsimp only
    rw [nm_eq, nm_eq, nm_eq]
    have s2 := ((s1.fld (k := 26) (v := iI (-1)) hg (by omega)).fld (k := 27) (v := iI (-1)) hg (by omega)).fld (k := 28) (v := iI 0) hg (by omega)
    have g26 : gI (sI (sI (sI m1 72 26 (iI (-1))) 72 27 (iI (-1))) 72 28 (iI 0)) 72 26 = iI (-1) := by rw [gI_ne (by omega), gI_ne (by omega), gI_same]
    obtain ⟨X, hX⟩ : ∃ X, X = oneF g.now sq w (g.now.R * g.now.C) 0 none := ⟨_, rfl⟩
    rw [← hX]
    obtain ⟨N, hN⟩ : ∃ N : Nat, N = 1000000 := ⟨_, rfl⟩
    rw [← hN]
    refine lo2_t (fun f x8 m => ∃ (i : Nat) (b : BST), x8 = iI i ∧ i + f = g.now.R * g.now.C ∧ oneF g.now sq w f i b = X ∧ BOK b ∧ BSM m 1 b ∧ STM h m g) (fun o => ∃ h2, o = some h2 ∧ STM h h2 g ∧ (match (generalizing := false) (match (generalizing := false) X with | some (wh, c) => some (1, wh, c) | none => match (generalizing := false) twoF g.now sq w (g.now.R * g.now.C) 0 none with | some (wh, c) => some (2, wh, c) | none => none : Option (Nat × Int × Int)) with | none => gI h2 72 26 = iI (-1) | some (n, wh, c) => gI h2 72 26 = iI n ∧ gI h2 72 27 = iI wh ∧ gI h2 72 28 = iI c)) ?_ N (g.now.R * g.now.C) _ _ (by omega) ⟨0, none, rfl, by omega, hX.symm, BOK.non, g26, s2⟩
    rintro f x8 m ⟨i, b, rfl, hf, hA, hok, hb, hL⟩ Kc
    unfold f_X11_findHands_k10
    have e : (iI (g.now.R * g.now.C : Nat) ≤ iI i) = (((g.now.R * g.now.C : Nat) : Int) ≤ i) := iI_le ⟨by omega, by omega⟩
    rw [m_many hL.1.1.1, cal_some, join_eq]
    by_cases hi : i = g.now.R * g.now.C
    · left
      have hsX : X = b := by rw [← hA, show f = 0 by omega]; rfl
      rw [if_pos (by rw [e]; omega), hsX]
      cases b with
      | none =>
        obtain ⟨m2, t1, t2, t3⟩ := m_two hg hL hsq hw hb
        rw [show gI m 72 26 = iI (-1) from hb, if_pos (by decide), t1]
        refine ⟨_, rfl, m2, rfl, t2, ?_⟩
        dsimp only
        cases htwo : twoF g.now sq w (g.now.R * g.now.C) 0 none with
        | none => rw [htwo] at t3; exact t3
        | some p => obtain ⟨wh, c⟩ := p; rw [htwo] at t3; exact t3
      | some p =>
        obtain ⟨wh, c⟩ := p
        rw [show gI m 72 26 = iI ((1 : Nat) : Int) from hb.1, if_neg (by decide)]
        exact ⟨_, rfl, m, rfl, hL, hb⟩
    · right
      obtain ⟨f', rfl⟩ : ∃ f', f = f' + 1 := ⟨f - 1, by omega⟩
      unfold oneF at hA
      have hne0 : ¬ gI m 72 26 = 0 := by
        cases b with
        | none => rw [show gI m 72 26 = iI (-1) from hb]; decide
        | some p => rw [show gI m 72 26 = iI ((1 : Nat) : Int) from hb.1]; decide
      rw [if_neg (by rw [e]; omega), if_neg hne0, m_canTurn hL.1.1.1 (hV.2.2.2.2.1 i) (by omega), cal_some, join_eq, join_eq]
      have nxt : ∀ (b' : BST) (m9 : Mem), oneF g.now sq w f' (i + 1) b' = X → BOK b' → BSM m9 1 b' → STM h m9 g → ∃ f3 a' b'', f3 < f' + 1 ∧ (∃ (i : Nat) (b : BST), a' = iI i ∧ i + f3 = g.now.R * g.now.C ∧ oneF g.now sq w f3 i b = X ∧ BOK b ∧ BSM b'' 1 b ∧ STM h b'' g) ∧ f_X11_findHands_k51 (iI i) Kc (iI 0) m9 = Kc a' b'' := fun b' m9 q1 q2 q3 q4 =>
        ⟨f', iI (i + 1 : Nat), m9, Nat.lt_succ_self f', ⟨i + 1, b', rfl, by omega, q1, q2, q3, q4⟩, by
          unfold f_X11_findHands_k51
          rw [join_eq, if_pos (by decide)]
          dsimp only
          rw [nm_eq, iI_add]; rfl⟩
      cases hti : trn (g.now.K i)
      · rw [if_neg (fun q => by rw [hti] at q; exact absurd q.1 (by decide))] at hA
        rw [bn_false, if_pos (by decide)]
        exact nxt b m hA hok hb hL
      · obtain ⟨-, c2, c3⟩ := cz_i g.now i
        rw [bn_true, if_neg (by decide), join_eq]
        have lit : ∀ m9 : Mem, (b = none ∨ ∃ w0 c0, b = some (w0, c0) ∧ ¬ c0 ≤ cz g.now i) → BSM m9 1 b → STM h m9 g → ∃ f3 a' b'', f3 < f' + 1 ∧ (∃ (i : Nat) (b : BST), a' = iI i ∧ i + f3 = g.now.R * g.now.C ∧ oneF g.now sq w f3 i b = X ∧ BOK b ∧ BSM b'' 1 b ∧ STM h b'' g) ∧ (cal2 (f_X11_lights m9 (iI sq) (iI w) (iI i) (iI (-1))) fun v64 h65 => if v64 = 0 then f_X11_findHands_k51 (iI i) Kc (iI 0) h65 else f_X11_findHands_k51 (iI i) Kc (iI 1) h65) = Kc a' b'' := fun m9 hc9 hb9 hs9 => by
          obtain ⟨m2, r1, r2⟩ := m_lights (a3 := (i : Int)) (a4 := -1) (S' := flS g.now.S i) hs9.1 hg hsq hw (Or.inr (Or.inl ⟨i, by omega, rfl, rfl, rfl⟩))
          rw [r1, cal2_some]
          cases hlit : litB g.now sq w (flS g.now.S i)
          · rw [if_neg (fun q => by rw [hlit] at q; exact absurd q.2 (by decide))] at hA
            rw [bn_false, if_pos (by decide)]
            exact nxt b m2 hA hok (hb9.cong r2.2.2) (hs9.lt r2)
          · rw [if_pos ⟨hti, hlit⟩] at hA
            have ho : ofr b (101 * (i : Int)) (cz g.now i) = some (101 * (i : Int), cz g.now i) := by
              rcases hc9 with q | ⟨w0, c0, q, q2⟩
              · rw [q]; rfl
              · rw [q]; show (if c0 ≤ cz g.now i then _ else _) = _; rw [if_neg q2]
            rw [ho] at hA
            have z1 := ((hs9.lt r2).fld (k := 26) (v := iI 1) hg (by omega)).fld (k := 27) (v := iI (101 * (i : Int))) hg (by omega)
            obtain ⟨m3, s1, s2, s3⟩ := z1.self.cost hg (q := i) (by omega)
            have z3 := z1.lt s2
            rw [bn_true, if_neg (by decide)]
            unfold f_X11_findHands_k51
            rw [join_eq, if_neg (by decide), nm_eq, iI_mul, nm_eq, s1, cal2_some, nm_eq]
            dsimp only
            rw [nm_eq, iI_add]
            refine ⟨f', iI (i + 1 : Nat), _, Nat.lt_succ_self f', ⟨i + 1, _, rfl, by omega, hA, fun wh' c' e' => ?_, ⟨?_, ?_, gI_same⟩, z3.fld hg (by omega)⟩, rfl⟩
            · have e2' := Option.some.inj e'
              obtain ⟨-, rfl⟩ := Prod.mk.inj e2'
              omega
            · rw [gI_ne (by omega), s3 _ (by omega), gI_ne (by omega), gI_same]; rfl
            · rw [gI_ne (by omega), s3 _ (by omega), gI_same]
        cases b with
        | none =>
          rw [show gI m 72 26 = iI (-1) from hb, if_pos (by decide)]
          exact lit m (Or.inl rfl) hb hL
        | some p =>
          obtain ⟨w0, c0⟩ := p
          obtain ⟨b26, b27, b28⟩ := id hb
          have hc0 := hok w0 c0 rfl
          obtain ⟨m3, s1, s2, s3⟩ := hL.self.cost hg (q := i) (by omega)
          have hb4 : BSM m3 1 (some (w0, c0)) := ⟨(s3 _ (by omega)).trans b26, (s3 _ (by omega)).trans b27, (s3 _ (by omega)).trans b28⟩
          have e28 : (iI c0 ≤ iI (cz g.now i)) = (c0 ≤ cz g.now i) := iI_le ⟨by omega, by omega⟩
          rw [b26, if_neg (by decide), s1, cal2_some, hb4.2.2]
          by_cases hle : c0 ≤ cz g.now i
          · rw [if_pos (by rw [e28]; exact hle)]
            have hsame : (if trn (g.now.K i) = true ∧ litB g.now sq w (flS g.now.S i) = true then ofr (some (w0, c0)) (101 * (i : Int)) (cz g.now i) else some (w0, c0)) = some (w0, c0) := by
              split
              · show (if c0 ≤ cz g.now i then _ else _) = _
                rw [if_pos hle]
              · rfl
            have hA3 : oneF g.now sq w f' (i + 1) (some (w0, c0)) = X := (congrArg (oneF g.now sq w f' (i + 1)) hsame).symm.trans hA
            exact nxt _ m3 hA3 hok hb4 (hL.lt s2)
          · rw [if_neg (by rw [e28]; exact hle)]
            exact lit m3 (Or.inr ⟨w0, c0, rfl, hle⟩) hb4 (hL.lt s2)
  · rw [bn_true, if_neg (by decide), if_pos rfl]
    dsimp only
    rw [nm_eq, nm_eq, nm_eq]
    have s2 := ((s1.fld (k := 26) (v := iI 0) hg (by omega)).fld (k := 27) (v := iI (-1)) hg (by omega)).fld (k := 28) (v := iI 0) hg (by omega)
    rw [show (1000000 : Nat) = 999999 + 1 from rfl, lo2_s]
    unfold f_X11_findHands_k10
    have g26 : gI (sI (sI (sI m1 72 26 (iI 0)) 72 27 (iI (-1))) 72 28 (iI 0)) 72 26 = iI 0 := by rw [gI_ne (by omega), gI_ne (by omega), gI_same]
    rw [m_many s2.1.1.1, cal_some, join_eq, g26]
    refine ⟨_, ?_, s2, g26, by rw [gI_ne (by omega), gI_same], gI_same⟩
    by_cases q : iI (g.now.R * g.now.C : Nat) ≤ iI 0
    · rw [if_pos q, if_neg (by decide)]
    · rw [if_neg q, if_pos (by decide), if_neg (by decide)]
theorem m_throne {x y z : Int} (hm : MSt h g) (hg : GV g) (hx : -2147483648 ≤ x ∧ x < 2147483648) (hy : -2147483648 ≤ y ∧ y < 2147483648) (hz : -2147483648 ≤ z ∧ z < 2147483648) : OPM h (f_X11_throne h (iI x) (iI y) (iI z)) (spThrone g x y z).1 (spThrone g x y z).2 := by
  have hV := hg.1.1
  have h25 := sq_25 hV.2.1 hV.2.2.2.1
  unfold f_X11_throne spThrone
  rw [m_isSquare hm.1.1 hV hx, cal_some, join_eq, cal2_id]
  by_cases e1 : 0 ≤ x ∧ x < (g.now.R * g.now.C : Nat)
  · rw [decide_eq_true e1, bn_true, if_neg (by decide), m_isWindow hm.1.1 hV hy, cal_some]
    by_cases e2 : 0 ≤ y ∧ y < (2 * (g.now.R + g.now.C) : Nat)
    · rw [decide_eq_true e2, bn_true, if_neg (by decide), m_in hz (by omega) (by omega), cal_some]
      by_cases e3 : 0 ≤ z ∧ z ≤ 2
      · rw [decide_eq_true e3, bn_true, if_pos (by decide), if_pos ⟨e1, e2, e3⟩]
        obtain ⟨m2, k1, k2, k4⟩ := m_findHands (sq := x.toNat) (w := y.toNat) hm hg (by omega) (by omega)
        rw [show ((x.toNat : Nat) : Int) = x by omega, show ((y.toNat : Nat) : Int) = y by omega] at k1
        rw [k1, cal_some]
        cases ht : thrA g.now x.toNat y.toNat with
        | none =>
          rw [ht] at k4
          have k4' : gI m2 72 26 = iI (-1) := k4
          rw [k4', if_neg (by decide), cal2_id]
          obtain ⟨m5, t1, t2, t3⟩ := c_errs k2.1 hg (e := 2) (by omega)
          exact ⟨m5, t1, t2, k2.2.tr t3⟩
        | some p =>
          obtain ⟨n, wh, c⟩ := p
          rw [ht] at k4
          obtain ⟨d1, d2, d3⟩ := k4
          have hn : n ≤ 2 := by
            unfold thrA at ht
            split at ht
            · have := Option.some.inj ht
              obtain ⟨rfl, -⟩ := Prod.mk.inj this
              omega
            · cases q : oneF g.now x.toNat y.toNat (g.now.R * g.now.C) 0 none with
              | some p =>
                rw [q] at ht
                have ht2 : some (1, p.1, p.2) = some (n, wh, c) := ht
                have := Option.some.inj ht2
                obtain ⟨rfl, -⟩ := Prod.mk.inj this
                omega
              | none =>
                rw [q] at ht
                cases q2 : twoF g.now x.toNat y.toNat (g.now.R * g.now.C) 0 none with
                | some p =>
                  rw [q2] at ht
                  have ht2 : some (2, p.1, p.2) = some (n, wh, c) := ht
                  have := Option.some.inj ht2
                  obtain ⟨rfl, -⟩ := Prod.mk.inj this
                  omega
                | none => rw [q2] at ht; cases ht
          have e0 : (0 ≤ iI n) = ((0 : Int) ≤ n) := by rw [iI_zero]; exact iI_le ⟨by omega, by omega⟩
          rw [d1, d2, d3, if_pos (by rw [e0]; omega)]
          dsimp only
          by_cases z0 : z = 0
          · rw [if_neg (by rw [z0]; decide), if_pos z0]
            exact ⟨m2, rfl, k2⟩
          · rw [if_pos (by rw [iI_zero]; exact iI_ne hz (by omega) z0), if_neg z0]
            by_cases z1 : z = 1
            · rw [if_neg (by rw [z1]; decide), if_pos z1]
              exact ⟨m2, rfl, k2⟩
            · rw [if_pos (iI_ne hz (by omega) z1), if_neg z1]
              exact ⟨m2, rfl, k2⟩
      · rw [decide_eq_false e3, bn_false, if_neg (by decide), if_neg (fun q => e3 q.2.2)]
        exact c_errs hm hg (e := 1) (by omega)
    · rw [decide_eq_false e2, bn_false, if_pos (by decide), if_neg (fun q => e2 q.2.1)]
      exact c_errs hm hg (e := 1) (by omega)
  · rw [decide_eq_false e1, bn_false, if_pos (by decide), if_neg (fun q => e1 q.1)]
    exact c_errs hm hg (e := 1) (by omega)
end MTHRONE2
