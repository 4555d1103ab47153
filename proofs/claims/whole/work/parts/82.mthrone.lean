section MTHRONE
variable {h : Mem} {g : GS}
/-- the model's lights: the same state, found's fields untouched -/
def LTM (h h2 : Mem) (g : GS) : Prop := MSt h2 g ∧ FC h h2 ∧ (∀ k, 26 ≤ k ∧ k ≤ 28 → gI h2 72 k = gI h 72 k)
theorem m_lights {sq w : Nat} {a3 a4 : Int} {S' : Nat → Bool} (hm : MSt h g) (hg : GV g) (hsq : sq < 25) (hw : w < 2 * (g.now.R + g.now.C))
    (hS : (a3 = -1 ∧ a4 = -1 ∧ S' = g.now.S) ∨ (∃ i : Nat, i < g.now.R * g.now.C ∧ a3 = i ∧ a4 = -1 ∧ S' = flS g.now.S i) ∨ (∃ i j : Nat, i < g.now.R * g.now.C ∧ j < g.now.R * g.now.C ∧ a3 = i ∧ a4 = j ∧ S' = flS (flS g.now.S i) j)) :
    ∃ h2, f_X11_lights h (iI sq) (iI w) (iI a3) (iI a4) = some (bn (litB g.now sq w S'), h2) ∧ LTM h h2 g := by
  have hV := hg.1.1
  have hD := hg.1.2.1
  have h25 := sq_25 hV.2.1 hV.2.2.2.1
  unfold f_X11_lights
  obtain ⟨m1, t1, t2, t3, t4, t5⟩ := m_try hm hg
  rw [t1, cal_some, join_eq]
  have core : ∀ (m : Mem), RM m 73 g.now.R g.now.C g.now.K g.now.M S' g.now.T g.now.L → VD g.now.R g.now.C g.now.M S' g.now.T g.now.L → FrM m1 m → (∀ k, gI m 72 k = gI m1 72 k) → ∃ h2, f_X11_lights_k5 (iI sq) (iI w) m = some (bn (litB g.now sq w S'), h2) ∧ LTM h h2 g := fun m hH hDD hF h72 => by
    unfold f_X11_lights_k5
    rw [nm_eq]
    obtain ⟨m2, r1, ⟨⟨L', hH', hD'⟩, r4, r6, r3, r5⟩⟩ := m_ry (wd := (sq : Int)) hV (show RM (sI m 72 12 (iI sq)) 73 g.now.R g.now.C g.now.K g.now.M S' g.now.T g.now.L from rm_far hH (by omega)) hDD gI_same (by omega) (win := w) hw
    have hT2 : MTr (sI m2 72 12 (iI (-1))) g := (((t3.fr hg hF).keep hg (h2 := sI m 72 12 (iI sq)) fun x k q => gI_ne (by omega)).fr hg r5).keep hg fun x k q => gI_ne (by omega)
    have k13 : gI (sI m2 72 12 (iI (-1))) 72 13 = iI (-1) := by
      rw [gI_ne (by omega), r5.2.1 13 (by omega) (by omega) (by omega) (by omega) (by omega) (by omega) (by omega), gI_ne (by omega), h72, t4 _ _ (by omega)]
      exact hm.w13
    obtain ⟨m3, s1, s2, s3, s4, s5⟩ := m_untry hT2 hg gI_same k13
    have hb := ry_b (S := S') (T := g.now.T) hV hw
    have en : (iI (ry g.now.R g.now.C g.now.K g.now.M w S' g.now.T).1 < 0) = (((ry g.now.R g.now.C g.now.K g.now.M w S' g.now.T).1 : Int) < 0) := by rw [iI_zero]; exact iI_lt ⟨by omega, by omega⟩
    have k15 : gI (sI m2 72 12 (iI (-1))) 72 15 = bn (litB g.now sq w S') := by
      rw [gI_ne (by omega), r6]
      unfold met litB
      rw [if_neg (by omega), Int.toNat_natCast]
    have lt : LTM h m3 g := ⟨s2, fun x k q => ⟨(s4 x k (by omega)).trans ((gI_ne (by omega)).trans (((r5.fc x k q).1).trans ((gI_ne (by omega)).trans (((hF.fc x k q).1).trans (t4 x k (by omega)))))), (s5 x k).trans (((r5.fc x k q).2).trans (((hF.fc x k q).2).trans (t5 x k)))⟩, fun k hk => by
      rw [s4 _ _ (by omega), gI_ne (by omega), r5.2.1 k (by omega) (by omega) (by omega) (by omega) (by omega) (by omega) (by omega), gI_ne (by omega), h72, t4 _ _ (by omega)]⟩
    rw [r1, cal2_some, nm_eq, join_eq, join_eq, if_neg (by rw [en]; omega), k15]
    cases litB g.now sq w S'
    · rw [bn_false, if_pos (by decide)]
      dsimp only
      rw [s1, cal_some, rZ0]
      exact ⟨m3, rfl, lt⟩
    · rw [bn_true, if_neg (by decide)]
      dsimp only
      rw [s1, cal_some, rZ1]
      exact ⟨m3, rfl, lt⟩
  have n3 : ∀ a : Int, -1 ≤ a ∧ a < 25 → (iI a < 0) = (a < 0) := fun a ha => by rw [iI_zero]; exact iI_lt ⟨by omega, by omega⟩
  rcases hS with ⟨rfl, rfl, rfl⟩ | ⟨i, hi, rfl, rfl, rfl⟩ | ⟨i, j, hi, hj, rfl, rfl, rfl⟩
  · rw [if_pos (by decide)]
    dsimp only
    rw [join_eq, if_pos (by decide)]
    exact core m1 t2.1 hD FrM.rf fun _ => rfl
  · rw [if_neg (by rw [n3 _ (by omega)]; omega), m_flips t2.1 (by omega), cal_some]
    dsimp only
    rw [join_eq, if_pos (by decide)]
    exact core _ (rm_slant t2.1) (flS_VD hD hi) (FrM.row (by omega)) fun k => gI_ne (by omega)
  · have q1 : RM (sI m1 73 (10 + 5 * i + 2) (bn (!g.now.S i))) 73 g.now.R g.now.C g.now.K g.now.M (flS g.now.S i) g.now.T g.now.L := rm_slant t2.1
    rw [if_neg (by rw [n3 _ (by omega)]; omega), m_flips t2.1 (by omega), cal_some]
    dsimp only
    rw [join_eq, if_neg (by rw [n3 _ (by omega)]; omega), m_flips q1 (by omega), cal_some]
    exact core _ (rm_slant q1) (flS_VD (flS_VD hD hi) hj) ((FrM.row (by omega)).tr (FrM.row (by omega))) fun k => by rw [gI_ne (by omega), gI_ne (by omega)]
def BSM (h : Mem) (n : Nat) (b : BST) : Prop := match b with
  | none => gI h 72 26 = iI (-1)
  | some (wh, c) => gI h 72 26 = iI n ∧ gI h 72 27 = iI wh ∧ gI h 72 28 = iI c
theorem BSM.cong {h2 : Mem} {n : Nat} {b : BST} (hb : BSM h n b) (e : ∀ k, 26 ≤ k ∧ k ≤ 28 → gI h2 72 k = gI h 72 k) : BSM h2 n b := by
  cases b with
  | none => exact (e _ (by omega)).trans hb
  | some p => exact ⟨(e _ (by omega)).trans hb.1, (e _ (by omega)).trans hb.2.1, (e _ (by omega)).trans hb.2.2⟩
theorem LTM.cost {m : Mem} {q : Nat} (hg : GV g) (hl : LTM h m g) (hq : q < 25) : ∃ m2, f_X11_costOf m (iI q) = some (iI (cz g.now q), m2) ∧ LTM h m2 g ∧ (∀ k, 26 ≤ k ∧ k ≤ 28 → gI m2 72 k = gI m 72 k) := by
  obtain ⟨m2, w1, w2, w3⟩ := m_cost hl.1.1 hg.1 hq
  rw [(cz_i g.now q).1] at w1
  exact ⟨m2, w1, ⟨hl.1.wk hg w2, hl.2.1.tr fun x k q => ⟨w2 x k (by omega), w3 x k⟩, fun k hk => (w2 _ _ (by omega)).trans (hl.2.2 k hk)⟩, fun k hk => w2 _ _ (by omega)⟩
/-- the state kept, found's fields anyhow -/
def STM (h m : Mem) (g : GS) : Prop := MSt m g ∧ FC h m
theorem STM.lt {m m2 : Mem} (hs : STM h m g) (hl : LTM m m2 g) : STM h m2 g := ⟨hl.1, hs.2.tr hl.2.1⟩
theorem STM.fld {m : Mem} {k : Nat} {v : Int32} (hs : STM h m g) (hg : GV g) (hk : 26 ≤ k ∧ k ≤ 28) : STM h (sI m 72 k v) g := ⟨hs.1.keep hg.1 hg.2.1 fun x j q => gI_ne (by omega), hs.2.tr fun x j q => ⟨gI_ne (by omega), rfl⟩⟩
theorem STM.self {m : Mem} (hs : STM h m g) : LTM m m g := ⟨hs.1, fun _ _ _ => ⟨rfl, rfl⟩, fun _ _ => rfl⟩
/-- the model's two hands -/
theorem m_two {m0 : Mem} {sq w : Nat} (hg : GV g) (hs : STM h m0 g) (hsq : sq < 25) (hw : w < 2 * (g.now.R + g.now.C)) (h26 : gI m0 72 26 = iI (-1)) : ∃ m2, lo2 (f_X11_findHands_k15 (iI sq) (iI w)) 1000000 (iI 0) m0 = some m2 ∧ STM h m2 g ∧ BSM m2 2 (twoF g.now sq w (g.now.R * g.now.C) 0 none) := by
  have hV := hg.1.1
  have h25 := sq_25 hV.2.1 hV.2.2.2.1
  obtain ⟨X, hX⟩ : ∃ X, X = twoF g.now sq w (g.now.R * g.now.C) 0 none := ⟨_, rfl⟩
  rw [← hX]
  obtain ⟨N, hN⟩ : ∃ N : Nat, N = 1000000 := ⟨_, rfl⟩
  rw [← hN]
  refine lo2_t (fun f x1 m => ∃ (i : Nat) (b : BST), x1 = iI i ∧ i + f = g.now.R * g.now.C ∧ twoF g.now sq w f i b = X ∧ BOK b ∧ BSM m 2 b ∧ STM h m g) (fun o => ∃ m2, o = some m2 ∧ STM h m2 g ∧ BSM m2 2 X) ?_ N (g.now.R * g.now.C) _ _ (by omega) ⟨0, none, rfl, by omega, hX.symm, BOK.non, h26, hs⟩
  rintro f x1 m ⟨i, b, rfl, hf, hA, hok, hb, hL⟩ Kc
  unfold f_X11_findHands_k15
  have e : (iI (g.now.R * g.now.C : Nat) ≤ iI i) = (((g.now.R * g.now.C : Nat) : Int) ≤ i) := iI_le ⟨by omega, by omega⟩
  rw [m_many hL.1.1.1, cal_some]
  by_cases hi : i = g.now.R * g.now.C
  · left
    have hsX : X = b := by rw [← hA, show f = 0 by omega]; rfl
    rw [if_pos (by rw [e]; omega), hsX]
    exact ⟨_, rfl, m, rfl, hL, hb⟩
  · right
    obtain ⟨f', rfl⟩ : ∃ f', f = f' + 1 := ⟨f - 1, by omega⟩
    unfold twoF at hA
    rw [if_neg (by rw [e]; omega), iI_add, nm_eq]
    obtain ⟨Y, hY⟩ : ∃ Y, Y = twoI g.now sq w i f' (i + 1) b := ⟨_, rfl⟩
    rw [← hY] at hA
    have key : ∃ m9, lo2 (f_X11_findHands_k20 (iI i) Kc (iI sq) (iI w)) 1000000 (iI ((i : Int) + 1)) m = Kc (iI (i + 1 : Nat)) m9 ∧ BOK Y ∧ BSM m9 2 Y ∧ STM h m9 g := by
      refine lo2_t (fun f x6 mm => ∃ (j : Nat) (c : BST), x6 = iI j ∧ i < j ∧ j + f = g.now.R * g.now.C ∧ twoI g.now sq w i f j c = Y ∧ BOK c ∧ BSM mm 2 c ∧ STM h mm g) (fun o => ∃ m9, o = Kc (iI (i + 1 : Nat)) m9 ∧ BOK Y ∧ BSM m9 2 Y ∧ STM h m9 g) ?_ 1000000 f' _ _ (by omega) ⟨i + 1, b, rfl, by omega, by omega, hY.symm, hok, hb, hL⟩
      rintro f x6 mm ⟨j, c, rfl, hij, hf2, hA2, hok2, hb2, hL2⟩ Kc2
      unfold f_X11_findHands_k20
      have e2 : (iI (g.now.R * g.now.C : Nat) ≤ iI j) = (((g.now.R * g.now.C : Nat) : Int) ≤ j) := iI_le ⟨by omega, by omega⟩
      rw [m_many hL2.1.1.1, cal_some]
      by_cases hj : j = g.now.R * g.now.C
      · left
        have hsY : Y = c := by rw [← hA2, show f = 0 by omega]; rfl
        rw [if_pos (by rw [e2]; omega), iI_add, nm_eq, hsY]
        exact ⟨_, rfl, mm, rfl, hok2, hb2, hL2⟩
      · right
        obtain ⟨f'', rfl⟩ : ∃ f'', f = f'' + 1 := ⟨f - 1, by omega⟩
        unfold twoI at hA2
        rw [if_neg (by rw [e2]; omega), m_canTurn hL2.1.1.1 (hV.2.2.2.2.1 i) (by omega), cal_some, join_eq, join_eq]
        have nxt : ∀ (b' : BST) (m9 : Mem), twoI g.now sq w i f'' (j + 1) b' = Y → BOK b' → BSM m9 2 b' → STM h m9 g → ∃ f3 a' b'', f3 < f'' + 1 ∧ (∃ (j : Nat) (c : BST), a' = iI j ∧ i < j ∧ j + f3 = g.now.R * g.now.C ∧ twoI g.now sq w i f3 j c = Y ∧ BOK c ∧ BSM b'' 2 c ∧ STM h b'' g) ∧ f_X11_findHands_k26 (iI j) Kc2 (iI i) (iI 0) m9 = Kc2 a' b'' := fun b' m9 q1 q2 q3 q4 =>
          ⟨f'', iI (j + 1 : Nat), m9, Nat.lt_succ_self f'', ⟨j + 1, b', rfl, by omega, by omega, q1, q2, q3, q4⟩, by
            unfold f_X11_findHands_k26
            rw [join_eq, if_pos (by decide)]
            dsimp only
            rw [nm_eq, iI_add]; rfl⟩
        cases hti : trn (g.now.K i)
        · rw [if_neg (fun q => by rw [hti] at q; exact absurd q.1 (by decide))] at hA2
          rw [bn_false, if_pos (by decide)]
          exact nxt c mm hA2 hok2 hb2 hL2
        · rw [bn_true, if_neg (by decide), m_canTurn hL2.1.1.1 (hV.2.2.2.2.1 j) (by omega), cal_some]
          cases htj : trn (g.now.K j)
          · rw [if_neg (fun q => by rw [htj] at q; exact absurd q.2.1 (by decide))] at hA2
            rw [bn_false, if_pos (by decide)]
            exact nxt c mm hA2 hok2 hb2 hL2
          · obtain ⟨-, c2, c3⟩ := cz_i g.now i
            obtain ⟨-, d2, d3⟩ := cz_i g.now j
            rw [bn_true, if_neg (by decide), join_eq]
            have lit : ∀ m9 : Mem, (c = none ∨ ∃ w0 c0, c = some (w0, c0) ∧ ¬ c0 ≤ cz g.now i + cz g.now j) → BSM m9 2 c → STM h m9 g → ∃ f3 a' b'', f3 < f'' + 1 ∧ (∃ (j : Nat) (c : BST), a' = iI j ∧ i < j ∧ j + f3 = g.now.R * g.now.C ∧ twoI g.now sq w i f3 j c = Y ∧ BOK c ∧ BSM b'' 2 c ∧ STM h b'' g) ∧ (cal2 (f_X11_lights m9 (iI sq) (iI w) (iI i) (iI j)) fun v42 h43 => if v42 = 0 then f_X11_findHands_k26 (iI j) Kc2 (iI i) (iI 0) h43 else f_X11_findHands_k26 (iI j) Kc2 (iI i) (iI 1) h43) = Kc2 a' b'' := fun m9 hc9 hb9 hs9 => by
              obtain ⟨m2, r1, r2⟩ := m_lights (a3 := (i : Int)) (a4 := (j : Int)) (S' := flS (flS g.now.S i) j) hs9.1 hg hsq hw (Or.inr (Or.inr ⟨i, j, by omega, by omega, rfl, rfl, rfl⟩))
              rw [r1, cal2_some]
              cases hlit : litB g.now sq w (flS (flS g.now.S i) j)
              · rw [if_neg (fun q => by rw [hlit] at q; exact absurd q.2.2 (by decide))] at hA2
                rw [bn_false, if_pos (by decide)]
                exact nxt c m2 hA2 hok2 (hb9.cong r2.2.2) (hs9.lt r2)
              · rw [if_pos ⟨hti, htj, hlit⟩] at hA2
                have ho : ofr c (100 * (i : Int) + (j : Int)) (cz g.now i + cz g.now j) = some (100 * (i : Int) + (j : Int), cz g.now i + cz g.now j) := by
                  rcases hc9 with q | ⟨w0, c0, q, q2⟩
                  · rw [q]; rfl
                  · rw [q]; show (if c0 ≤ cz g.now i + cz g.now j then _ else _) = _; rw [if_neg q2]
                rw [ho] at hA2
                have z1 := ((hs9.lt r2).fld (k := 26) (v := iI 2) hg (by omega)).fld (k := 27) (v := iI (100 * (i : Int) + (j : Int))) hg (by omega)
                obtain ⟨m3, s1, s2, s3⟩ := z1.self.cost hg (q := i) (by omega)
                obtain ⟨m4, t1, t2, t3⟩ := s2.cost hg (q := j) (by omega)
                have z4 := z1.lt t2
                rw [bn_true, if_neg (by decide)]
                unfold f_X11_findHands_k26
                rw [join_eq, if_neg (by decide), nm_eq, iI_mul, iI_add, nm_eq, s1, cal2_some, t1, cal2_some, iI_add, nm_eq]
                dsimp only
                rw [nm_eq, iI_add]
                refine ⟨f'', iI (j + 1 : Nat), _, Nat.lt_succ_self f'', ⟨j + 1, _, rfl, by omega, by omega, hA2, fun wh' c' e' => ?_, ⟨?_, ?_, gI_same⟩, z4.fld hg (by omega)⟩, rfl⟩
                · have e2' := Option.some.inj e'
                  obtain ⟨-, rfl⟩ := Prod.mk.inj e2'
                  omega
                · rw [gI_ne (by omega), t3 _ (by omega), s3 _ (by omega), gI_ne (by omega), gI_same]; rfl
                · rw [gI_ne (by omega), t3 _ (by omega), s3 _ (by omega), gI_same]
            cases c with
            | none =>
              rw [show gI mm 72 26 = iI (-1) from hb2, if_pos (by decide)]
              exact lit mm (Or.inl rfl) hb2 hL2
            | some p =>
              obtain ⟨w0, c0⟩ := p
              obtain ⟨b26, b27, b28⟩ := hb2
              have hc0 := hok2 w0 c0 rfl
              obtain ⟨m3, s1, s2, s3⟩ := hL2.self.cost hg (q := i) (by omega)
              obtain ⟨m4, t1, t2, t3⟩ := s2.cost hg (q := j) (by omega)
              have k26 : ∀ k, 26 ≤ k ∧ k ≤ 28 → gI m4 72 k = gI mm 72 k := fun k hk => (t3 k hk).trans (s3 k hk)
              have hb4 : BSM m4 2 (some (w0, c0)) := ⟨(k26 _ (by omega)).trans b26, (k26 _ (by omega)).trans b27, (k26 _ (by omega)).trans b28⟩
              have e28 : (iI c0 ≤ iI (cz g.now i + cz g.now j)) = (c0 ≤ cz g.now i + cz g.now j) := iI_le ⟨by omega, by omega⟩
              rw [b26, if_neg (by decide), s1, cal2_some, t1, cal2_some, hb4.2.2, iI_add]
              by_cases hle : c0 ≤ cz g.now i + cz g.now j
              · rw [if_pos (by rw [e28]; exact hle)]
                have hsame : (if trn (g.now.K i) = true ∧ trn (g.now.K j) = true ∧ litB g.now sq w (flS (flS g.now.S i) j) = true then ofr (some (w0, c0)) (100 * (i : Int) + (j : Int)) (cz g.now i + cz g.now j) else some (w0, c0)) = some (w0, c0) := by
                  split
                  · show (if c0 ≤ cz g.now i + cz g.now j then _ else _) = _
                    rw [if_pos hle]
                  · rfl
                have hA3 : twoI g.now sq w i f'' (j + 1) (some (w0, c0)) = Y := (congrArg (twoI g.now sq w i f'' (j + 1)) hsame).symm.trans hA2
                exact nxt _ m4 hA3 hok2 hb4 (hL2.lt t2)
              · rw [if_neg (by rw [e28]; exact hle)]
                exact lit m4 (Or.inr ⟨w0, c0, rfl, hle⟩) hb4 (hL2.lt t2)
    obtain ⟨m9, k1, k2, k3, k4⟩ := key
    exact ⟨f', iI (i + 1 : Nat), m9, Nat.lt_succ_self f', ⟨i + 1, Y, rfl, by omega, hA, k2, k3, k4⟩, k1⟩
end MTHRONE
