section ODDSOP
variable {h : Mem} {g : GS}
def OPC64 (h : Mem) (o : Option (Int64 × Mem)) (v : Int64) (g : GS) : Prop := ∃ h1, o = some (v, h1) ∧ CSt h1 g ∧ FM h h1
def OPM64 (h : Mem) (o : Option (Int64 × Mem)) (v : Int64) (g : GS) : Prop := ∃ h1, o = some (v, h1) ∧ MSt h1 g ∧ FC h h1
/-- choices from i on that bring the ray out there -/
def cntO (s : WH) (U : List Nat) (w : Nat) (z : Int) : Nat → Nat → Nat
  | 0, _ => 0
  | f + 1, i => (if ((ry s.R s.C s.K s.M w (stU i U 0 s.S) s.T).1 : Int) = z then 1 else 0) + cntO s U w z f (i + 1)
theorem cntO_le {s : WH} {U : List Nat} {w : Nat} {z : Int} : ∀ f i, cntO s U w z f i ≤ f
  | 0, _ => Nat.le_refl _
  | f + 1, i => by
    have := cntO_le (s := s) (U := U) (w := w) (z := z) f (i + 1)
    unfold cntO
    split <;> omega
/-- halved while both are even -/
def hvF : Nat → Nat → Nat → Nat × Nat
  | 0, c, t => (c, t)
  | f + 1, c, t => if c % 2 = 1 ∨ t % 2 = 1 then (c, t) else hvF f (c / 2) (t / 2)
theorem hv_gcd : ∀ u, u < 6 → ∀ c, c < 33 → c ≤ 2 ^ u → hvF 5 c (2 ^ u) = (c / Nat.gcd c (2 ^ u), 2 ^ u / Nat.gcd c (2 ^ u)) := by decide +kernel
theorem m_divisor {a b : Nat} (ha : a < 1000) (hb : b < 1000) : f_X11_divisor h (iI a) (iI b) = some (iI (Nat.gcd a b)) := by
  unfold f_X11_divisor
  obtain ⟨N, hN⟩ : ∃ N : Nat, N = 1000000 := ⟨_, rfl⟩
  rw [← hN]
  refine lo2_t (fun f x1 x2 => ∃ p q : Nat, x1 = iI p ∧ x2 = iI q ∧ f = q ∧ p < 1000 ∧ q < 1000 ∧ Nat.gcd p q = Nat.gcd a b) (fun o => o = some (iI (Nat.gcd a b))) ?_ N b _ _ (by omega) ⟨a, b, rfl, rfl, rfl, ha, hb, rfl⟩
  rintro f x1 x2 ⟨p, q, rfl, rfl, rfl, hp, hq, hg⟩ Kc
  unfold f_X11_divisor_k3
  have e : (iI f = 0) = ((f : Int) = 0) := by rw [iI_zero]; exact iI_eq ⟨by omega, by omega⟩
  by_cases h0 : f = 0
  · left
    rw [if_pos (by rw [e]; omega), ← hg, h0, Nat.gcd_zero_right]
    exact ⟨_, rfl, rfl⟩
  · right
    rw [if_neg (by rw [e]; omega), nz_i (by omega), iI_rem (by omega) (by omega), nm_eq]
    refine ⟨p % f, iI f, iI (p % f : Nat), Nat.mod_lt _ (by omega), ⟨f, p % f, rfl, rfl, rfl, hq, Nat.lt_of_le_of_lt (Nat.mod_le _ _) hp, ?_⟩, rfl⟩
    rw [← hg, Nat.gcd_comm p f, Nat.gcd_rec f p, Nat.gcd_comm]
theorem pow_u : ∀ u : Nat, u < 6 → shlI (iI 1) (iI (u : Int)) = iI ((2 ^ u : Nat) : Int) ∧ 2 ^ u ≤ 32 ∧ 1 ≤ 2 ^ u := by decide +kernel
theorem odd_or : ∀ c t : Nat, c < 33 → t < 33 → ((iI c ||| iI t) &&& iI 1 = 0) = ¬ (c % 2 = 1 ∨ t % 2 = 1) := by
  have k : ∀ c, c < 33 → ∀ t, t < 33 → (((iI ((c : Nat) : Int) ||| iI ((t : Nat) : Int)) &&& iI 1 = 0) ↔ ¬ (c % 2 = 1 ∨ t % 2 = 1)) := by decide +kernel
  exact fun c t hc ht => propext (k c hc t ht)
/-- the class's count, reduced -/
theorem c_weigh {U : List Nat} {w : Nat} {z : Int} {L : Nat → Nat} (hc : CSt h g) (hg : GV g) (hw : w < 2 * (g.now.R + g.now.C)) (hz : -2147483648 ≤ z ∧ z < 2147483648) (hH : HC h 57 g.now.R g.now.C g.now.K g.now.M g.now.S g.now.T L) (hDL : VD g.now.R g.now.C g.now.M g.now.S g.now.T L) (hB : DBC h g.now U) (hU : okU (g.now.R * g.now.C) U) :
    ∃ h2, f_X1_weigh h (iI w) (iI z) = some h2 ∧ CSt h2 g ∧ FM h h2 ∧ gI h2 56 7 = iI (hvF 5 (cntO g.now U w z (2 ^ U.length) 0) (2 ^ U.length)).1 ∧ gI h2 56 8 = iI (hvF 5 (cntO g.now U w z (2 ^ U.length) 0) (2 ^ U.length)).2 := by
  have hV := hg.1.1
  have hD := hg.1.2.1
  have h25 := sq_25 hV.2.1 hV.2.2.2.1
  obtain ⟨pw, p32, p1⟩ := pow_u U.length (by have := hU.1; omega)
  obtain ⟨P, hP⟩ : ∃ P, P = 2 ^ U.length := ⟨_, rfl⟩
  rw [← hP] at pw p32 p1 ⊢
  have ch : ∀ m, gI m 56 3 = iI U.length → f_X1_choices m = some (iI P) := fun m hm => by unfold f_X1_choices; rw [hm, pw]
  unfold f_X1_weigh
  have b3 : gI (sI h 56 7 (iI 0)) 56 3 = iI U.length := (gI_ne (by omega)).trans hB.1
  rw [nm_eq, ch _ b3, cal_some, nm_eq]
  have c0 : CSt (sI (sI h 56 7 (iI 0)) 56 8 (iI P)) g := hc.keep (fun a k q => by rw [gI_ne (by omega), gI_ne (by omega)]) rfl rfl
  have f0 : FM h (sI (sI h 56 7 (iI 0)) 56 8 (iI P)) := fun a k q => ⟨by rw [gI_ne (by omega), gI_ne (by omega)], rfl⟩
  have H0 : HC (sI (sI h 56 7 (iI 0)) 56 8 (iI P)) 57 g.now.R g.now.C g.now.K g.now.M g.now.S g.now.T L := hc_far (hc_far hH (by omega)) (by omega)
  have B0 : DBC (sI (sI h 56 7 (iI 0)) 56 8 (iI P)) g.now U := hB.cong (fun x k q => by rw [gI_ne (by omega), gI_ne (by omega)]) rfl
  obtain ⟨X, hX⟩ : ∃ X, X = cntO g.now U w z P 0 := ⟨_, rfl⟩
  rw [← hX]
  have hXP : X ≤ P := by rw [hX]; exact cntO_le P 0
  obtain ⟨N, hN⟩ : ∃ N : Nat, N = 1000000 := ⟨_, rfl⟩
  rw [← hN]
  refine lo2_t (fun f x4 m => ∃ (i acc : Nat) (S : Nat → Bool) (T L : Nat → Nat), x4 = iI i ∧ i + f = P ∧ acc + cntO g.now U w z f i = X ∧ gI m 56 7 = iI acc ∧ gI m 56 8 = iI P ∧ CSt m g ∧ FM h m ∧ HC m 57 g.now.R g.now.C g.now.K g.now.M S T L ∧ VD g.now.R g.now.C g.now.M S T L ∧ DBC m g.now U) (fun o => ∃ h2, o = some h2 ∧ CSt h2 g ∧ FM h h2 ∧ gI h2 56 7 = iI (hvF 5 X P).1 ∧ gI h2 56 8 = iI (hvF 5 X P).2) ?_ N P _ _ (by omega) ⟨0, 0, _, _, _, rfl, by omega, by rw [Nat.zero_add]; exact hX.symm, (gI_ne (by omega)).trans gI_same, gI_same, c0, f0, H0, hDL, B0⟩
  rintro f x4 m ⟨i, acc, S, T, L, rfl, hf, hA, b7, b8, hcs, hF, hHm, hDm, hBm⟩ Kc
  unfold f_X1_weigh_k6
  have e : (iI P ≤ iI i) = ((P : Int) ≤ i) := iI_le ⟨by omega, by omega⟩
  rw [ch m hBm.1, cal_some]
  by_cases hi : i = P
  · left
    have hacc : acc = X := by rw [show f = 0 by omega] at hA; exact hA
    rw [hacc] at b7
    rw [if_pos (by rw [e]; omega)]
    refine ⟨_, rfl, ?_⟩
    obtain ⟨Y, hY⟩ : ∃ Y, Y = hvF 5 X P := ⟨_, rfl⟩
    rw [← hY]
    refine lo2_t (fun f x8 mm => ∃ (j c t : Nat), x8 = iI j ∧ j + f = 5 ∧ c ≤ 32 ∧ t ≤ 32 ∧ hvF f c t = Y ∧ gI mm 56 7 = iI c ∧ gI mm 56 8 = iI t ∧ CSt mm g ∧ FM h mm) (fun o => ∃ h2, o = some h2 ∧ CSt h2 g ∧ FM h h2 ∧ gI h2 56 7 = iI Y.1 ∧ gI h2 56 8 = iI Y.2) ?_ 1000000 5 _ _ (by omega) ⟨0, X, P, rfl, by omega, by omega, by omega, hY.symm, b7, b8, hcs, hF⟩
    rintro f x8 mm ⟨j, c, t, rfl, hf2, hc32, ht32, hH2, d7, d8, hcs2, hF2⟩ Kc2
    unfold f_X1_weigh_k10
    have e5 : (iI 5 ≤ iI j) = ((5 : Int) ≤ j) := iI_le ⟨by omega, by omega⟩
    rw [d7, d8]
    by_cases hj : j = 5
    · left
      have hs : Y = (c, t) := by rw [← hH2, show f = 0 by omega]; rfl
      rw [if_pos (by rw [e5]; omega), hs]
      exact ⟨_, rfl, mm, rfl, hcs2, hF2, d7, d8⟩
    · obtain ⟨f', rfl⟩ : ∃ f', f = f' + 1 := ⟨f - 1, by omega⟩
      unfold hvF at hH2
      rw [if_neg (by rw [e5]; omega)]
      have eo := odd_or c t (by omega) (by omega)
      by_cases hodd : c % 2 = 1 ∨ t % 2 = 1
      · left
        rw [if_pos hodd] at hH2
        rw [if_pos (by rw [eo]; exact fun q => q hodd), ← hH2]
        exact ⟨_, rfl, mm, rfl, hcs2, hF2, d7, d8⟩
      · right
        rw [if_neg hodd] at hH2
        rw [if_neg (by rw [eo]; exact fun q => q hodd), nz_i (by omega), nm_eq, gI_ne (by omega), d8, iI_div (by omega) (by omega), iI_div (by omega) (by omega), nz_i (by omega), nm_eq, nm_eq, iI_add]
        exact ⟨f', _, _, Nat.lt_succ_self f', ⟨j + 1, c / 2, t / 2, rfl, by omega, by omega, by omega, hH2, (gI_ne (by omega)).trans gI_same, gI_same, hcs2.keep (fun a k q => by rw [gI_ne (by omega), gI_ne (by omega)]) rfl rfl, hF2.tr fun a k q => ⟨by rw [gI_ne (by omega), gI_ne (by omega)], rfl⟩⟩, rfl⟩
  · right
    obtain ⟨f', rfl⟩ : ∃ f', f = f' + 1 := ⟨f - 1, by omega⟩
    unfold cntO at hA
    obtain ⟨s1, s2⟩ := w_standBy (x := i) hBm hU h25 hHm
    obtain ⟨c2, f2⟩ := hcs.standT (a := 57) (x := slW (stU i U 0 g.now.S)) (y := tmW g.now.T) (by omega)
    have hDx := stU_VD (x := i) U 0 g.now.S hU hD
    obtain ⟨m3, r1, r2⟩ := w_ry (b := 61) hV (by omega) s2 (hDx.of hDm) (win := w) hw
    obtain ⟨c3, f3⟩ := c2.ry r2 (by omega)
    obtain ⟨⟨L', hH', hD'⟩, -, -, -, -, fr⟩ := r2
    have o : ∀ a k, a = 56 ∨ a = 62 → gI m3 a k = gI m a k := fun a k q => (fr a k (by omega) (by omega) (by omega)).1.trans (gI_ne (h := m) (a := 57) (k := 5) (v := slW (stU i U 0 g.now.S)) (by omega))
    have B3 : DBC m3 g.now U := hBm.cong (fun x k q => o x k (by omega)) ((fr 56 5 (by omega) (by omega) (by omega)).2.trans (gL_ne (by omega)))
    have hb := ry_b (S := stU i U 0 g.now.S) (T := g.now.T) hV hw
    have ez : (iI (ry g.now.R g.now.C g.now.K g.now.M w (stU i U 0 g.now.S) g.now.T).1 = iI z) = (((ry g.now.R g.now.C g.now.K g.now.M w (stU i U 0 g.now.S) g.now.T).1 : Int) = z) := iI_eq ⟨by omega, hz⟩
    have g7 : gI (sL (sI m 57 5 (slW (stU i U 0 g.now.S))) 57 6 (tmW g.now.T)) 56 7 = iI acc := (gI_ne (h := m) (a := 57) (k := 5) (v := slW (stU i U 0 g.now.S)) (by omega)).trans b7
    rw [if_neg (by rw [e]; omega), s1, cal_some, r1, cal2_some, join_eq, g7]
    have fin : ∀ d : Nat, acc + d + cntO g.now U w z f' (i + 1) = X → ∃ f'' a' b', f'' < f' + 1 ∧ (∃ (i acc : Nat) (S : Nat → Bool) (T L : Nat → Nat), a' = iI i ∧ i + f'' = P ∧ acc + cntO g.now U w z f'' i = X ∧ gI b' 56 7 = iI acc ∧ gI b' 56 8 = iI P ∧ CSt b' g ∧ FM h b' ∧ HC b' 57 g.now.R g.now.C g.now.K g.now.M S T L ∧ VD g.now.R g.now.C g.now.M S T L ∧ DBC b' g.now U) ∧ (fun x17 => nm (sI m3 56 7 (iI acc + x17)) fun h19 => nm (iI (i : Int) + iI 1) fun x20 => Kc x20 h19) (iI d) = Kc a' b' := fun d hd => by
      refine ⟨f', iI (i + 1 : Nat), sI m3 56 7 (iI (acc + d : Nat)), Nat.lt_succ_self f', ⟨i + 1, acc + d, _, _, L', rfl, by omega, hd, gI_same, (gI_ne (by omega)).trans ((o 56 8 (by omega)).trans b8), c3.keep (fun a k q => gI_ne (by omega)) rfl rfl, ((hF.tr f2).tr f3).tr fun a k q => ⟨gI_ne (by omega), rfl⟩, hc_far hH' (by omega), hD', B3.cong (fun x k q => gI_ne (by omega)) rfl⟩, ?_⟩
      dsimp only
      rw [iI_add, nm_eq, nm_eq, iI_add]; rfl
    by_cases hz2 : ((ry g.now.R g.now.C g.now.K g.now.M w (stU i U 0 g.now.S) g.now.T).1 : Int) = z
    · rw [if_pos hz2] at hA
      rw [if_neg (by rw [ez]; exact fun q => q hz2)]
      exact fin 1 (by omega)
    · rw [if_neg hz2] at hA
      rw [if_pos (by rw [ez]; exact hz2)]
      exact fin 0 (by omega)
abbrev oddC (g : GS) (x w : Int) (z : Int) : Nat × Nat := hvF 5 (cntO g.now (unk g.now (iI x)) w.toNat z (2 ^ (unk g.now (iI x)).length) 0) (2 ^ (unk g.now (iI x)).length)
def spOdds (g : GS) (x w z y : Int) : Int64 × GS := if (0 ≤ x ∧ x < (2 ^ (g.now.R * g.now.C) : Nat)) ∧ (0 ≤ w ∧ w < (2 * (g.now.R + g.now.C) : Nat)) ∧ ((0 ≤ z ∧ z < (2 * (g.now.R + g.now.C) : Nat)) ∨ z = 100) ∧ (0 ≤ y ∧ y ≤ 1) then (Int32.toInt64 (if y = 0 then iI (oddC g x w z).1 else iI (oddC g x w z).2), g) else (Int32.toInt64 (iI (-1000000001)), g.fail 1)
theorem c_fail64 (hc : CSt h g) : OPC64 h (cal2 (f_X10_fail h (iI 1)) fun v6 h7 => some ((Int32.toInt64 v6), h7)) (Int32.toInt64 (iI (-1000000001))) (g.fail 1) := by
  obtain ⟨m5, t1, t2, t3⟩ := c_fail hc (e := 1) (by omega)
  have t1' : f_X10_fail h (iI 1) = some (iI (-1000000000 - ((1 : Nat) : Int)), m5) := t1
  rw [t1', cal2_some]
  exact ⟨m5, rfl, t2, t3⟩
theorem m_fail64 (hm : MSt h g) (hg : GV g) : OPM64 h (cal2 (f_X11_errs h (iI (-1000000001))) fun v3 h4 => some ((Int32.toInt64 v3), h4)) (Int32.toInt64 (iI (-1000000001))) (g.fail 1) := by
  obtain ⟨m5, t1, t2, t3⟩ := c_errs hm hg (e := 1) (by omega)
  have t1' : f_X11_errs h (iI (-1000000001)) = some (iI (-1000000000 - ((1 : Nat) : Int)), m5) := t1
  rw [t1', cal2_some]
  exact ⟨m5, rfl, t2, t3⟩
theorem c_odds {x w z y : Int} (hc : CSt h g) (hg : GV g) (hx : -2147483648 ≤ x ∧ x < 2147483648) (hw : -2147483648 ≤ w ∧ w < 2147483648) (hz : -2147483648 ≤ z ∧ z < 2147483648) (hy : -2147483648 ≤ y ∧ y < 2147483648) : OPC64 h (f_X10_odds h (iI x) (iI w) (iI z) (iI y)) (spOdds g x w z y).1 (spOdds g x w z y).2 := by
  have hV := hg.1.1
  unfold f_X10_odds spOdds
  have hz3 : ∀ {ρ : Type} (K : Int32 → ρ), (if ¬ bn (decide (0 ≤ z ∧ z < (2 * (g.now.R + g.now.C) : Nat))) = 0 then K (iI 1) else if ¬ iI z = iI 100 then K (iI 0) else K (iI 1)) = K (bn (decide ((0 ≤ z ∧ z < (2 * (g.now.R + g.now.C) : Nat)) ∨ z = 100))) := fun K => by
    by_cases a : 0 ≤ z ∧ z < (2 * (g.now.R + g.now.C) : Nat)
    · rw [decide_eq_true a, bn_true, if_pos (by decide), decide_eq_true (Or.inl a)]; rfl
    · rw [decide_eq_false a, bn_false, if_neg (by decide)]
      by_cases b : z = 100
      · rw [if_neg (by rw [b]; exact fun q => q rfl), decide_eq_true (Or.inr b)]; rfl
      · rw [if_pos (iI_ne hz (by omega) b), decide_eq_false (fun q => by rcases q with q | q; exact a q; exact b q)]; rfl
  rw [w_hasWindow hc.1.1 hV hz, cal_some, join_eq, join_eq]
  refine (congrArg (fun o => OPC64 h o _ _) (hz3 (f_X10_odds_k3 h (iI x) (iI w) (iI y) (iI z)))).mpr ?_
  unfold f_X10_odds_k3
  rw [w_hasMask hc.1.1 hV hx, cal_some, join_eq]
  by_cases e1 : 0 ≤ x ∧ x < (2 ^ (g.now.R * g.now.C) : Nat)
  · rw [decide_eq_true e1, bn_true, if_neg (by decide), w_hasWindow hc.1.1 hV hw, cal_some]
    by_cases e2 : 0 ≤ w ∧ w < (2 * (g.now.R + g.now.C) : Nat)
    · rw [decide_eq_true e2, bn_true, if_neg (by decide)]
      by_cases e3 : (0 ≤ z ∧ z < (2 * (g.now.R + g.now.C) : Nat)) ∨ z = 100
      · rw [decide_eq_true e3, bn_true, if_neg (by decide), w_within hy (by omega) (by omega), cal_some]
        by_cases e4 : 0 ≤ y ∧ y ≤ 1
        · rw [decide_eq_true e4, bn_true, if_pos (by decide), if_pos ⟨e1, e2, e3, e4⟩]
          obtain ⟨m1, s1, s2, s3, s4, s5, s6⟩ := c_suppose (x := iI x) hc hg
          obtain ⟨m2, k1, k2, k3, k4, k5⟩ := c_weigh (w := w.toNat) (z := z) s2 hg (by omega) hz s4 hg.1.2.1 s5 s6
          rw [show ((w.toNat : Nat) : Int) = w by omega] at k1
          rw [s1, cal_some, k1, cal_some, k4, k5]
          by_cases y0 : y = 0
          · rw [if_neg (by rw [y0]; decide), if_pos y0]
            exact ⟨m2, rfl, k2, s3.tr k3⟩
          · rw [if_pos (by rw [iI_zero]; exact iI_ne hy (by omega) y0), if_neg y0]
            exact ⟨m2, rfl, k2, s3.tr k3⟩
        · rw [decide_eq_false e4, bn_false, if_neg (by decide), if_neg (fun q => e4 q.2.2.2)]
          exact c_fail64 hc
      · rw [decide_eq_false e3, bn_false, if_pos (by decide), if_neg (fun q => e3 q.2.2.1)]
        exact c_fail64 hc
    · rw [decide_eq_false e2, bn_false, if_pos (by decide), if_neg (fun q => e2 q.2.1)]
      exact c_fail64 hc
  · rw [decide_eq_false e1, bn_false, if_pos (by decide), if_neg (fun q => e1 q.1)]
    exact c_fail64 hc
theorem m_isOutThere {z : Int} (hm : RM h 73 g.now.R g.now.C g.now.K g.now.M g.now.S g.now.T g.now.L) (hV : VS g.now.R g.now.C g.now.K g.now.M) (hz : -2147483648 ≤ z ∧ z < 2147483648) : f_X11_isOutThere h (iI z) = some (bn (decide ((0 ≤ z ∧ z < (2 * (g.now.R + g.now.C) : Nat)) ∨ z = 100))) := by
  unfold f_X11_isOutThere
  rw [m_isWindow hm hV hz, cal_some, join_eq]
  by_cases a : 0 ≤ z ∧ z < (2 * (g.now.R + g.now.C) : Nat)
  · rw [decide_eq_true a, bn_true, if_pos (by decide), rZ1, decide_eq_true (Or.inl a)]; rfl
  · rw [decide_eq_false a, bn_false, if_neg (by decide)]
    by_cases b : z = 100
    · rw [if_neg (by rw [b]; exact fun q => q rfl), rZ1, decide_eq_true (Or.inr b)]; rfl
    · rw [if_pos (iI_ne hz (by omega) b), rZ0, decide_eq_false (fun q => by rcases q with q | q; exact a q; exact b q)]; rfl
theorem m_odds {x w z y : Int} (hm : MSt h g) (hg : GV g) (hx : -2147483648 ≤ x ∧ x < 2147483648) (hw : -2147483648 ≤ w ∧ w < 2147483648) (hz : -2147483648 ≤ z ∧ z < 2147483648) (hy : -2147483648 ≤ y ∧ y < 2147483648) : OPM64 h (f_X11_odds h (iI x) (iI w) (iI z) (iI y)) (spOdds g x w z y).1 (spOdds g x w z y).2 := by
  have hV := hg.1.1
  have hD := hg.1.2.1
  have h25 := sq_25 hV.2.1 hV.2.2.2.1
  unfold f_X11_odds spOdds
  rw [m_isMask hm.1.1 hV hx, cal_some, join_eq]
  by_cases e1 : 0 ≤ x ∧ x < (2 ^ (g.now.R * g.now.C) : Nat)
  · rw [decide_eq_true e1, bn_true, if_neg (by decide), m_isWindow hm.1.1 hV hw, cal_some]
    by_cases e2 : 0 ≤ w ∧ w < (2 * (g.now.R + g.now.C) : Nat)
    · rw [decide_eq_true e2, bn_true, if_neg (by decide), m_isOutThere hm.1.1 hV hz, cal_some]
      by_cases e3 : (0 ≤ z ∧ z < (2 * (g.now.R + g.now.C) : Nat)) ∨ z = 100
      · rw [decide_eq_true e3, bn_true, if_neg (by decide), m_in hy (by omega) (by omega), cal_some]
        by_cases e4 : 0 ≤ y ∧ y ≤ 1
        · rw [decide_eq_true e4, bn_true, if_pos (by decide), if_pos ⟨e1, e2, e3, e4⟩]
          obtain ⟨m0, s1, s2, s3, s4, s5⟩ := m_findUnk (x := iI x) hm hg
          obtain ⟨wn, rfl⟩ : ∃ wn : Nat, w = wn := ⟨w.toNat, by omega⟩
          have hU : okU (g.now.R * g.now.C) (unk g.now (iI x)) := by
            have go : ∀ (f i : Nat) (l : List Nat), i + f = g.now.R * g.now.C → okU (g.now.R * g.now.C) l → okU (g.now.R * g.now.C) (unkF g.now.K (iI x) f i l) := by
              intro f
              induction f with
              | zero => intro i l _ hl; exact hl
              | succ f ih =>
                intro i l hf hl
                unfold unkF
                split
                · exact hl
                · refine ih _ _ (by omega) ?_
                  split
                  · refine ⟨by rw [List.length_append]; show l.length + 1 ≤ 5; omega, fun q hq => ?_⟩
                    rcases List.mem_append.mp hq with z | z
                    · exact hl.2 q z
                    · rw [List.mem_singleton.mp z]; omega
                  · exact hl
            exact go _ 0 [] (by omega) ⟨by simp, fun q hq => absurd hq List.not_mem_nil⟩
          show OPM64 h _ (Int32.toInt64 (if y = 0 then iI (oddC g x wn z).1 else iI (oddC g x wn z).2)) g
          unfold oddC
          rw [Int.toNat_natCast]
          generalize unk g.now (iI x) = U at *
          obtain ⟨pw, p32, p1⟩ := pow_u U.length (by have := hU.1; omega)
          obtain ⟨P, hP⟩ : ∃ P, P = 2 ^ U.length := ⟨_, rfl⟩
          obtain ⟨X, hX⟩ : ∃ X, X = cntO g.now U wn z P 0 := ⟨_, rfl⟩
          have hXP : X ≤ P := by rw [hX]; exact cntO_le P 0
          have hvg : hvF 5 X P = (X / Nat.gcd X P, P / Nat.gcd X P) := by rw [hP]; exact hv_gcd U.length (by have := hU.1; omega) X (by rw [hP] at hXP; omega) (by rw [hP] at hXP; exact hXP)
          rw [← hP] at pw p32 p1 ⊢
          rw [← hX, hvg]
          obtain ⟨m1, t1, t2, t3, t4, t5⟩ := m_try s2 hg
          rw [s1, cal_some, t1, cal_some]
          have f1 : FC h m1 := s3.tr fun x k q => ⟨t4 x k (by omega), t5 x k⟩
          have pM : MSt m1 g := t3.2.st t2 ((t4 _ _ (by omega)).trans s2.w12) ((t4 _ _ (by omega)).trans s2.w13)
          obtain ⟨N, hN⟩ : ∃ N : Nat, N = 1000000 := ⟨_, rfl⟩
          rw [← hN]
          refine lo3_t (fun f x10 x11 m => ∃ (i acc : Nat), x10 = iI acc ∧ x11 = iI i ∧ i + f = P ∧ acc + cntO g.now U wn z f i = X ∧ MSt m g ∧ MTr m g ∧ FC h m ∧ gI m 72 33 = iI U.length ∧ (∀ j (hj : j < U.length), gI m 82 j = iI U[j])) (fun o => OPM64 h o (Int32.toInt64 (if y = 0 then iI (X / Nat.gcd X P : Nat) else iI (P / Nat.gcd X P : Nat))) g) ?_ N P _ _ _ (by omega) ⟨0, 0, rfl, rfl, by omega, by rw [Nat.zero_add]; exact hX.symm, pM, t3, f1, (t4 _ _ (by omega)).trans s4, fun j hj => (t4 _ _ (by omega)).trans (s5 j hj)⟩
          rintro f x10 x11 m ⟨i, acc, rfl, rfl, hf, hA, hM, hT, hF, b1, b4⟩ Kc
          unfold f_X11_odds_k13
          have e : (iI P ≤ iI i) = ((P : Int) ≤ i) := iI_le ⟨by omega, by omega⟩
          rw [b1, pw]
          by_cases hi : i = P
          · left
            have hacc : acc = X := by rw [show f = 0 by omega] at hA; exact hA
            have hgp : 0 < Nat.gcd X P := Nat.gcd_pos_of_pos_right _ (by omega)
            have hgl : Nat.gcd X P ≤ P := Nat.gcd_le_right _ (by omega)
            rw [if_pos (by rw [e]; omega), nm_eq, hacc, m_divisor (by omega) (by omega), cal_some]
            refine ⟨_, rfl, ?_⟩
            by_cases y0 : y = 0
            · rw [if_neg (by rw [y0]; decide), if_pos y0, nz_i (by omega), iI_div (by omega) (by omega)]
              exact ⟨m, rfl, hM, hF⟩
            · rw [if_pos (by rw [iI_zero]; exact iI_ne hy (by omega) y0), if_neg y0, nz_i (by omega), iI_div (by omega) (by omega)]
              exact ⟨m, rfl, hM, hF⟩
          · right
            obtain ⟨f', rfl⟩ : ∃ f', f = f' + 1 := ⟨f - 1, by omega⟩
            unfold cntO at hA
            obtain ⟨m2, q1, q2, q3, q4⟩ := m_slantsAre (x := i) hU h25 hM.1.1 b1 b4
            have hDx := stU_VD (x := i) U 0 g.now.S hU hD
            obtain ⟨m3, r1, ⟨⟨L', hH', hD'⟩, r4, r6, r3, r5⟩⟩ := m_ry (wd := -1) hV q2 hDx ((q4 12).trans hM.w12) (by omega) (win := wn) (by omega)
            have z12 : gI m3 72 12 = iI (-1) := (r5.2.1 12 (by omega) (by omega) (by omega) (by omega) (by omega) (by omega) (by omega)).trans ((q4 12).trans hM.w12)
            have z13 : gI m3 72 13 = iI (-1) := (r5.2.1 13 (by omega) (by omega) (by omega) (by omega) (by omega) (by omega) (by omega)).trans ((q4 13).trans hM.w13)
            obtain ⟨m4, u1, u2, u3, u4, u5⟩ := m_untry ((hT.fr hg q3).fr hg r5) hg z12 z13
            have fc4 : FC h m4 := ((hF.tr q3.fc).tr r5.fc).tr fun x k q => ⟨u4 x k (by omega), u5 x k⟩
            have b1' : gI m4 72 33 = iI U.length := (u4 _ _ (by omega)).trans ((r5.2.1 33 (by omega) (by omega) (by omega) (by omega) (by omega) (by omega) (by omega)).trans ((q4 33).trans b1))
            have b4' : ∀ j (hj : j < U.length), gI m4 82 j = iI U[j] := fun j hj => (u4 _ _ (by omega)).trans (((r5.1 82 j (by omega) (by omega)).1).trans (((q3.1 82 j (by omega) (by omega)).1).trans (b4 j hj)))
            have hb := ry_b (S := stU i U 0 g.now.S) (T := g.now.T) hV (show wn < 2 * (g.now.R + g.now.C) by omega)
            have ez : (iI (ry g.now.R g.now.C g.now.K g.now.M wn (stU i U 0 g.now.S) g.now.T).1 = iI z) = (((ry g.now.R g.now.C g.now.K g.now.M wn (stU i U 0 g.now.S) g.now.T).1 : Int) = z) := iI_eq ⟨by omega, hz⟩
            rw [if_neg (by rw [e]; omega), q1, cal_some, r1, cal2_some, join_eq]
            have fin : ∀ d : Nat, acc + d + cntO g.now U wn z f' (i + 1) = X → ∃ f'' a' b' c', f'' < f' + 1 ∧ (∃ (i acc : Nat), a' = iI acc ∧ b' = iI i ∧ i + f'' = P ∧ acc + cntO g.now U wn z f'' i = X ∧ MSt c' g ∧ MTr c' g ∧ FC h c' ∧ gI c' 72 33 = iI U.length ∧ (∀ j (hj : j < U.length), gI c' 82 j = iI U[j])) ∧ (fun x19 : Int32 => nm (iI acc + x19) fun x21 => cal (f_X11_moveAll m3 75 305 73 305) fun h22 => nm (iI (i : Int) + iI 1) fun x23 => Kc x21 x23 h22) (iI d) = Kc a' b' c' := fun d hd => by
              refine ⟨f', iI (acc + d : Nat), iI (i + 1 : Nat), m4, Nat.lt_succ_self f', ⟨i + 1, acc + d, rfl, rfl, by omega, hd, u2, u3, fc4, b1', b4'⟩, ?_⟩
              dsimp only
              rw [iI_add, nm_eq, u1, cal_some, nm_eq, iI_add]; rfl
            by_cases hz2 : ((ry g.now.R g.now.C g.now.K g.now.M wn (stU i U 0 g.now.S) g.now.T).1 : Int) = z
            · rw [if_pos hz2] at hA
              rw [if_neg (by rw [ez]; exact fun q => q hz2)]
              exact fin 1 (by omega)
            · rw [if_neg hz2] at hA
              rw [if_pos (by rw [ez]; exact hz2)]
              exact fin 0 (by omega)
        · rw [decide_eq_false e4, bn_false, if_neg (by decide), if_neg (fun q => e4 q.2.2.2)]
          exact m_fail64 hm hg
      · rw [decide_eq_false e3, bn_false, if_pos (by decide), if_neg (fun q => e3 q.2.2.1)]
        exact m_fail64 hm hg
    · rw [decide_eq_false e2, bn_false, if_pos (by decide), if_neg (fun q => e2 q.2.1)]
      exact m_fail64 hm hg
  · rw [decide_eq_false e1, bn_false, if_pos (by decide), if_neg (fun q => e1 q.1)]
    exact m_fail64 hm hg
theorem GV.odds {x w z y : Int} (hg : GV g) : GV (spOdds g x w z y).2 := by
  unfold spOdds
  by_cases e : (0 ≤ x ∧ x < (2 ^ (g.now.R * g.now.C) : Nat)) ∧ (0 ≤ w ∧ w < (2 * (g.now.R + g.now.C) : Nat)) ∧ ((0 ≤ z ∧ z < (2 * (g.now.R + g.now.C) : Nat)) ∨ z = 100) ∧ (0 ≤ y ∧ y ≤ 1)
  · rw [if_pos e]; exact hg
  · rw [if_neg e]; exact hg.fail 1
end ODDSOP
