section TEXTOP
variable {h : Mem} {g : GS}
def WH.lw (s : WH) (u : Nat) (c l : List Int32) : WH := (s.R, s.C, s.K, s.M, s.S, s.T, s.L, s.tak, s.day, s.z, [], s.waits, fun i => if i = u then c else s.code i, fun i => if i = u then some l else s.text i)
theorem WC.lw {h2 : Mem} {s : WH} {u : Nat} {c l : List Int32} (hu : u < 2) (hw : WC h 2 s) (e : ∀ x k, 2 ≤ x → x ≤ 14 → (x ≠ 2 ∨ 6 ≤ k) → (x ≠ 7 + 3 * u ∨ k ≠ 2) → x ≠ 7 + 3 * u + 1 → x ≠ 13 → gI h2 x k = gI h x k) (e2 : gL h2 3 6 = gL h 3 6) (q4 : gI h2 2 4 = iI 0) (q2 : gI h2 (7 + 3 * u) 2 = iI c.length) (q3 : LSt h2 (7 + 3 * u + 1) 0 c) : WC h2 2 (s.lw u c l) := by
  obtain ⟨h1, h2', h3, h4, h5, h6, h7, h8, h9, h10, h11, h12, h13, h14⟩ := hw
  refine ⟨hc_cong h1 (fun x k p q => e x k (by omega) (by omega) (by omega) (by omega) (by omega) (by omega)) e2, q4, fun k hk => absurd hk (Nat.not_lt_zero k), (e _ _ (by omega) (by omega) (by omega) (by omega) (by omega) (by omega)).trans h4, h5.cong fun k => e _ k (by omega) (by omega) (by omega) (by omega) (by omega) (by omega), (e _ _ (by omega) (by omega) (by omega) (by omega) (by omega) (by omega)).trans h6, (e _ _ (by omega) (by omega) (by omega) (by omega) (by omega) (by omega)).trans h7, (e _ _ (by omega) (by omega) (by omega) (by omega) (by omega) (by omega)).trans h8, ?_, ?_, ?_, ?_, ?_, ?_⟩
  · show gI h2 (2 + 5) 2 = iI (if 0 = u then c else s.code 0).length
    by_cases x : 0 = u
    · subst x; rw [if_pos rfl]; exact q2
    · rw [if_neg x, e _ _ (by omega) (by omega) (by omega) (by omega) (by omega) (by omega)]; exact h9
  · show LSt h2 (2 + 6) 0 (if 0 = u then c else s.code 0)
    by_cases x : 0 = u
    · subst x; rw [if_pos rfl]; exact q3
    · rw [if_neg x]; exact h10.cong fun k => e _ k (by omega) (by omega) (by omega) (by omega) (by omega) (by omega)
  · show gI h2 (2 + 8) 2 = iI (if 1 = u then c else s.code 1).length
    by_cases x : 1 = u
    · subst x; rw [if_pos rfl]; exact q2
    · rw [if_neg x, e _ _ (by omega) (by omega) (by omega) (by omega) (by omega) (by omega)]; exact h11
  · show LSt h2 (2 + 9) 0 (if 1 = u then c else s.code 1)
    by_cases x : 1 = u
    · subst x; rw [if_pos rfl]; exact q3
    · rw [if_neg x]; exact h12.cong fun k => e _ k (by omega) (by omega) (by omega) (by omega) (by omega) (by omega)
  · rw [e _ _ (by omega) (by omega) (by omega) (by omega) (by omega) (by omega)]; exact h13
  · rw [e _ _ (by omega) (by omega) (by omega) (by omega) (by omega) (by omega)]; exact h14
theorem WM.lw {h2 : Mem} {s : WH} {u : Nat} {c l : List Int32} (hu : u < 2) (hw : WM h 73 s) (hV : WV s) (e : ∀ k, k < 305 → k ≠ 5 → k ≠ 7 + u → (k < 205 + 50 * u ∨ 255 + 50 * u ≤ k) → gI h2 73 k = gI h 73 k) (q5 : gI h2 73 5 = iI 0) (q7 : gI h2 73 (7 + u) = iI l.length) (q8 : LSt h2 73 (205 + 50 * u) l) : WM h2 73 (s.lw u c l) := by
  obtain ⟨p1, p2, p3, p4, p5, p6, p7, p8, p9, p10⟩ := hw
  obtain ⟨-, -, -, -, v5, v6, -, v8⟩ := hV
  obtain ⟨a1, a2, a3⟩ := p1
  refine ⟨⟨(e _ (by omega) (by omega) (by omega) (by omega)).trans a1, (e _ (by omega) (by omega) (by omega) (by omega)).trans a2, fun q hq => ?_⟩, (e _ (by omega) (by omega) (by omega) (by omega)).trans p2, (e _ (by omega) (by omega) (by omega) (by omega)).trans p3, (e _ (by omega) (by omega) (by omega) (by omega)).trans p4, q5, fun k hk => absurd hk (Nat.not_lt_zero k), (e _ (by omega) (by omega) (by omega) (by omega)).trans p7, fun k hk => (e _ (by have : k < s.waits.length := hk; omega) (by omega) (by omega) (by have : k < s.waits.length := hk; omega)).trans (p8 k hk), ?_, ?_⟩
  · obtain ⟨b1, b2, b3, b4, b5⟩ := a3 q hq
    exact ⟨(e _ (by omega) (by omega) (by omega) (by omega)).trans b1, (e _ (by omega) (by omega) (by omega) (by omega)).trans b2, (e _ (by omega) (by omega) (by omega) (by omega)).trans b3, (e _ (by omega) (by omega) (by omega) (by omega)).trans b4, (e _ (by omega) (by omega) (by omega) (by omega)).trans b5⟩
  · show TX h2 73 0 (if 0 = u then some l else s.text 0)
    by_cases x : 0 = u
    · subst x; rw [if_pos rfl]; exact ⟨q7, q8⟩
    · rw [if_neg x]
      cases ht : s.text 0 with
      | none => rw [ht] at p9; exact (e _ (by omega) (by omega) (by omega) (by omega)).trans p9
      | some t => rw [ht] at p9; exact ⟨(e _ (by omega) (by omega) (by omega) (by omega)).trans p9.1, fun k hk => (e _ (by have := v8 0 t ht; omega) (by omega) (by omega) (by have := v8 0 t ht; omega)).trans (p9.2 k hk)⟩
  · show TX h2 73 1 (if 1 = u then some l else s.text 1)
    by_cases x : 1 = u
    · subst x; rw [if_pos rfl]; exact ⟨q7, q8⟩
    · rw [if_neg x]
      cases ht : s.text 1 with
      | none => rw [ht] at p10; exact (e _ (by omega) (by omega) (by omega) (by omega)).trans p10
      | some t => rw [ht] at p10; exact ⟨(e _ (by omega) (by omega) (by omega) (by omega)).trans p10.1, fun k hk => (e _ (by have := v8 1 t ht; omega) (by omega) (by omega) (by have := v8 1 t ht; omega)).trans (p10.2 k hk)⟩
abbrev txOk (u : Nat) (l : List Int32) : Prop := (txA u l).1 = false ∧ (txA u l).2.1 = l.length
theorem txA_OKR {u : Nat} {l : List Int32} : OKR l 0 (txA u l) := OKR.lv (OKR.leaf (u := u) (l := l) 5) 5 0
theorem WV.lw {s : WH} {u : Nat} (hV : WV s) (ho : txOk u s.tape) : WV (s.lw u (txA u s.tape).2.2.1 s.tape) := by
  obtain ⟨v1, v2, v3, v4, v5, v6, v7, v8⟩ := hV
  obtain ⟨o1, o2, o3⟩ := txA_OKR (u := u) (l := s.tape)
  obtain ⟨c1, c2, -⟩ := o3 ho.1
  refine ⟨v1, v2, v3, v4, Nat.zero_le _, v6, fun i => ?_, fun i t ht => ?_⟩
  · show (if i = u then (txA u s.tape).2.2.1 else s.code i).length ≤ 50 ∧ LTie i (if i = u then (txA u s.tape).2.2.1 else s.code i) (if i = u then some s.tape else s.text i)
    by_cases x : i = u
    · subst x
      rw [if_pos rfl, if_pos rfl]
      refine ⟨by have := ho.2; omega, fun z => ?_, ho.1, ho.2, rfl⟩
      rw [z] at c1
      exact absurd c1 (by decide)
    · rw [if_neg x, if_neg x]; exact v7 i
  · have ht2 : (if i = u then some s.tape else s.text i) = some t := ht
    by_cases x : i = u
    · rw [if_pos x] at ht2
      rw [← Option.some.inj ht2]; exact v5
    · rw [if_neg x] at ht2; exact v8 i t ht2
def spText (g : GS) (x : Int) : Int32 × GS := if 0 ≤ x ∧ x ≤ 1 then (if (txA x.toNat g.now.tape).1 = false ∧ (txA x.toNat g.now.tape).2.1 = g.now.tape.length then (iI 1, g.put (g.now.lw x.toNat (txA x.toNat g.now.tape).2.2.1 g.now.tape)) else (iI (-10 - ((txA x.toNat g.now.tape).2.1 : Int)), g.put (g.now.tap []))) else (iI (-1000000001), g.fail 1)
theorem c_text {x : Int} (hc : CSt h g) (hg : GV g) (hx : -2147483648 ≤ x ∧ x < 2147483648) : OPC h (f_X10_text h (iI x)) (spText g x).1 (spText g x).2 := by
  unfold f_X10_text spText
  rw [w_within hx (by omega) (by omega), cal_some]
  by_cases e1 : 0 ≤ x ∧ x ≤ 1
  · obtain ⟨u, rfl⟩ : ∃ u : Nat, x = u := ⟨x.toNat, by omega⟩
    have hu : u < 2 := by omega
    have h50 : g.now.tape.length ≤ 50 := hg.1.2.2.2.2.1
    obtain ⟨m1, w1, w2, w3, w4, w5⟩ := w_faultIn (u := u) hu h50 hc.1.2.2.1
    rw [decide_eq_true e1, bn_true, if_pos (by decide), if_pos e1, Int.toNat_natCast, hc.1.2.1, w1, cal2_some, nm_eq]
    have c0 : gI (sI m1 2 4 (iI 0)) 2 4 = iI 0 := gI_same
    have fr : ∀ y k, y < 34 → (y ≠ 2 ∨ k ≠ 4) → gI (sI m1 2 4 (iI 0)) y k = gI h y k := fun y k q1 q2 => (gI_ne (by omega)).trans (w2 y k (by omega))
    by_cases ho : (txA u g.now.tape).1 = false ∧ (txA u g.now.tape).2.1 = g.now.tape.length
    · obtain ⟨t1, t2⟩ := w4 ho.1
      obtain ⟨o1, o2, o3⟩ := txA_OKR (u := u) (l := g.now.tape)
      obtain ⟨c1, c2, -⟩ := o3 ho.1
      have hcl : (txA u g.now.tape).2.2.1.length ≤ 50 := by omega
      have hlaw : f_X9_lawOf (sI m1 2 4 (iI 0)) 2 (iI u) = some (7 + 3 * u) := by
        unfold f_X9_lawOf
        rcases (show u = 0 ∨ u = 1 by omega) with rfl | rfl
        · exact if_neg (by decide)
        · exact if_pos (by decide)
      have e : mxI (iI 0) (mnI (mnI (Int32.ofNat 50) (Int32.ofNat 50)) (iI (txA u g.now.tape).2.2.1.length)) = iI (txA u g.now.tape).2.2.1.length := by
        rw [iI_nat, mnI_i (by omega), mnI_i (by omega), mxI_i (by omega)]
        congr 1
        omega
      have hlearn : f_X5_learn (sI m1 2 4 (iI 0)) (7 + 3 * u) 35 50 (iI (txA u g.now.tape).2.2.1.length) = some (cpI (sI (sI m1 2 4 (iI 0)) (7 + 3 * u) 2 (iI (txA u g.now.tape).2.2.1.length)) 35 0 (7 + 3 * u + 1) 0 (txA u g.now.tape).2.2.1.length) := by
        unfold f_X5_learn f_X10_held
        rw [e, cal_some, nm_eq, gI_same, acp_i (by omega) (by omega), Int.toNat_natCast]; rfl
      rw [if_pos ho, if_pos rfl, if_pos ho, hlaw, cal_some, show gI (sI m1 2 4 (iI 0)) 34 1 = iI (txA u g.now.tape).2.2.1.length from (gI_ne (by omega)).trans t1, hlearn, cal_some]
      have fr2 : ∀ y k, y < 34 → (y ≠ 2 ∨ k ≠ 4) → (y ≠ 7 + 3 * u ∨ k ≠ 2) → y ≠ 7 + 3 * u + 1 → gI (cpI (sI (sI m1 2 4 (iI 0)) (7 + 3 * u) 2 (iI (txA u g.now.tape).2.2.1.length)) 35 0 (7 + 3 * u + 1) 0 (txA u g.now.tape).2.2.1.length) y k = gI h y k := fun y k q1 q2 q3 q4 => by
        rw [gI_cpI, if_neg (by omega), gI_ne (by omega), fr y k q1 q2]
      have fr3 : ∀ y k, 37 ≤ y → gI (cpI (sI (sI m1 2 4 (iI 0)) (7 + 3 * u) 2 (iI (txA u g.now.tape).2.2.1.length)) 35 0 (7 + 3 * u + 1) 0 (txA u g.now.tape).2.2.1.length) y k = gI h y k := fun y k q1 => by
        rw [gI_cpI, if_neg (by omega), gI_ne (by omega), gI_ne (by omega), w2 y k (by omega)]
      refine ⟨_, rfl, hc.now (WC.lw hu hc.1 (fun y k q1 q2 q3 q4 q5 q6 => fr2 y k (by omega) (by omega) q4 q5) (w3 _ _) ?_ ?_ fun k hk => ?_) (fun y k q => ?_) (w3 _ _), fun y k q => ⟨fr3 y k (by omega), w3 y k⟩⟩
      · rw [gI_cpI, if_neg (by omega), gI_ne (by omega), gI_same]
      · rw [gI_cpI, if_neg (by omega), gI_same]
      · rw [gI_cpI, if_pos ⟨rfl, by omega, by omega⟩, gI_ne (by omega), gI_ne (by omega)]
        have := t2 k hk
        rw [show 0 + (0 + k - 0) = 0 + k by omega]; exact this
      · by_cases y37 : 37 ≤ y
        · exact fr3 y k y37
        · exact fr2 y k (by omega) (by omega) (by omega) (by omega)
    · have en : (iI (txA u g.now.tape).2.1 = iI (-1)) = (((txA u g.now.tape).2.1 : Int) = -1) := iI_eq ⟨by omega, by omega⟩
      rw [if_neg ho, if_neg (by rw [en]; omega), if_neg ho, iI_sub]
      refine ⟨_, rfl, hc.now (hc.1.tap (fun y k q1 q2 q3 q4 => fr y k (by omega) (by omega)) (w3 _ _) c0 fun k hk => absurd hk (Nat.not_lt_zero k)) (fun y k q => ?_) (w3 _ _), fun y k q => ⟨(gI_ne (by omega)).trans (w2 y k (by omega)), w3 y k⟩⟩
      rw [gI_ne (by omega)]
      exact w2 y k (by omega)
  · rw [decide_eq_false e1, bn_false, if_neg (by decide), if_neg e1, cal2_id]
    exact c_fail hc (e := 1) (by omega)
theorem m_text {x : Int} (hm : MSt h g) (hg : GV g) (hx : -2147483648 ≤ x ∧ x < 2147483648) : OPM h (f_X11_text h (iI x)) (spText g x).1 (spText g x).2 := by
  unfold f_X11_text spText
  rw [m_in hx (by omega) (by omega), cal_some]
  by_cases e1 : 0 ≤ x ∧ x ≤ 1
  · obtain ⟨u, rfl⟩ : ∃ u : Nat, x = u := ⟨x.toNat, by omega⟩
    have hu : u < 2 := by omega
    have h50 : g.now.tape.length ≤ 50 := hg.1.2.2.2.2.1
    have h5 : gI h 73 5 = iI g.now.tape.length := hm.1.2.2.2.2.1
    have h6 : LSt h 73 135 g.now.tape := hm.1.2.2.2.2.2.1
    obtain ⟨m1, d1, d2, d3, d4⟩ := m_copy (q1 := 73) (q2 := 76) (n1 := 305) (n2 := 305) (h := h) (by omega) (by omega) (by omega)
    rw [decide_eq_true e1, bn_true, if_pos (by decide), if_pos e1, Int.toNat_natCast, d1, cal_some]
    obtain ⟨N, hN⟩ : ∃ N : Nat, N = 1000000 := ⟨_, rfl⟩
    rw [← hN]
    refine lo2_t (fun f x3 m => ∃ i : Nat, x3 = iI i ∧ i + f = 50 ∧ (∀ k, k < i → gI m 73 (205 + 50 * u + k) = gI h 73 (135 + k)) ∧ (∀ y k, y ≠ 73 ∨ k < 205 + 50 * u ∨ 255 + 50 * u ≤ k → gI m y k = gI m1 y k) ∧ (∀ y k, gL m y k = gL h y k)) (fun o => OPM h o (if (txA u g.now.tape).1 = false ∧ (txA u g.now.tape).2.1 = g.now.tape.length then (iI 1, g.put (g.now.lw u (txA u g.now.tape).2.2.1 g.now.tape)) else (iI (-10 - ((txA u g.now.tape).2.1 : Int)), g.put (g.now.tap []))).1 (if (txA u g.now.tape).1 = false ∧ (txA u g.now.tape).2.1 = g.now.tape.length then (iI 1, g.put (g.now.lw u (txA u g.now.tape).2.2.1 g.now.tape)) else (iI (-10 - ((txA u g.now.tape).2.1 : Int)), g.put (g.now.tap []))).2) ?_ N 50 _ _ (by omega) ⟨0, rfl, by omega, fun k hk => absurd hk (Nat.not_lt_zero k), fun _ _ _ => rfl, d3⟩
    rintro f x3 m ⟨i, rfl, hf, p1, p2, p3⟩ Kc
    unfold f_X11_text_k5
    have e : (iI 50 ≤ iI i) = ((50 : Int) ≤ i) := iI_le ⟨by omega, by omega⟩
    have r73 : ∀ k, k < 205 → gI m 73 k = gI h 73 k := fun k hk => (p2 _ _ (by omega)).trans (d2 _ _ (by omega))
    by_cases hi : i = 50
    · left
      subst hi
      rw [if_pos (by rw [e]; omega), ald_i (by omega) (by omega), show (5 : Int).toNat = 5 from rfl, r73 5 (by omega), h5, iI_add, ast_i (by omega) (by omega), show ((7 : Int) + (u : Int)).toNat = 7 + u by omega]
      have ft : LSt (sI m 73 (7 + u) (iI g.now.tape.length)) 73 (205 + 50 * u) g.now.tape := fun k hk => by
        rw [gI_ne (by omega), p1 k (by omega)]; exact h6 k hk
      obtain ⟨v, m2, w1, w2, w3, w4, w5, w6, w7⟩ := m_walks (h := sI m 73 (7 + u) (iI g.now.tape.length)) (u := u) (l := g.now.tape) (a := iI 1) (b := iI 1) (c := iI 1) hu h50 gI_same ft
      rw [w1, cal2_some, w3]
      have f73 : ∀ k, k < 305 → k ≠ 7 + u → (k < 205 + 50 * u ∨ 255 + 50 * u ≤ k) → gI m2 73 k = gI h 73 k := fun k q1 q2 q3 => by
        rw [w5 _ _ (by omega), gI_ne (by omega), p2 _ _ (by omega), d2 _ _ (by omega)]
      have fx : ∀ y k, y ≠ 72 → y ≠ 73 → y ≠ 76 → gI m2 y k = gI h y k := fun y k q1 q2 q3 => by
        rw [w5 _ _ (by omega), gI_ne (by omega), p2 _ _ (by omega), d2 _ _ (by omega)]
      have f72 : ∀ k, k < 16 ∨ 23 < k → gI m2 72 k = gI h 72 k := fun k q => by
        rw [w5 _ _ (by omega), gI_ne (by omega), p2 _ _ (by omega), d2 _ _ (by omega)]
      have f76 : ∀ k, k < 305 → gI m2 76 k = gI h 73 k := fun k q => by
        rw [w5 _ _ (by omega), gI_ne (by omega), p2 _ _ (by omega), d4 _ q]
      have fL : ∀ y k, gL m2 y k = gL h y k := fun y k => (w6 y k).trans (p3 y k)
      have kK : ∀ x10 : Int32, f_X11_text_k11 m2 x10 = (if ¬ x10 = 0 then (ast m2 73 305 (iI 5) (iI 0) fun h15 => if x10 = 0 then some (iI (-10) - gI m2 72 17, h15) else some (iI 1, h15)) else (cal (f_X11_moveAll m2 76 305 73 305) fun h16 => ast h16 73 305 (iI 5) (iI 0) fun h15 => if x10 = 0 then some (iI (-10) - gI m2 72 17, h15) else some (iI 1, h15))) := fun x10 => (rfl)
      by_cases ho : (txA u g.now.tape).1 = false ∧ (txA u g.now.tape).2.1 = g.now.tape.length
      · refine ⟨_, rfl, ?_⟩
        rw [decide_eq_true ho, bn_true, join_eq, join_eq, if_neg (by decide), if_neg (fun z => z rfl), kK, if_pos (by decide), ast_i (by omega) (by omega), if_neg (by decide), if_pos ho]
        refine ⟨_, rfl, hm.now hg (WM.lw hu hm.1 hg.1 (fun k q1 q2 q3 q4 => (gI_ne (by omega)).trans (f73 k q1 q3 q4)) gI_same ?_ fun k hk => ?_) (fun y k q => ?_), fun y k q => ⟨(gI_ne (by omega)).trans (fx y k (by omega) (by omega) (by omega)), fL y k⟩⟩
        · rw [gI_ne (by omega), w5 _ _ (by omega), gI_same]
        · rw [gI_ne (by omega), w5 _ _ (by omega)]; exact ft k hk
        · rw [gI_ne (by omega)]
          by_cases y72 : y = 72
          · subst y72; exact f72 k (by omega)
          · exact fx y k y72 (by omega) (by omega)
      · refine ⟨_, rfl, ?_⟩
        obtain ⟨m3, s1, s2, s3, s4⟩ := m_copy (q1 := 76) (q2 := 73) (n1 := 305) (n2 := 305) (h := m2) (by omega) (by omega) (by omega)
        rw [decide_eq_false ho, bn_false, join_eq, join_eq, if_pos (by decide), kK, if_neg (by decide), s1, cal_some, ast_i (by omega) (by omega), if_pos (by decide), if_neg ho, w2, iI_sub]
        have g73 : ∀ k, k < 305 → gI m3 73 k = gI h 73 k := fun k q => (s4 k q).trans (f76 k q)
        refine ⟨_, rfl, hm.now hg (hm.1.tap hg.1 (fun k q1 q2 q3 => (gI_ne (by omega)).trans (g73 k q1)) gI_same fun k hk => absurd hk (Nat.not_lt_zero k)) (fun y k q => ?_), fun y k q => ⟨(gI_ne (by omega)).trans ((s2 _ _ (by omega)).trans (fx y k (by omega) (by omega) (by omega))), (s3 y k).trans (fL y k)⟩⟩
        rw [gI_ne (by omega), s2 _ _ (by omega)]
        by_cases y72 : y = 72
        · subst y72; exact f72 k (by omega)
        · exact fx y k y72 (by omega) (by omega)
    · right
      rw [if_neg (by rw [e]; omega), iI_add, ald_i (by omega) (by omega), show ((135 : Int) + (i : Int)).toNat = 135 + i by omega, iI_mul, iI_add, iI_add, ast_i (by omega) (by omega), show ((205 : Int) + 50 * (u : Int) + (i : Int)).toNat = 205 + 50 * u + i by omega, r73 _ (by omega), nm_eq, iI_add]
      refine ⟨f - 1, _, _, by omega, ⟨i + 1, rfl, by omega, fun k hk => ?_, fun y k q => ?_, ?_⟩, rfl⟩
      · by_cases hk2 : k = i
        · rw [hk2, gI_same]
        · rw [gI_ne (by omega)]; exact p1 k (by omega)
      · rw [gI_ne (by omega)]; exact p2 y k q
      · exact p3
  · rw [decide_eq_false e1, bn_false, if_neg (by decide), if_neg e1, cal2_id]
    exact c_errs hm hg (e := 1) (by omega)
theorem GV.text {x : Int} (hg : GV g) : GV (spText g x).2 := by
  unfold spText
  by_cases e1 : 0 ≤ x ∧ x ≤ 1
  · rw [if_pos e1]
    by_cases ho : (txA x.toNat g.now.tape).1 = false ∧ (txA x.toNat g.now.tape).2.1 = g.now.tape.length
    · rw [if_pos ho]; exact hg.put (hg.1.lw ho)
    · rw [if_neg ho]; exact hg.tap (Nat.zero_le _)
  · rw [if_neg e1]; exact hg.fail 1
end TEXTOP
