section LAWOPS
variable {h : Mem} {g : GS}
def hld (v : Int32) (lo hi : Int) : Int32 := mxI (iI lo) (mnI (iI hi) v)
theorem hld_i {z lo hi : Int} (hz : -2147483648 ≤ z ∧ z < 2147483648) (hl : -2147483648 ≤ lo ∧ lo ≤ hi ∧ hi < 2147483648) : hld (iI z) lo hi = iI (max lo (min hi z)) := by
  unfold hld
  rw [mnI_i (by omega), mxI_i (by omega)]
theorem hld_b {v : Int32} {lo hi : Int} (hl : -2147483648 ≤ lo ∧ lo ≤ hi ∧ hi < 2147483648) : ∃ z : Int, hld v lo hi = iI z ∧ lo ≤ z ∧ z ≤ hi := by
  obtain ⟨z, rfl, z1, z2⟩ := iI_of v
  exact ⟨_, hld_i ⟨z1, z2⟩ hl, by omega, by omega⟩
theorem w_held {v : Int32} {lo hi : Int} : f_X10_held h v (iI lo) (iI hi) = some (hld v lo hi) := (rfl)
theorem m_held {v : Int32} {lo hi : Int} (hl : -2147483648 ≤ lo ∧ lo ≤ hi ∧ hi < 2147483648) : f_X11_held h v (iI lo) (iI hi) = some (hld v lo hi) := by
  obtain ⟨z, rfl, z1, z2⟩ := iI_of v
  rw [hld_i ⟨z1, z2⟩ hl]
  unfold f_X11_held
  have e1 : (iI lo ≤ iI z) = (lo ≤ z) := iI_le ⟨by omega, ⟨z1, z2⟩⟩
  have e2 : (iI z ≤ iI hi) = (z ≤ hi) := iI_le ⟨⟨z1, z2⟩, by omega⟩
  by_cases a : lo ≤ z
  · rw [if_pos (by rw [e1]; exact a)]
    by_cases b : z ≤ hi
    · rw [if_pos (by rw [e2]; exact b), show max lo (min hi z) = z by omega]
    · rw [if_neg (by rw [e2]; exact b), show max lo (min hi z) = hi by omega]
  · rw [if_neg (by rw [e1]; exact a), show max lo (min hi z) = lo by omega]
/-- what a law gives -/
def lawV (s : WH) (u : Nat) (a b c : Int32) : Int32 := match s.text u with
  | none => if u = 0 then hld (iI 5 + c) 0 99 else iI 0
  | some l => hld ((txA u l).2.2.2 a b c) (if u = 0 then 0 else -99) 99
theorem lawV_b {s : WH} {u : Nat} {a b c : Int32} : ∃ z : Int, lawV s u a b c = iI z ∧ -99 ≤ z ∧ z ≤ 99 := by
  unfold lawV
  cases s.text u with
  | none =>
    by_cases e : u = 0
    · dsimp only
      rw [if_pos e]
      obtain ⟨z, h1, h2, h3⟩ := hld_b (v := iI 5 + c) (lo := 0) (hi := 99) (by omega)
      exact ⟨z, h1, by omega, h3⟩
    · dsimp only
      rw [if_neg e]
      exact ⟨0, rfl, by omega, by omega⟩
  | some l =>
    dsimp only
    by_cases e : u = 0
    · rw [if_pos e]
      obtain ⟨z, h1, h2, h3⟩ := hld_b (v := (txA u l).2.2.2 a b c) (lo := 0) (hi := 99) (by omega)
      exact ⟨z, h1, by omega, h3⟩
    · rw [if_neg e]
      exact hld_b (by omega)
theorem WC.stk {h2 : Mem} {a : Nat} {s : WH} (hw : WC h a s) (e : ∀ x k, a ≤ x → x ≤ a + 12 → x ≠ a + 7 → x ≠ a + 10 → gI h2 x k = gI h x k) (e2 : gL h2 (a + 1) 6 = gL h (a + 1) 6) : WC h2 a s := by
  obtain ⟨h1, h2', h3, h4, h5, h6, h7, h8, h9, h10, h11, h12, h13, h14⟩ := hw
  exact ⟨hc_cong h1 (fun x k p q => e x k (by omega) (by omega) (by omega) (by omega)) e2, (e _ _ (by omega) (by omega) (by omega) (by omega)).trans h2', h3.cong fun k => e _ k (by omega) (by omega) (by omega) (by omega), (e _ _ (by omega) (by omega) (by omega) (by omega)).trans h4, h5.cong fun k => e _ k (by omega) (by omega) (by omega) (by omega), (e _ _ (by omega) (by omega) (by omega) (by omega)).trans h6, (e _ _ (by omega) (by omega) (by omega) (by omega)).trans h7, (e _ _ (by omega) (by omega) (by omega) (by omega)).trans h8, (e _ _ (by omega) (by omega) (by omega) (by omega)).trans h9, h10.cong fun k => e _ k (by omega) (by omega) (by omega) (by omega), (e _ _ (by omega) (by omega) (by omega) (by omega)).trans h11, h12.cong fun k => e _ k (by omega) (by omega) (by omega) (by omega), (e _ _ (by omega) (by omega) (by omega) (by omega)).trans h13, (e _ _ (by omega) (by omega) (by omega) (by omega)).trans h14⟩
theorem CSt.stk {h2 : Mem} (hc : CSt h g) (e : ∀ x k, x ≠ 9 → x ≠ 12 → gI h2 x k = gI h x k) (eL : ∀ x k, gL h2 x k = gL h x k) : CSt h2 g :=
  hc.now (s := g.now) (hc.1.stk (fun x k _ _ q1 q2 => e x k (by omega) (by omega)) (eL _ _)) (fun x k q => e x k (by omega) (by omega)) (eL _ _)
/-- what the class's law gives; only its stack's cell changes -/
theorem w_gives {s : WH} {u : Nat} {a b c : Int32} (hw : WC h 2 s) (hV : WV s) (hu : u < 2) : ∃ h2, f_X5_gives h (7 + 3 * u) a b c = some (lawV s u a b c, h2) ∧ (∀ x k, x ≠ 9 → x ≠ 12 → gI h2 x k = gI h x k) ∧ (∀ x k, gL h2 x k = gL h x k) := by
  obtain ⟨-, -, -, -, -, -, -, -, h9, h10, h11, h12, h13, h14⟩ := hw
  obtain ⟨v50, vT⟩ := hV.2.2.2.2.2.2.1 u
  have f0 : gI h (7 + 3 * u) 0 = iI u := by
    rcases (show u = 0 ∨ u = 1 by omega) with rfl | rfl
    · exact h13
    · exact h14
  have f2 : gI h (7 + 3 * u) 2 = iI (s.code u).length := by
    rcases (show u = 0 ∨ u = 1 by omega) with rfl | rfl
    · exact h9
    · exact h11
  have fl : LSt h (7 + 3 * u + 1) 0 (s.code u) := by
    rcases (show u = 0 ∨ u = 1 by omega) with rfl | rfl
    · exact h10
    · exact h12
  unfold f_X5_gives
  have k2 : ∀ K : Int32 → Option (Int32 × Mem), (if ¬ iI u = 0 then K (iI (-99)) else K (iI 0)) = K (iI (if u = 0 then 0 else -99)) := fun K => by
    rcases (show u = 0 ∨ u = 1 by omega) with rfl | rfl
    · exact if_neg (by decide)
    · exact if_pos (by decide)
  rw [join_eq, f0]
  have key : f_X5_gives_k2 h (7 + 3 * u) a b c (iI (if u = 0 then 0 else -99)) = (if ¬ iI (s.code u).length = 0 then cal2 (f_X5_worked h (7 + 3 * u) a b c) fun v7 h8 => some (hld v7 (if u = 0 then 0 else -99) 99, h8) else (cal (f_X5_withoutText h (7 + 3 * u) c) fun v9 => some (hld v9 (if u = 0 then 0 else -99) 99, h))) := by
    unfold f_X5_gives_k2
    rw [join_eq, f2]
    rfl
  have en : (iI (s.code u).length = 0) = (((s.code u).length : Int) = 0) := by rw [iI_zero]; exact iI_eq ⟨by omega, by omega⟩
  have goal : ∃ h2, f_X5_gives_k2 h (7 + 3 * u) a b c (iI (if u = 0 then 0 else -99)) = some (lawV s u a b c, h2) ∧ (∀ x k, x ≠ 9 → x ≠ 12 → gI h2 x k = gI h x k) ∧ (∀ x k, gL h2 x k = gL h x k) := by
    rw [key]
    cases ht : s.text u with
    | none =>
      rw [ht] at vT
      have hc0 : s.code u = [] := vT
      have hl0 : (s.code u).length = 0 := by rw [hc0]; rfl
      rw [if_neg (by rw [en]; omega)]
      unfold f_X5_withoutText lawV
      rw [f0, ht]
      refine ⟨h, ?_, fun _ _ _ _ => rfl, fun _ _ => rfl⟩
      rcases (show u = 0 ∨ u = 1 by omega) with rfl | rfl
      · rw [if_neg (by decide)]; rfl
      · rw [if_pos (by decide)]; rfl
    | some l =>
      rw [ht] at vT
      have hne : (s.code u).length ≠ 0 := fun z => vT.1 (List.length_eq_zero_iff.mp z)
      obtain ⟨h2, w1, w2, w3⟩ := w_worked (a := a) (b := b) (c := c) f2 fl v50
      rw [if_pos (by rw [en]; omega), w1, cal2_some, tie_val vT]
      refine ⟨h2, ?_, fun x k q1 q2 => w2 x k (by omega), w3⟩
      unfold lawV
      rw [ht]
  obtain ⟨h2, g1, g2⟩ := goal
  exact ⟨h2, (k2 (f_X5_gives_k2 h (7 + 3 * u) a b c)).trans g1, g2⟩
/-- h2 is as h but for the walk's own fields -/
theorem MX.wk {h2 : Mem} (hm : MX h g) (hg : GV g) (e : ∀ x k, x ≠ 72 ∨ k < 16 ∨ 23 < k → gI h2 x k = gI h x k) : MX h2 g := hm.keep hg.2.1 fun x k q => e x k (by omega)
theorem MSt.wk {h2 : Mem} (hm : MSt h g) (hg : GV g) (e : ∀ x k, x ≠ 72 ∨ k < 16 ∨ 23 < k → gI h2 x k = gI h x k) : MSt h2 g :=
  (hm.mx.wk hg e).st (hm.1.copy hg.1 fun k _ => e _ _ (by omega)) ((e _ _ (by omega)).trans hm.w12) ((e _ _ (by omega)).trans hm.w13)
theorem m_lawOf {s : WH} {u : Nat} {a b c : Int32} (hw : WM h 73 s) (hV : WV s) (hu : u < 2) : ∃ h2, f_X11_lawOf h (iI u) a b c = some (lawV s u a b c, h2) ∧ (∀ x k, x ≠ 72 ∨ k < 16 ∨ 23 < k → gI h2 x k = gI h x k) ∧ (∀ x k, gL h2 x k = gL h x k) := by
  obtain ⟨-, -, -, -, -, -, -, -, p9, p10⟩ := hw
  obtain ⟨-, vT⟩ := hV.2.2.2.2.2.2.1 u
  have v8 := hV.2.2.2.2.2.2.2 u
  have pt : TX h 73 u (s.text u) := by
    rcases (show u = 0 ∨ u = 1 by omega) with rfl | rfl
    · exact p9
    · exact p10
  unfold f_X11_lawOf
  rw [iI_add, ald_i (by omega) (by omega), show ((7 : Int) + (u : Int)).toNat = 7 + u by omega]
  cases ht : s.text u with
  | none =>
    rw [ht] at pt
    rw [show gI h 73 (7 + u) = iI (-1) from pt, if_neg (by decide)]
    refine ⟨h, ?_, fun _ _ _ => rfl, fun _ _ => rfl⟩
    unfold lawV
    rw [ht]
    rcases (show u = 0 ∨ u = 1 by omega) with rfl | rfl
    · rw [if_neg (by decide), m_held (by omega), cal_some]; rfl
    · rw [if_pos (by decide)]; rfl
  | some l =>
    rw [ht] at pt vT
    have hl := v8 l ht
    obtain ⟨t1, t2⟩ := pt
    have e0 : (0 ≤ iI l.length) = ((0 : Int) ≤ l.length) := by rw [iI_zero]; exact iI_le ⟨by omega, by omega⟩
    obtain ⟨v, h2, w1, w2, w3, w4, w5, w6, w7⟩ := m_walks (h := h) (a := a) (b := b) (c := c) hu hl t1 t2
    rw [t1, if_pos (by rw [e0]; omega), w1, cal2_some, w4 vT.2.1]
    refine ⟨h2, ?_, w5, w6⟩
    unfold lawV
    rw [ht]
    rcases (show u = 0 ∨ u = 1 by omega) with rfl | rfl
    · rw [if_neg (by decide), m_held (by omega), cal_some]; rfl
    · rw [if_pos (by decide), m_held (by omega), cal_some]; rfl
/-! law -/
def spLaw (g : GS) (x : Int) (a b c : Int32) : Int32 × GS := if 0 ≤ x ∧ x ≤ 1 then (lawV g.now x.toNat a b c, g) else (iI (-1000000001), g.fail 1)
theorem c_lawO {x : Int} {a b c : Int32} (hc : CSt h g) (hg : GV g) (hx : -2147483648 ≤ x ∧ x < 2147483648) : OPC h (f_X10_law h (iI x) a b c) (spLaw g x a b c).1 (spLaw g x a b c).2 := by
  unfold f_X10_law spLaw
  rw [w_within hx (by omega) (by omega), cal_some]
  by_cases e : 0 ≤ x ∧ x ≤ 1
  · obtain ⟨u, rfl⟩ : ∃ u : Nat, x = u := ⟨x.toNat, by omega⟩
    have hlaw : f_X9_lawOf h 2 (iI u) = some (7 + 3 * u) := by
      unfold f_X9_lawOf
      rcases (show u = 0 ∨ u = 1 by omega) with rfl | rfl
      · exact if_neg (by decide)
      · exact if_pos (by decide)
    obtain ⟨h2, w1, w2, w3⟩ := w_gives (a := a) (b := b) (c := c) hc.1 hg.1 (show u < 2 by omega)
    rw [decide_eq_true e, bn_true, if_neg (by decide), if_pos e, hlaw, cal_some, w1, cal2_some]
    exact ⟨h2, rfl, hc.stk w2 w3, fun y k q => ⟨w2 y k (by omega) (by omega), w3 y k⟩⟩
  · rw [decide_eq_false e, bn_false, if_pos (by decide), if_neg e, cal2_id]
    exact c_fail hc (e := 1) (by omega)
theorem m_lawO {x : Int} {a b c : Int32} (hm : MSt h g) (hg : GV g) (hx : -2147483648 ≤ x ∧ x < 2147483648) : OPM h (f_X11_law h (iI x) a b c) (spLaw g x a b c).1 (spLaw g x a b c).2 := by
  unfold f_X11_law spLaw
  rw [m_in hx (by omega) (by omega), cal_some]
  by_cases e : 0 ≤ x ∧ x ≤ 1
  · obtain ⟨u, rfl⟩ : ∃ u : Nat, x = u := ⟨x.toNat, by omega⟩
    obtain ⟨h2, w1, w2, w3⟩ := m_lawOf (a := a) (b := b) (c := c) hm.1 hg.1 (show u < 2 by omega)
    rw [decide_eq_true e, bn_true, if_neg (by decide), if_pos e, w1, cal2_some]
    exact ⟨h2, rfl, hm.wk hg w2, fun y k q => ⟨w2 y k (by omega), w3 y k⟩⟩
  · rw [decide_eq_false e, bn_false, if_pos (by decide), if_neg e, cal2_id]
    exact c_errs hm hg (e := 1) (by omega)
theorem GV.law {x : Int} {a b c : Int32} (hg : GV g) : GV (spLaw g x a b c).2 := by
  unfold spLaw
  split
  · exact hg
  · exact hg.fail 1
/-! what a hand costs -/
def costV (s : WH) (q : Nat) : Int32 := lawV s 0 (iI (q / s.C : Nat)) (iI (q % s.C : Nat)) (iI (s.M q))
theorem w_cost {s : WH} {q : Nat} (hw : WC h 2 s) (hV : WV s) (hq : q < 25) : ∃ h2, f_X9_handCost h 2 (iI q) = some (costV s q, h2) ∧ (∀ x k, x ≠ 9 → x ≠ 12 → gI h2 x k = gI h x k) ∧ (∀ x k, gL h2 x k = gL h x k) := by
  obtain ⟨v1, v2, v3, v4, vK, vM⟩ := hV.1
  unfold f_X9_handCost f_X10_quotient f_X10_rest
  have eC : gI h 3 1 = iI s.C := hw.1.2.1
  have nC : ¬ iI s.C = 0 := by rw [iI_zero]; exact iI_ne (by omega) (by omega) (by omega)
  obtain ⟨h2, w1, w2, w3⟩ := w_gives (a := iI (q / s.C : Nat)) (b := iI (q % s.C : Nat)) (c := iI (s.M q)) hw hV (show 0 < 2 by omega)
  rw [eC, if_pos nC, if_pos nC, nz_i (by omega), nz_i (by omega), iI_div (by omega) (by omega), iI_rem (by omega) (by omega), cal_some, cal_some, ald_i (by omega) (by omega), Int.toNat_natCast, show gI h 5 q = iI (s.M q) from hw.1.2.2.2.1 q hq, show ((q : Int) / (s.C : Int)) = ((q / s.C : Nat) : Int) from rfl, show ((q : Int) % (s.C : Int)) = ((q % s.C : Nat) : Int) from rfl]
  refine ⟨h2, ?_, w2, w3⟩
  rw [show (2 + 5 : Nat) = 7 + 3 * 0 from rfl, w1, cal2_some]; rfl
theorem m_cost {s : WH} {q : Nat} (hw : WM h 73 s) (hV : WV s) (hq : q < 25) : ∃ h2, f_X11_costOf h (iI q) = some (costV s q, h2) ∧ (∀ x k, x ≠ 72 ∨ k < 16 ∨ 23 < k → gI h2 x k = gI h x k) ∧ (∀ x k, gL h2 x k = gL h x k) := by
  obtain ⟨v1, v2, v3, v4, vK, vM⟩ := hV.1
  unfold f_X11_costOf
  have eC : gI h 73 1 = iI s.C := hw.1.2.1
  obtain ⟨h2, w1, w2, w3⟩ := m_lawOf (a := iI (q / s.C : Nat)) (b := iI (q % s.C : Nat)) (c := iI (s.M q)) hw hV (show 0 < 2 by omega)
  rw [ald_i (by omega) (by omega), show (1 : Int).toNat = 1 from rfl, eC, nz_i (by omega), ald_i (by omega) (by omega), show (1 : Int).toNat = 1 from rfl, eC, nz_i (by omega), m_its1 hq, (hw.1.2.2 q hq).2.1, cal_some, iI_div (by omega) (by omega), iI_rem (by omega) (by omega), show ((q : Int) / (s.C : Int)) = ((q / s.C : Nat) : Int) from rfl, show ((q : Int) % (s.C : Int)) = ((q % s.C : Nat) : Int) from rfl]
  refine ⟨h2, ?_, w2, w3⟩
  rw [show (iI 0) = iI ((0 : Nat) : Int) from rfl, w1, cal2_some]; rfl
/-! ofSquare -/
def trn (k : Nat) : Bool := decide (k = 1 ∨ k = 5)
theorem w_handCan {a q R C : Nat} {K M T L : Nat → Nat} {S : Nat → Bool} (hh : HC h a R C K M S T L) (hK : K q ≤ 6) (hq : q < 25) : f_X3_handCan h a (iI q) = some (bn (trn (K q))) := by
  unfold f_X3_handCan
  rw [ald_i (by omega) (by omega), Int.toNat_natCast, hh.2.2.1 q hq, join_eq, ald_i (by omega) (by omega), Int.toNat_natCast, hh.2.2.1 q hq]
  generalize K q = k at *
  rcases (show k = 0 ∨ k = 1 ∨ k = 2 ∨ k = 3 ∨ k = 4 ∨ k = 5 ∨ k = 6 by omega) with rfl | rfl | rfl | rfl | rfl | rfl | rfl <;> rfl
theorem m_canTurn {q R C : Nat} {K M T L : Nat → Nat} {S : Nat → Bool} (hh : RM h 73 R C K M S T L) (hK : K q ≤ 6) (hq : q < 25) : f_X11_canTurn h (iI q) = some (bn (trn (K q))) := by
  unfold f_X11_canTurn
  rw [m_its0 hq, (hh.2.2 q hq).1, cal_some]
  generalize K q = k at *
  rcases (show k = 0 ∨ k = 1 ∨ k = 2 ∨ k = 3 ∨ k = 4 ∨ k = 5 ∨ k = 6 by omega) with rfl | rfl | rfl | rfl | rfl | rfl | rfl <;> rfl
def spOfSq (g : GS) (x y : Int) : Int32 × GS := if 0 ≤ x ∧ x < (g.now.R * g.now.C : Nat) then (if 0 ≤ y ∧ y ≤ 7 then ((if y = 0 then iI (g.now.K x.toNat) else if y = 1 then iI (g.now.M x.toNat) else if y = 2 then bn (g.now.S x.toNat) else if y = 3 then iI (g.now.T x.toNat) else if y = 4 then iI (g.now.L x.toNat) else if y = 5 then (if trn (g.now.K x.toNat) then costV g.now x.toNat else iI (-1)) else if y = 6 then bn (thr (g.now.K x.toNat)) else bn (stp (g.now.K x.toNat))), g) else (iI (-1000000001), g.fail 1)) else (iI (-1000000001), g.fail 1)
theorem c_ofSq {x y : Int} (hc : CSt h g) (hg : GV g) (hx : -2147483648 ≤ x ∧ x < 2147483648) (hy : -2147483648 ≤ y ∧ y < 2147483648) : OPC h (f_X10_ofSquare h (iI x) (iI y)) (spOfSq g x y).1 (spOfSq g x y).2 := by
  have hh := hc.1.1
  have hV := hg.1.1
  have h25 := sq_25 hV.2.1 hV.2.2.2.1
  unfold f_X10_ofSquare spOfSq
  rw [w_hasSquare hh hV hx, cal_some, join_eq, cal2_id]
  by_cases e1 : 0 ≤ x ∧ x < (g.now.R * g.now.C : Nat)
  · obtain ⟨q, rfl⟩ : ∃ q : Nat, x = q := ⟨x.toNat, by omega⟩
    have hq : q < 25 := by omega
    rw [decide_eq_true e1, bn_true, if_neg (by decide), if_pos e1, w_within hy (by omega) (by omega), cal_some, Int.toNat_natCast]
    by_cases e2 : 0 ≤ y ∧ y ≤ 7
    · rw [decide_eq_true e2, bn_true, if_pos (by decide), if_pos e2, ald_i (by omega) (by omega), Int.toNat_natCast, show gI h 4 q = iI (g.now.K q) from hh.2.2.1 q hq]
      by_cases e : y = 0
      · subst e; rw [if_pos rfl, if_pos rfl]; exact OPC.same hc
      rw [if_neg (iI_ne hy (by omega) e), if_neg e]; clear e
      by_cases e : y = 1
      · subst e; rw [if_pos rfl, if_pos rfl, ald_i (by omega) (by omega), Int.toNat_natCast, show gI h 5 q = iI (g.now.M q) from hh.2.2.2.1 q hq]; exact OPC.same hc
      rw [if_neg (iI_ne hy (by omega) e), if_neg e]; clear e
      by_cases e : y = 2
      · subst e; rw [if_pos rfl, if_pos rfl, h_slantOf hh.2.2.2.2.2.1 hq, cal_some]; exact OPC.same hc
      rw [if_neg (iI_ne hy (by omega) e), if_neg e]; clear e
      by_cases e : y = 3
      · subst e; rw [if_pos rfl, if_pos rfl, h_timeOf hh.2.2.2.2.2.2 (fun p => by have := hg.1.2.1.1 p; omega) hq, cal_some]; exact OPC.same hc
      rw [if_neg (iI_ne hy (by omega) e), if_neg e]; clear e
      by_cases e : y = 4
      · subst e; rw [if_pos rfl, if_pos rfl, ald_i (by omega) (by omega), Int.toNat_natCast, show gI h 6 q = iI (g.now.L q) from hh.2.2.2.2.1 q hq]; exact OPC.same hc
      rw [if_neg (iI_ne hy (by omega) e), if_neg e]; clear e
      by_cases e : y = 5
      · subst e
        rw [if_pos rfl, if_pos rfl, w_handCan hh (hV.2.2.2.2.1 q) hq, cal_some]
        cases trn (g.now.K q)
        · rw [bn_false, if_pos (by decide), if_neg (by decide)]; exact OPC.same hc
        · obtain ⟨h2, w1, w2, w3⟩ := w_cost hc.1 hg.1 hq
          rw [bn_true, if_neg (by decide), if_pos rfl, w1, cal2_some]
          exact ⟨h2, rfl, hc.stk w2 w3, fun y k q => ⟨w2 y k (by omega) (by omega), w3 y k⟩⟩
      rw [if_neg (iI_ne hy (by omega) e), if_neg e]; clear e
      by_cases e : y = 6
      · subst e
        rw [if_pos rfl, if_pos rfl, h_throws (hV.2.2.2.2.1 q), cal_some]
        cases thr (g.now.K q)
        · rw [bn_false, if_pos (by decide)]; exact OPC.same hc
        · rw [bn_true, if_neg (by decide)]; exact OPC.same hc
      rw [if_neg (iI_ne hy (by omega) e), if_neg e, h_stops (hV.2.2.2.2.1 q), cal_some]
      cases stp (g.now.K q)
      · rw [bn_false, if_pos (by decide)]; exact OPC.same hc
      · rw [bn_true, if_neg (by decide)]; exact OPC.same hc
    · rw [decide_eq_false e2, bn_false, if_neg (by decide), if_neg e2]
      exact c_fail hc (e := 1) (by omega)
  · rw [decide_eq_false e1, bn_false, if_pos (by decide), if_neg e1]
    exact c_fail hc (e := 1) (by omega)
theorem m_ofSq {x y : Int} (hm : MSt h g) (hg : GV g) (hx : -2147483648 ≤ x ∧ x < 2147483648) (hy : -2147483648 ≤ y ∧ y < 2147483648) : OPM h (f_X11_ofSquare h (iI x) (iI y)) (spOfSq g x y).1 (spOfSq g x y).2 := by
  have hh := hm.1.1
  have hV := hg.1.1
  have h25 := sq_25 hV.2.1 hV.2.2.2.1
  unfold f_X11_ofSquare spOfSq
  rw [m_isSquare hh hV hx, cal_some, join_eq, cal2_id]
  by_cases e1 : 0 ≤ x ∧ x < (g.now.R * g.now.C : Nat)
  · obtain ⟨q, rfl⟩ : ∃ q : Nat, x = q := ⟨x.toNat, by omega⟩
    have hq : q < 25 := by omega
    rw [decide_eq_true e1, bn_true, if_neg (by decide), if_pos e1, m_in hy (by omega) (by omega), cal_some, Int.toNat_natCast]
    by_cases e2 : 0 ≤ y ∧ y ≤ 7
    · rw [decide_eq_true e2, bn_true, if_pos (by decide), if_pos e2]
      by_cases e5 : y = 5
      · subst e5
        rw [if_pos rfl, if_neg (by omega), if_neg (by omega), if_neg (by omega), if_neg (by omega), if_neg (by omega), if_pos rfl, m_canTurn hh (hV.2.2.2.2.1 q) hq, cal_some]
        cases trn (g.now.K q)
        · rw [bn_false, if_pos (by decide), if_neg (by decide)]; exact OPM.same hm
        · obtain ⟨h2, w1, w2, w3⟩ := m_cost hm.1 hg.1 hq
          rw [bn_true, if_neg (by decide), if_pos rfl, w1, cal2_some]
          exact ⟨h2, rfl, hm.wk hg w2, fun y k q => ⟨w2 y k (by omega), w3 y k⟩⟩
      rw [if_neg (iI_ne hy (by omega) e5)]
      by_cases e6 : y = 6
      · subst e6
        rw [if_pos rfl, if_neg (by omega), if_neg (by omega), if_neg (by omega), if_neg (by omega), if_neg (by omega), if_neg (by omega), if_pos rfl, m_throws hh hq (hV.2.2.2.2.1 q), cal_some]
        cases thr (g.now.K q)
        · rw [bn_false, if_pos (by decide)]; exact OPM.same hm
        · rw [bn_true, if_neg (by decide)]; exact OPM.same hm
      rw [if_neg (iI_ne hy (by omega) e6)]
      by_cases e7 : y = 7
      · subst e7
        rw [if_pos rfl, if_neg (by omega), if_neg (by omega), if_neg (by omega), if_neg (by omega), if_neg (by omega), if_neg (by omega), if_neg (by omega), m_stops hh hq (hV.2.2.2.2.1 q), cal_some]
        cases stp (g.now.K q)
        · rw [bn_false, if_pos (by decide)]; exact OPM.same hm
        · rw [bn_true, if_neg (by decide)]; exact OPM.same hm
      rw [if_neg (iI_ne hy (by omega) e7)]
      obtain ⟨a1, a2, a3, a4, a5⟩ := hh.2.2 q hq
      rcases (show y = 0 ∨ y = 1 ∨ y = 2 ∨ y = 3 ∨ y = 4 by omega) with rfl | rfl | rfl | rfl | rfl
      · rw [if_pos rfl, m_its0 hq, a1, cal_some]; exact OPM.same hm
      · rw [if_neg (by omega), if_pos rfl, m_its1 hq, a2, cal_some]; exact OPM.same hm
      · rw [if_neg (by omega), if_neg (by omega), if_pos rfl, m_its2 hq, a3, cal_some]; exact OPM.same hm
      · rw [if_neg (by omega), if_neg (by omega), if_neg (by omega), if_pos rfl, m_its3 hq, a4, cal_some]; exact OPM.same hm
      · rw [if_neg (by omega), if_neg (by omega), if_neg (by omega), if_neg (by omega), if_pos rfl, m_its4 hq, a5, cal_some]; exact OPM.same hm
    · rw [decide_eq_false e2, bn_false, if_neg (by decide), if_neg e2]
      exact c_errs hm hg (e := 1) (by omega)
  · rw [decide_eq_false e1, bn_false, if_pos (by decide), if_neg e1]
    exact c_errs hm hg (e := 1) (by omega)
theorem GV.ofSq {x y : Int} (hg : GV g) : GV (spOfSq g x y).2 := by
  unfold spOfSq
  by_cases e1 : 0 ≤ x ∧ x < (g.now.R * g.now.C : Nat)
  · rw [if_pos e1]
    by_cases e2 : 0 ≤ y ∧ y ≤ 7
    · rw [if_pos e2]; exact hg
    · rw [if_neg e2]; exact hg.fail 1
  · rw [if_neg e1]; exact hg.fail 1
end LAWOPS
