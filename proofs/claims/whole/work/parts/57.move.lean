section MOVEOP
variable {h : Mem} {g : GS}
/-- n numbers of l from i on come into m from j on -/
def cpL (l : List Int32) (i : Nat) (m : List Int32) (j n : Nat) : List Int32 := (List.range m.length).map fun k => if j ≤ k ∧ k < j + n then l.getD (i + (k - j)) 0 else m.getD k 0
theorem cpL_len {l m : List Int32} {i j n : Nat} : (cpL l i m j n).length = m.length := by unfold cpL; rw [List.length_map, List.length_range]
theorem cpL_get {l m : List Int32} {i j n k : Nat} (hk : k < (cpL l i m j n).length) : (cpL l i m j n)[k] = if j ≤ k ∧ k < j + n then l.getD (i + (k - j)) 0 else m.getD k 0 := by
  simp only [cpL, List.getElem_map, List.getElem_range]
def spMove (g : GS) (x y z t n : Int) : Int32 × GS := if (0 ≤ x ∧ x ≤ 3) ∧ (0 ≤ z ∧ z ≤ 3) then (if g.bits x.toNat = 0 ∨ g.bits z.toNat = 0 then (iI (-1000000002), g.fail 2) else if g.bits x.toNat = g.bits z.toNat then (if 0 ≤ n ∧ 0 ≤ y ∧ y + n ≤ (g.sheet x.toNat).length ∧ 0 ≤ t ∧ t + n ≤ (g.sheet z.toNat).length then (iI n, g.shs z.toNat (g.bits z.toNat) (cpL (g.sheet x.toNat) y.toNat (g.sheet z.toNat) t.toNat n.toNat)) else (iI (-1000000001), g.fail 1)) else (iI (-1000000005), g.fail 5)) else (iI (-1000000001), g.fail 1)
theorem w_hasPart {u : Nat} {y n : Int} (hc : CSt h g) (hg : GV g) (hu : u < 4) (hy : -2147483648 ≤ y ∧ y < 2147483648) (hn : -2147483648 ≤ n ∧ n < 2147483648) : f_X7_hasPart h (64 + 2 * u) (iI y) (iI n) = some (bn (decide (0 ≤ n ∧ 0 ≤ y ∧ y + n ≤ (g.sheet u).length))) := by
  obtain ⟨s1, s2, s3, s4⟩ := hg.2.2.1 u hu
  obtain ⟨c1, c2, c3⟩ := hc.2.2.2.2.1 u hu
  unfold f_X7_hasPart
  have e1 : (iI n < 0) = (n < 0) := by rw [iI_zero]; exact iI_lt ⟨hn, by omega⟩
  rw [join_eq, c2]
  by_cases n0 : n < 0
  · rw [if_pos (by rw [e1]; exact n0), rZ0, decide_eq_false (by omega)]; rfl
  · rw [if_neg (by rw [e1]; exact n0), w_within hy (by omega) (by omega), cal_some]
    by_cases y0 : 0 ≤ y ∧ y ≤ (g.sheet u).length
    · rw [decide_eq_true y0, bn_true, if_neg (by decide), iI_sub]
      have e2 : (iI (((g.sheet u).length : Int) - y) < iI n) = (((g.sheet u).length : Int) - y < n) := iI_lt ⟨by omega, hn⟩
      by_cases d : ((g.sheet u).length : Int) - y < n
      · rw [if_pos (by rw [e2]; exact d), rZ0, decide_eq_false (by omega)]; rfl
      · rw [if_neg (by rw [e2]; exact d), rZ1, decide_eq_true (by omega)]; rfl
    · rw [decide_eq_false y0, bn_false, if_pos (by decide), rZ0, decide_eq_false (by omega)]; rfl
theorem c_moveS {x y z t n : Int} (hc : CSt h g) (hg : GV g) (hx : -2147483648 ≤ x ∧ x < 2147483648) (hy : -2147483648 ≤ y ∧ y < 2147483648) (hz : -2147483648 ≤ z ∧ z < 2147483648) (ht : -2147483648 ≤ t ∧ t < 2147483648) (hn : -2147483648 ≤ n ∧ n < 2147483648) : OPC h (f_X10_move h (iI x) (iI y) (iI z) (iI t) (iI n)) (spMove g x y z t n).1 (spMove g x y z t n).2 := by
  unfold f_X10_move spMove
  rw [w_hasSheet hx, cal_some, join_eq, cal2_id]
  by_cases e1 : 0 ≤ x ∧ x ≤ 3
  · obtain ⟨u, rfl⟩ : ∃ u : Nat, x = u := ⟨x.toNat, by omega⟩
    have hu : u < 4 := by omega
    rw [decide_eq_true e1, bn_true, if_neg (by decide), w_hasSheet hz, cal_some]
    by_cases e2 : 0 ≤ z ∧ z ≤ 3
    · obtain ⟨w, rfl⟩ : ∃ w : Nat, z = w := ⟨z.toNat, by omega⟩
      have hw : w < 4 := by omega
      obtain ⟨s1, s2, s3, s4⟩ := hg.2.2.1 u hu
      obtain ⟨t1, t2, t3, t4⟩ := hg.2.2.1 w hw
      obtain ⟨c1, c2, c3⟩ := hc.2.2.2.2.1 u hu
      obtain ⟨d1, d2, d3⟩ := hc.2.2.2.2.1 w hw
      rw [decide_eq_true e2, bn_true, if_pos (by decide), if_pos ⟨e1, e2⟩, rng_i (by omega) (by omega), rng_i (by omega) (by omega), Int.toNat_natCast, Int.toNat_natCast, w_isMissing hc hg hu, cal_some, join_eq, cal2_id]
      by_cases b0 : g.bits u = 0
      · rw [decide_eq_true b0, bn_true, if_pos (by decide), if_pos (Or.inl b0)]
        exact c_fail hc (e := 2) (by omega)
      · rw [decide_eq_false b0, bn_false, if_neg (by decide), w_isMissing hc hg hw, cal_some]
        by_cases b1 : g.bits w = 0
        · rw [decide_eq_true b1, bn_true, if_neg (by decide), if_pos (Or.inr b1)]
          exact c_fail hc (e := 2) (by omega)
        · rw [decide_eq_false b1, bn_false, if_pos (by decide), if_neg (show ¬ (g.bits u = 0 ∨ g.bits w = 0) by omega), c1, d1]
          have eb : (iI (g.bits u) = iI (g.bits w)) = ((g.bits u : Int) = g.bits w) := iI_eq ⟨by omega, by omega⟩
          by_cases b2 : g.bits u = g.bits w
          · rw [if_pos (by rw [eb]; omega), if_pos b2, w_hasPart hc hg hu hy hn, cal_some, join_eq]
            by_cases p1 : 0 ≤ n ∧ 0 ≤ y ∧ y + n ≤ (g.sheet u).length
            · rw [decide_eq_true p1, bn_true, if_neg (by decide), w_hasPart hc hg hw ht hn, cal_some]
              by_cases p2 : 0 ≤ n ∧ 0 ≤ t ∧ t + n ≤ (g.sheet w).length
              · rw [decide_eq_true p2, bn_true, if_pos (by decide), if_pos ⟨p1.1, p1.2.1, p1.2.2, p2.2.1, p2.2.2⟩, acp_i (by omega) (by omega)]
                have fr : ∀ a k, a ≠ 64 + 2 * w + 1 → gI (cpI h (64 + 2 * u + 1) y.toNat (64 + 2 * w + 1) t.toNat n.toNat) a k = gI h a k := fun a k q => by rw [gI_cpI, if_neg (by omega)]
                refine ⟨_, rfl, hc.shs ((fr _ _ (by omega)).trans d1) ((fr _ _ (by omega)).trans (by rw [cpL_len]; exact d2)) (fun k hk => ?_) (fun a k q1 q2 => fr a k q2) (fun a k => gL_cpI _ _ _ _ _ _ _ _), fun a k q => ⟨fr a k (by omega), gL_cpI _ _ _ _ _ _ _ _⟩⟩
                rw [cpL_get, gI_cpI, Nat.zero_add]
                rw [cpL_len] at hk
                by_cases q : t.toNat ≤ k ∧ k < t.toNat + n.toNat
                · rw [if_pos ⟨rfl, q⟩, if_pos q]
                  have := c3 (y.toNat + (k - t.toNat)) (by omega)
                  rw [Nat.zero_add] at this
                  rw [this, ← List.getElem_eq_getD (h := by omega) 0]
                · rw [if_neg (by omega), if_neg q, ← List.getElem_eq_getD (h := by omega) 0]
                  have := d3 k hk
                  rw [Nat.zero_add] at this
                  exact this
              · rw [decide_eq_false p2, bn_false, if_neg (by decide), if_neg (by omega)]
                exact c_fail hc (e := 1) (by omega)
            · rw [decide_eq_false p1, bn_false, if_pos (by decide), if_neg (by omega)]
              exact c_fail hc (e := 1) (by omega)
          · rw [if_neg (by rw [eb]; omega), if_neg b2, cal2_id]
            exact c_fail hc (e := 5) (by omega)
    · rw [decide_eq_false e2, bn_false, if_neg (by decide), if_neg (fun q => e2 q.2)]
      exact c_fail hc (e := 1) (by omega)
  · rw [decide_eq_false e1, bn_false, if_pos (by decide), if_neg (fun q => e1 q.1)]
    exact c_fail hc (e := 1) (by omega)
/-- the model's two loops -/
theorem m_mv2 {w t n : Nat} {F : Nat → Int32} (hw : w < 4) (ht : t + n ≤ 40) (hb : ∀ k, k < n → gI h 86 k = F k) : ∃ h2, lo2 (f_X11_move_k23 (iI n) (iI w) (iI t)) 1000000 (iI 0) h = some (iI n, h2) ∧ (∀ k, k < n → gI h2 85 (40 * w + t + k) = F k) ∧ (∀ x k, x ≠ 85 ∨ k < 40 * w + t ∨ 40 * w + t + n ≤ k → gI h2 x k = gI h x k) ∧ (∀ x k, gL h2 x k = gL h x k) := by
  obtain ⟨N, hN⟩ : ∃ N : Nat, N = 1000000 := ⟨_, rfl⟩
  rw [← hN]
  refine lo2_t (fun f x1 m => ∃ i : Nat, x1 = iI i ∧ i + f = n ∧ (∀ k, k < i → gI m 85 (40 * w + t + k) = F k) ∧ (∀ x k, x ≠ 85 ∨ k < 40 * w + t ∨ 40 * w + t + n ≤ k → gI m x k = gI h x k) ∧ (∀ x k, gL m x k = gL h x k)) (fun o => ∃ h2, o = some (iI n, h2) ∧ (∀ k, k < n → gI h2 85 (40 * w + t + k) = F k) ∧ (∀ x k, x ≠ 85 ∨ k < 40 * w + t ∨ 40 * w + t + n ≤ k → gI h2 x k = gI h x k) ∧ (∀ x k, gL h2 x k = gL h x k)) ?_ N n _ _ (by omega) ⟨0, rfl, by omega, fun k hk => absurd hk (Nat.not_lt_zero k), fun _ _ _ => rfl, fun _ _ => rfl⟩
  rintro f x1 m ⟨i, rfl, hf, e1, e2, e3⟩ Kc
  unfold f_X11_move_k23
  have e : (iI n ≤ iI i) = ((n : Int) ≤ i) := iI_le ⟨by omega, by omega⟩
  by_cases hi : i = n
  · left
    subst hi
    rw [if_pos (by rw [e]; omega)]
    exact ⟨_, rfl, m, rfl, e1, e2, e3⟩
  · right
    rw [if_neg (by rw [e]; omega), ald_i (by omega) (by omega), Int.toNat_natCast, e2 _ _ (by omega), hb i (by omega), iI_mul, iI_add, iI_add, ast_i (by omega) (by omega), nm_eq, iI_add, show ((40 : Int) * (w : Int) + (t : Int) + (i : Int)).toNat = 40 * w + t + i by omega]
    refine ⟨f - 1, _, _, by omega, ⟨i + 1, rfl, by omega, fun k hk => ?_, fun x k hx => ?_, ?_⟩, rfl⟩
    · by_cases hk2 : k = i
      · rw [hk2, gI_same]
      · rw [gI_ne (by omega)]; exact e1 k (by omega)
    · rw [gI_ne (by omega)]; exact e2 x k hx
    · exact e3
theorem m_mv1 {u y w t n : Nat} (hu : u < 4) (hy : y + n ≤ 40) (hw : w < 4) (ht : t + n ≤ 40) : ∃ h2, lo2 (f_X11_move_k20 (iI n) (iI w) (iI t) (iI u) (iI y)) 1000000 (iI 0) h = some (iI n, h2) ∧ (∀ k, k < n → gI h2 85 (40 * w + t + k) = gI h 85 (40 * u + y + k)) ∧ (∀ x k, x ≠ 86 → (x ≠ 85 ∨ k < 40 * w + t ∨ 40 * w + t + n ≤ k) → gI h2 x k = gI h x k) ∧ (∀ x k, gL h2 x k = gL h x k) := by
  obtain ⟨N, hN⟩ : ∃ N : Nat, N = 1000000 := ⟨_, rfl⟩
  rw [← hN]
  refine lo2_t (fun f x1 m => ∃ i : Nat, x1 = iI i ∧ i + f = n ∧ (∀ k, k < i → gI m 86 k = gI h 85 (40 * u + y + k)) ∧ (∀ x k, x ≠ 86 → gI m x k = gI h x k) ∧ (∀ x k, gL m x k = gL h x k)) (fun o => ∃ h2, o = some (iI n, h2) ∧ (∀ k, k < n → gI h2 85 (40 * w + t + k) = gI h 85 (40 * u + y + k)) ∧ (∀ x k, x ≠ 86 → (x ≠ 85 ∨ k < 40 * w + t ∨ 40 * w + t + n ≤ k) → gI h2 x k = gI h x k) ∧ (∀ x k, gL h2 x k = gL h x k)) ?_ N n _ _ (by omega) ⟨0, rfl, by omega, fun k hk => absurd hk (Nat.not_lt_zero k), fun _ _ _ => rfl, fun _ _ => rfl⟩
  rintro f x1 m ⟨i, rfl, hf, e1, e2, e3⟩ Kc
  unfold f_X11_move_k20
  have e : (iI n ≤ iI i) = ((n : Int) ≤ i) := iI_le ⟨by omega, by omega⟩
  by_cases hi : i = n
  · left
    subst hi
    rw [if_pos (by rw [e]; omega)]
    obtain ⟨m2, p1, p2, p3, p4⟩ := m_mv2 (h := m) (w := w) (t := t) (n := i) (F := fun k => gI h 85 (40 * u + y + k)) hw ht e1
    exact ⟨_, p1, m2, rfl, p2, fun x k q1 q2 => (p3 x k q2).trans (e2 x k q1), fun x k => (p4 x k).trans (e3 x k)⟩
  · right
    rw [if_neg (by rw [e]; omega), iI_mul, iI_add, iI_add, ald_i (by omega) (by omega), show ((40 : Int) * (u : Int) + (y : Int) + (i : Int)).toNat = 40 * u + y + i by omega, ast_i (by omega) (by omega), Int.toNat_natCast, e2 _ _ (by omega), nm_eq, iI_add]
    refine ⟨f - 1, _, _, by omega, ⟨i + 1, rfl, by omega, fun k hk => ?_, fun x k hx => ?_, ?_⟩, rfl⟩
    · by_cases hk2 : k = i
      · rw [hk2, gI_same]
      · rw [gI_ne (by omega)]; exact e1 k (by omega)
    · rw [gI_ne (by omega)]; exact e2 x k hx
    · exact e3
theorem m_moveS {x y z t n : Int} (hm : MSt h g) (hg : GV g) (hx : -2147483648 ≤ x ∧ x < 2147483648) (hy : -2147483648 ≤ y ∧ y < 2147483648) (hz : -2147483648 ≤ z ∧ z < 2147483648) (ht : -2147483648 ≤ t ∧ t < 2147483648) (hn : -2147483648 ≤ n ∧ n < 2147483648) : OPM h (f_X11_move h (iI x) (iI y) (iI z) (iI t) (iI n)) (spMove g x y z t n).1 (spMove g x y z t n).2 := by
  unfold f_X11_move spMove
  rw [m_isSheet hx, cal_some, join_eq, cal2_id]
  by_cases e1 : 0 ≤ x ∧ x ≤ 3
  · obtain ⟨u, rfl⟩ : ∃ u : Nat, x = u := ⟨x.toNat, by omega⟩
    have hu : u < 4 := by omega
    rw [decide_eq_true e1, bn_true, if_neg (by decide), m_isSheet hz, cal_some]
    by_cases e2 : 0 ≤ z ∧ z ≤ 3
    · obtain ⟨w, rfl⟩ : ∃ w : Nat, z = w := ⟨z.toNat, by omega⟩
      have hw : w < 4 := by omega
      obtain ⟨s1, s2, s3, s4⟩ := hg.2.2.1 u hu
      obtain ⟨t1, t2, t3, t4⟩ := hg.2.2.1 w hw
      obtain ⟨c1, c2, c3⟩ := hm.2.2.2.2.2.1 u hu
      obtain ⟨d1, d2, d3⟩ := hm.2.2.2.2.2.1 w hw
      have eb0 : (iI (g.bits u) = 0) = ((g.bits u : Int) = 0) := by rw [iI_zero]; exact iI_eq ⟨by omega, by omega⟩
      have eb1 : (iI (g.bits w) = 0) = ((g.bits w : Int) = 0) := by rw [iI_zero]; exact iI_eq ⟨by omega, by omega⟩
      rw [decide_eq_true e2, bn_true, if_pos (by decide), if_pos ⟨e1, e2⟩, ald_i (by omega) (by omega), Int.toNat_natCast, Int.toNat_natCast, c1, join_eq, cal2_id]
      by_cases b0 : g.bits u = 0
      · rw [if_pos (by rw [eb0]; omega), if_pos (Or.inl b0)]
        exact c_errs hm hg (e := 2) (by omega)
      · rw [if_neg (by rw [eb0]; omega), ald_i (by omega) (by omega), Int.toNat_natCast, d1]
        by_cases b1 : g.bits w = 0
        · rw [if_neg (by rw [eb1]; omega), if_pos (Or.inr b1)]
          exact c_errs hm hg (e := 2) (by omega)
        · rw [if_pos (by rw [eb1]; omega), if_neg (by omega), ald_i (by omega) (by omega), Int.toNat_natCast, ald_i (by omega) (by omega), Int.toNat_natCast, c1, d1]
          have eb : (iI (g.bits u) = iI (g.bits w)) = ((g.bits u : Int) = g.bits w) := iI_eq ⟨by omega, by omega⟩
          by_cases b2 : g.bits u = g.bits w
          · rw [if_pos (by rw [eb]; omega), if_pos b2, join_eq]
            have n0 : (iI n < 0) = (n < 0) := by rw [iI_zero]; exact iI_lt ⟨hn, by omega⟩
            have y0 : (iI y < 0) = (y < 0) := by rw [iI_zero]; exact iI_lt ⟨hy, by omega⟩
            have t0 : (iI t < 0) = (t < 0) := by rw [iI_zero]; exact iI_lt ⟨ht, by omega⟩
            by_cases p1 : n < 0
            · rw [if_pos (by rw [n0]; exact p1), if_neg (by omega)]
              exact c_errs hm hg (e := 1) (by omega)
            rw [if_neg (by rw [n0]; exact p1)]
            by_cases p2 : y < 0
            · rw [if_pos (by rw [y0]; exact p2), if_neg (by omega)]
              exact c_errs hm hg (e := 1) (by omega)
            rw [if_neg (by rw [y0]; exact p2)]
            by_cases p3 : t < 0
            · rw [if_pos (by rw [t0]; exact p3), if_neg (by omega)]
              exact c_errs hm hg (e := 1) (by omega)
            rw [if_neg (by rw [t0]; exact p3), ald_i (by omega) (by omega), Int.toNat_natCast, c2, iI_sub]
            have e4 : (iI (((g.sheet u).length : Int) - n) < iI y) = (((g.sheet u).length : Int) - n < y) := iI_lt ⟨by omega, by omega⟩
            by_cases p4 : ((g.sheet u).length : Int) - n < y
            · rw [if_pos (by rw [e4]; exact p4), if_neg (by omega)]
              exact c_errs hm hg (e := 1) (by omega)
            rw [if_neg (by rw [e4]; exact p4), ald_i (by omega) (by omega), Int.toNat_natCast, d2, iI_sub]
            have e5 : (iI t ≤ iI (((g.sheet w).length : Int) - n)) = (t ≤ ((g.sheet w).length : Int) - n) := iI_le ⟨by omega, by omega⟩
            by_cases p5 : t ≤ ((g.sheet w).length : Int) - n
            · rw [if_pos (by rw [e5]; exact p5), if_pos (by omega)]
              obtain ⟨n', rfl⟩ : ∃ n' : Nat, n = n' := ⟨n.toNat, by omega⟩
              obtain ⟨y', rfl⟩ : ∃ y' : Nat, y = y' := ⟨y.toNat, by omega⟩
              obtain ⟨t', rfl⟩ : ∃ t' : Nat, t = t' := ⟨t.toNat, by omega⟩
              obtain ⟨m1, q1, q2, q3, q4⟩ := m_mv1 (h := h) (u := u) (y := y') (w := w) (t := t') (n := n') hu (by omega) hw (by omega)
              rw [q1, Int.toNat_natCast, Int.toNat_natCast, Int.toNat_natCast]
              refine ⟨m1, rfl, hm.shs hg hw ((q3 _ _ (by omega) (by omega)).trans d1) ((q3 _ _ (by omega) (by omega)).trans (by rw [cpL_len]; exact d2)) (fun k hk => ?_) (fun a k r1 r2 r3 r4 => q3 a k r4 (by omega)), fun a k r => ⟨q3 a k (by omega) (by omega), q4 a k⟩⟩
              rw [cpL_get]
              rw [cpL_len] at hk
              by_cases q : t' ≤ k ∧ k < t' + n'
              · rw [if_pos q, show 40 * w + k = 40 * w + t' + (k - t') by omega, q2 _ (by omega), show 40 * u + y' + (k - t') = 40 * u + (y' + (k - t')) by omega, c3 _ (by omega), ← List.getElem_eq_getD (h := by omega) 0, b2]
              · rw [if_neg q, q3 _ _ (by omega) (by omega), d3 k hk, ← List.getElem_eq_getD (h := by omega) 0]
            · rw [if_neg (by rw [e5]; exact p5), if_neg (by omega)]
              exact c_errs hm hg (e := 1) (by omega)
          · rw [if_neg (by rw [eb]; omega), if_neg b2, cal2_id]
            exact c_errs hm hg (e := 5) (by omega)
    · rw [decide_eq_false e2, bn_false, if_neg (by decide), if_neg (fun q => e2 q.2)]
      exact c_errs hm hg (e := 1) (by omega)
  · rw [decide_eq_false e1, bn_false, if_pos (by decide), if_neg (fun q => e1 q.1)]
    exact c_errs hm hg (e := 1) (by omega)
theorem GV.move {x y z t n : Int} (hg : GV g) : GV (spMove g x y z t n).2 := by
  unfold spMove
  by_cases e1 : (0 ≤ x ∧ x ≤ 3) ∧ (0 ≤ z ∧ z ≤ 3)
  · rw [if_pos e1]
    obtain ⟨s1, s2, s3, s4⟩ := hg.2.2.1 x.toNat (by omega)
    obtain ⟨t1, t2, t3, t4⟩ := hg.2.2.1 z.toNat (by omega)
    by_cases b0 : g.bits x.toNat = 0 ∨ g.bits z.toNat = 0
    · rw [if_pos b0]; exact hg.fail 2
    · rw [if_neg b0]
      by_cases b1 : g.bits x.toNat = g.bits z.toNat
      · rw [if_pos b1]
        by_cases e2 : 0 ≤ n ∧ 0 ≤ y ∧ y + n ≤ (g.sheet x.toNat).length ∧ 0 ≤ t ∧ t + n ≤ (g.sheet z.toNat).length
        · rw [if_pos e2]
          refine hg.shs ⟨by rw [cpL_len]; exact t1, t2, fun q => absurd (Or.inr q) b0, fun w hw => ?_⟩
          obtain ⟨k, hk, rfl⟩ := List.getElem_of_mem hw
          obtain ⟨o1, o2, o3, o4, o5⟩ := e2
          rw [cpL_get]
          rw [cpL_len] at hk
          by_cases q : t.toNat ≤ k ∧ k < t.toNat + n.toNat
          · rw [if_pos q, ← List.getElem_eq_getD (h := by omega) 0, ← b1]
            exact s4 _ (List.getElem_mem _)
          · rw [if_neg q, ← List.getElem_eq_getD (h := by omega) 0]
            exact t4 _ (List.getElem_mem _)
        · rw [if_neg e2]; exact hg.fail 1
      · rw [if_neg b1]; exact hg.fail 5
  · rw [if_neg e1]; exact hg.fail 1
end MOVEOP
