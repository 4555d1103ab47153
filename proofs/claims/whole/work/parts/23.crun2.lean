theorem lo2_t {ρ A B : Type} {F : A → B → (A → B → Option ρ) → Option ρ} (Inv : Nat → A → B → Prop) (Post : Option ρ → Prop)
    (step : ∀ f a b, Inv f a b → ∀ K, (∃ o, F a b K = o ∧ Post o) ∨ (∃ f' a' b', f' < f ∧ Inv f' a' b' ∧ F a b K = K a' b')) : ∀ N f a b, f < N → Inv f a b → Post (lo2 F N a b)
  | 0, f, a, b, h, _ => absurd h (Nat.not_lt_zero f)
  | N + 1, f, a, b, h, hi => by
    show Post (F a b (lo2 F N))
    rcases step f a b hi (lo2 F N) with ⟨o, h1, h2⟩ | ⟨f', a', b', h1, h2, h3⟩
    · rw [h1]; exact h2
    · rw [h3]; exact lo2_t Inv Post step N f' a' b' (by omega) h2
theorem w_window {h : Mem} {a b R C : Nat} {r c : Int} (h0 : gI h b 0 = iI r) (h1 : gI h b 1 = iI c) (hR : gI h a 0 = iI R) (hC : gI h a 1 = iI C) (hr : -1 ≤ r ∧ r ≤ 5) (hc : -1 ≤ c ∧ c ≤ 5) (hR5 : R ≤ 5) (hC5 : C ≤ 5) :
    f_X0_windowHere h b a = some (iI (if r < 0 then c else if (C : Int) ≤ c then C + r else if (R : Int) ≤ r then C + R + c else 2 * C + R + r)) := by
  unfold f_X0_windowHere
  rw [h0, h1, hR, hC]
  by_cases e1 : r < 0
  · simp (disch := omega) only [iI_add, iI_sub, iI_mul, iI_neg, ald_i, ast_i, aldL_i, astL_i, tld_i, rng_i, acp_i, nz_i, rZ0, rZ1, cal_some, cal2_some, join_eq, nm_eq, gI_same, gI_ne, gL_same, gL_ne, gI_sL, gL_sI, iI_lt, iI_le, iI_eq, iI_zero, mnI_i, mxI_i, if_pos, if_neg, ifT, ifF, not_true_eq_false, not_false_eq_true, Int.toNat_natCast]
  · by_cases e2 : (C : Int) ≤ c
    · simp (disch := omega) only [iI_add, iI_sub, iI_mul, iI_neg, ald_i, ast_i, aldL_i, astL_i, tld_i, rng_i, acp_i, nz_i, rZ0, rZ1, cal_some, cal2_some, join_eq, nm_eq, gI_same, gI_ne, gL_same, gL_ne, gI_sL, gL_sI, iI_lt, iI_le, iI_eq, iI_zero, mnI_i, mxI_i, if_pos, if_neg, ifT, ifF, not_true_eq_false, not_false_eq_true, Int.toNat_natCast]
    · by_cases e3 : (R : Int) ≤ r
      · simp (disch := omega) only [iI_add, iI_sub, iI_mul, iI_neg, ald_i, ast_i, aldL_i, astL_i, tld_i, rng_i, acp_i, nz_i, rZ0, rZ1, cal_some, cal2_some, join_eq, nm_eq, gI_same, gI_ne, gL_same, gL_ne, gI_sL, gL_sI, iI_lt, iI_le, iI_eq, iI_zero, mnI_i, mxI_i, if_pos, if_neg, ifT, ifF, not_true_eq_false, not_false_eq_true, Int.toNat_natCast]
      · simp (disch := omega) only [iI_add, iI_sub, iI_mul, iI_neg, ald_i, ast_i, aldL_i, astL_i, tld_i, rng_i, acp_i, nz_i, rZ0, rZ1, cal_some, cal2_some, join_eq, nm_eq, gI_same, gI_ne, gL_same, gL_ne, gI_sL, gL_sI, iI_lt, iI_le, iI_eq, iI_zero, mnI_i, mxI_i, if_pos, if_neg, ifT, ifF, not_true_eq_false, not_false_eq_true, Int.toNat_natCast]
/-- h' is as h but in the hall at a (its slants, times, lit) and in the beam at b -/
def FrR (h h' : Mem) (a b : Nat) : Prop := ∀ x k, x ≠ a → x ≠ a + 3 → x ≠ b → gI h' x k = gI h x k ∧ gL h' x k = gL h x k
theorem FrR.tr {h h1 h2 : Mem} {a b : Nat} (x : FrR h h1 a b) (y : FrR h1 h2 a b) : FrR h h2 a b := fun c k q1 q2 q3 => ⟨(y c k q1 q2 q3).1.trans (x c k q1 q2 q3).1, (y c k q1 q2 q3).2.trans (x c k q1 q2 q3).2⟩
theorem upN_ok {L : Nat → Nat} {q v : Nat} {x : Nat} {P : Int32} (h : x = q → P = iI v) (h2 : x ≠ q → P = iI (L x)) : P = iI (upN L q v x) := by
  unfold upN
  by_cases e : x = q
  · rw [if_pos e]; exact h e
  · rw [if_neg e]; exact h2 e
theorem hc_lit {h : Mem} {a R C q v : Nat} {K M T L : Nat → Nat} {S : Nat → Bool} (hh : HC h a R C K M S T L) : HC (sI h (a + 3) q (iI v)) a R C K M S T (upN L q v) := by
  obtain ⟨h1, h2, h3, h4, h5, h6, h7⟩ := hh
  refine ⟨by rw [gI_ne (by omega)]; exact h1, by rw [gI_ne (by omega)]; exact h2, fun p hp => by rw [gI_ne (by omega)]; exact h3 p hp, fun p hp => by rw [gI_ne (by omega)]; exact h4 p hp, fun p hp => upN_ok (fun e => ?_) (fun e => ?_), by rw [gI_ne (by omega)]; exact h6, by rw [gL_sI]; exact h7⟩
  · rw [e, gI_same]
  · rw [gI_ne (by omega)]; exact h5 p hp
theorem hc_far {h : Mem} {a R C b k : Nat} {v : Int32} {K M T L : Nat → Nat} {S : Nat → Bool} (hh : HC h a R C K M S T L) (hb : b < a ∨ a + 3 < b) : HC (sI h b k v) a R C K M S T L := by
  obtain ⟨h1, h2, h3, h4, h5, h6, h7⟩ := hh
  exact ⟨by rw [gI_ne (by omega)]; exact h1, by rw [gI_ne (by omega)]; exact h2, fun p hp => by rw [gI_ne (by omega)]; exact h3 p hp, fun p hp => by rw [gI_ne (by omega)]; exact h4 p hp, fun p hp => by rw [gI_ne (by omega)]; exact h5 p hp, by rw [gI_ne (by omega)]; exact h6, by rw [gL_sI]; exact h7⟩
theorem hc_turn {h h2 : Mem} {a R C : Nat} {K M T T2 L : Nat → Nat} {S S2 : Nat → Bool} (hh : HC h a R C K M S T L) (e1 : gI h2 a 5 = slW S2) (e2 : gL h2 a 6 = tmW T2) (e3 : ∀ b k, b ≠ a ∨ k ≠ 5 → gI h2 b k = gI h b k) : HC h2 a R C K M S2 T2 L := by
  obtain ⟨h1, h2', h3, h4, h5, h6, h7⟩ := hh
  exact ⟨by rw [e3 _ _ (by omega)]; exact h1, by rw [e3 _ _ (by omega)]; exact h2', fun p hp => by rw [e3 _ _ (by omega)]; exact h3 p hp, fun p hp => by rw [e3 _ _ (by omega)]; exact h4 p hp, fun p hp => by rw [e3 _ _ (by omega)]; exact h5 p hp, e1, e2⟩
/-- what stands in hall and beam behind a ray -/
def RayC (h0 h : Mem) (a b R C : Nat) (K M : Nat → Nat) (x : RES) : Prop :=
  HC h a R C K M x.2.1 x.2.2.1 x.2.2.2.1 ∧ VD R C M x.2.1 x.2.2.1 x.2.2.2.1 ∧ gI h b 4 = iI x.2.2.2.2.1 ∧ gI h b 5 = slW x.2.2.2.2.2.1 ∧ gI h b 3 = iI x.2.2.2.2.2.2.1 ∧ gI h b 6 = gI h0 b 6 ∧ gI h b 7 = iI x.2.2.2.2.2.2.2 ∧ FrR h0 h a b ∧ (∀ q, R * C ≤ q → x.2.2.2.2.2.1 q = false)
theorem or_bit {S : Nat → Bool} {q : Nat} (hq : q < 25) : slW S ||| shlI (iI 1) (iI q) = slW (upB S q true) := by
  apply b_ext
  intro i hi
  rw [b_or, b_slN _ _ (by omega) i hi, b_slN _ _ (by omega) i hi, b_bit (by omega) hi]
  unfold upB
  by_cases h : i = q
  · subst h; simp [hq]
  · simp [h]
section RUN
variable {h0 : Mem} {a b R C : Nat} {K M : Nat → Nat} {wt : Int}
/-- the ray goes on behind a square: from the square at r, c with the way w -/
theorem w_go (hV : VS R C K M) (hab : b < a ∨ a + 3 < b) {h : Mem} {S : Nat → Bool} {T L : Nat → Nat} {r c w n : Nat} {Kc : Int32 → Mem → Option (Int32 × Mem)} (hh : HC h a R C K M S T L) (h0' : gI h b 0 = iI r) (h1' : gI h b 1 = iI c) (h2' : gI h b 2 = iI w) (hr : r < R) (hc : c < C) (hw : w < 4) (hn : n < 5000) :
    (∃ h', f_X0_run_k17 b a (iI n) Kc h = Kc (iI (n + 1 : Nat)) h' ∧ ∃ r' c', r' < R ∧ c' < C ∧ gI h' b 0 = iI (r' : Nat) ∧ gI h' b 1 = iI (c' : Nat) ∧ (∀ x k, (x ≠ b ∨ 2 ≤ k) → gI h' x k = gI h x k) ∧ (∀ x k, gL h' x k = gL h x k) ∧
      (∀ (f : Nat) th se sw, (if w = 0 then (if r = 0 then (c, S, T, L, th, se, n + 1, sw) else rayF R C K M wt f (r - 1) c w S T L th se (n + 1) sw) else if w = 1 then (if c + 1 = C then (C + r, S, T, L, th, se, n + 1, sw) else rayF R C K M wt f r (c + 1) w S T L th se (n + 1) sw) else if w = 2 then (if r + 1 = R then (C + R + c, S, T, L, th, se, n + 1, sw) else rayF R C K M wt f (r + 1) c w S T L th se (n + 1) sw) else (if c = 0 then (2 * C + R + r, S, T, L, th, se, n + 1, sw) else rayF R C K M wt f r (c - 1) w S T L th se (n + 1) sw)) = rayF R C K M wt f r' c' w S T L th se (n + 1) sw)) ∨
    (∃ h' out, f_X0_run_k17 b a (iI n) Kc h = some (iI (out : Nat), h') ∧ (∀ x k, (x ≠ b ∨ 2 ≤ k) → gI h' x k = gI h x k) ∧ (∀ x k, gL h' x k = gL h x k) ∧
      (∀ (f : Nat) th se sw, (if w = 0 then (if r = 0 then (c, S, T, L, th, se, n + 1, sw) else rayF R C K M wt f (r - 1) c w S T L th se (n + 1) sw) else if w = 1 then (if c + 1 = C then (C + r, S, T, L, th, se, n + 1, sw) else rayF R C K M wt f r (c + 1) w S T L th se (n + 1) sw) else if w = 2 then (if r + 1 = R then (C + R + c, S, T, L, th, se, n + 1, sw) else rayF R C K M wt f (r + 1) c w S T L th se (n + 1) sw) else (if c = 0 then (2 * C + R + r, S, T, L, th, se, n + 1, sw) else rayF R C K M wt f r (c - 1) w S T L th se (n + 1) sw)) = ((out, S, T, L, th, se, n + 1, sw) : RES))) := by
  obtain ⟨v1, v2, v3, v4, -, -⟩ := hV
  have hR := hh.1
  have hC := hh.2.1
  unfold f_X0_run_k17
  rw [w_goOn (r := r) (c := c) h0' h1' h2' hw, cal_some]
  rcases (show w = 0 ∨ w = 1 ∨ w = 2 ∨ w = 3 by omega) with rfl | rfl | rfl | rfl
  · simp only [if_true]
    rw [w_isOut (R := R) (C := C) (r := r - 1) (c := c) (a := a) gI_same (by rw [gI_ne (by omega)]; exact h1') (by rw [gI_ne (by omega)]; exact hR) (by rw [gI_ne (by omega)]; exact hC) (by omega) (by omega) v2 v4, cal_some]
    by_cases e : r = 0
    · right
      refine ⟨(sI h b 0 (iI ((r : Int) - 1))), c, ?_, fun x k hx => gI_ne (by omega), fun x k => rfl, fun f th se sw => if_pos e⟩
      rw [show decide ((r : Int) - 1 < 0 ∨ (R : Int) ≤ r - 1 ∨ (c : Int) < 0 ∨ (C : Int) ≤ c) = true from decide_eq_true (by omega), if_neg (by decide), w_window (R := R) (C := C) (r := r - 1) (c := c) (a := a) gI_same (by rw [gI_ne (by omega)]; exact h1') (by rw [gI_ne (by omega)]; exact hR) (by rw [gI_ne (by omega)]; exact hC) (by omega) (by omega) v2 v4, cal_some, if_pos (by omega)]
    · left
      refine ⟨(sI h b 0 (iI ((r : Int) - 1))), ?_, r - 1, c, by omega, hc, ?_, ?_, fun x k hx => gI_ne (by omega), fun x k => rfl, fun f th se sw => if_neg e⟩
      · rw [show decide ((r : Int) - 1 < 0 ∨ (R : Int) ≤ r - 1 ∨ (c : Int) < 0 ∨ (C : Int) ≤ c) = false from decide_eq_false (by omega), if_pos (by decide), nm_eq, iI_add]
        rfl
      · rw [gI_same]; congr 1; omega
      · rw [gI_ne (by omega)]; exact h1'
  · simp only [if_true, show ¬ (1 = 0) by omega, if_false]
    rw [w_isOut (R := R) (C := C) (r := r) (c := c + 1) (a := a) (by rw [gI_ne (by omega)]; exact h0') gI_same (by rw [gI_ne (by omega)]; exact hR) (by rw [gI_ne (by omega)]; exact hC) (by omega) (by omega) v2 v4, cal_some]
    by_cases e : c + 1 = C
    · right
      refine ⟨(sI h b 1 (iI ((c : Int) + 1))), C + r, ?_, fun x k hx => gI_ne (by omega), fun x k => rfl, fun f th se sw => if_pos e⟩
      rw [show decide ((r : Int) < 0 ∨ (R : Int) ≤ r ∨ (c : Int) + 1 < 0 ∨ (C : Int) ≤ c + 1) = true from decide_eq_true (by omega), if_neg (by decide), w_window (R := R) (C := C) (r := r) (c := c + 1) (a := a) (by rw [gI_ne (by omega)]; exact h0') gI_same (by rw [gI_ne (by omega)]; exact hR) (by rw [gI_ne (by omega)]; exact hC) (by omega) (by omega) v2 v4, cal_some, if_neg (by omega), if_pos (by omega)]
      rfl
    · left
      refine ⟨(sI h b 1 (iI ((c : Int) + 1))), ?_, r, c + 1, hr, by omega, ?_, ?_, fun x k hx => gI_ne (by omega), fun x k => rfl, fun f th se sw => if_neg e⟩
      · rw [show decide ((r : Int) < 0 ∨ (R : Int) ≤ r ∨ (c : Int) + 1 < 0 ∨ (C : Int) ≤ c + 1) = false from decide_eq_false (by omega), if_pos (by decide), nm_eq, iI_add]
        rfl
      · rw [gI_ne (by omega)]; exact h0'
      · rw [gI_same]; rfl
  · simp only [if_true, show ¬ (2 = 0) by omega, show ¬ (2 = 1) by omega, if_false]
    rw [w_isOut (R := R) (C := C) (r := r + 1) (c := c) (a := a) gI_same (by rw [gI_ne (by omega)]; exact h1') (by rw [gI_ne (by omega)]; exact hR) (by rw [gI_ne (by omega)]; exact hC) (by omega) (by omega) v2 v4, cal_some]
    by_cases e : r + 1 = R
    · right
      refine ⟨(sI h b 0 (iI ((r : Int) + 1))), C + R + c, ?_, fun x k hx => gI_ne (by omega), fun x k => rfl, fun f th se sw => if_pos e⟩
      rw [show decide ((r : Int) + 1 < 0 ∨ (R : Int) ≤ r + 1 ∨ (c : Int) < 0 ∨ (C : Int) ≤ c) = true from decide_eq_true (by omega), if_neg (by decide), w_window (R := R) (C := C) (r := r + 1) (c := c) (a := a) gI_same (by rw [gI_ne (by omega)]; exact h1') (by rw [gI_ne (by omega)]; exact hR) (by rw [gI_ne (by omega)]; exact hC) (by omega) (by omega) v2 v4, cal_some, if_neg (by omega), if_neg (by omega), if_pos (by omega)]
      rfl
    · left
      refine ⟨(sI h b 0 (iI ((r : Int) + 1))), ?_, r + 1, c, by omega, hc, ?_, ?_, fun x k hx => gI_ne (by omega), fun x k => rfl, fun f th se sw => if_neg e⟩
      · rw [show decide ((r : Int) + 1 < 0 ∨ (R : Int) ≤ r + 1 ∨ (c : Int) < 0 ∨ (C : Int) ≤ c) = false from decide_eq_false (by omega), if_pos (by decide), nm_eq, iI_add]
        rfl
      · rw [gI_same]; rfl
      · rw [gI_ne (by omega)]; exact h1'
  · simp only [show ¬ (3 = 0) by omega, show ¬ (3 = 1) by omega, show ¬ (3 = 2) by omega, if_false]
    rw [w_isOut (R := R) (C := C) (r := r) (c := c - 1) (a := a) (by rw [gI_ne (by omega)]; exact h0') gI_same (by rw [gI_ne (by omega)]; exact hR) (by rw [gI_ne (by omega)]; exact hC) (by omega) (by omega) v2 v4, cal_some]
    by_cases e : c = 0
    · right
      refine ⟨(sI h b 1 (iI ((c : Int) - 1))), 2 * C + R + r, ?_, fun x k hx => gI_ne (by omega), fun x k => rfl, fun f th se sw => if_pos e⟩
      rw [show decide ((r : Int) < 0 ∨ (R : Int) ≤ r ∨ (c : Int) - 1 < 0 ∨ (C : Int) ≤ c - 1) = true from decide_eq_true (by omega), if_neg (by decide), w_window (R := R) (C := C) (r := r) (c := c - 1) (a := a) (by rw [gI_ne (by omega)]; exact h0') gI_same (by rw [gI_ne (by omega)]; exact hR) (by rw [gI_ne (by omega)]; exact hC) (by omega) (by omega) v2 v4, cal_some, if_neg (by omega), if_neg (by omega), if_neg (by omega)]
      rfl
    · left
      refine ⟨(sI h b 1 (iI ((c : Int) - 1))), ?_, r, c - 1, hr, by omega, ?_, ?_, fun x k hx => gI_ne (by omega), fun x k => rfl, fun f th se sw => if_neg e⟩
      · rw [show decide ((r : Int) < 0 ∨ (R : Int) ≤ r ∨ (c : Int) - 1 < 0 ∨ (C : Int) ≤ c - 1) = false from decide_eq_false (by omega), if_pos (by decide), nm_eq, iI_add]
        rfl
      · rw [gI_ne (by omega)]; exact h0'
      · rw [gI_same]; congr 1; omega
end RUN
